/-! THE CLASS's READER is the pure reader -/
def stOK (l : List Int32) : Prop := ∀ w, w ∈ l → w = 103 ∨ w = 116 ∨ w = 41
theorem stOK_app {a l : List Int32} (h1 : stOK a) (h2 : stOK l) : stOK (a ++ l) := fun w hw => (List.mem_append.mp hw).elim (h1 w) (h2 w)
theorem tAw_ok (c : Int32) : stOK (tAw c) := by
  unfold tAw
  split
  · intro w hw
    simp at hw
    rcases hw with rfl | rfl <;> simp
  · intro w hw
    cases hw
theorem gAw_ok (c : Int32) : stOK (gAw c) := by
  unfold gAw
  intro w hw
  split at hw
  · simp at hw; simp [hw]
  · split at hw
    · simp at hw; simp [hw]
    · split at hw
      · simp at hw; simp [hw]
      · cases hw
theorem rdOK_step {i : Nat} {c w : Int32} {l : List Int32} {ng nt : Nat} {bad : Option Nat} {S2 : rdS} (h : rdOK i (w :: l, ng, nt, bad)) (hl : stOK l) (g : RStep i c w (l, ng, nt, bad) S2) : rdOK (i + 1) S2 ∧ stOK S2.1 := by
  obtain ⟨o1, o2, o3, o4, o5⟩ := h
  simp only [List.length_cons] at o1 o2 o3 o4 o5
  rcases g with ⟨_, _, rfl⟩ | ⟨_, _, _, rfl⟩ | ⟨_, _, _, rfl⟩
  · exact ⟨⟨by simp only; omega, by simp only; omega, by simp only; omega, fun b hb => by have := o4 b hb; omega, o5⟩, hl⟩
  · refine ⟨⟨?_, by simp only; omega, by simp only; omega, fun b hb => ?_, fun hb => ?_⟩, stOK_app (tAw_ok c) hl⟩
    · have := tAw_len c
      simp only [List.length_append]
      omega
    · simp only [tBad] at hb
      split at hb
      · cases hb; omega
      · have := o4 b hb; omega
    · simp only [tBad] at hb
      split at hb
      · cases hb
      · next q =>
        have := o5 hb
        have : nt ≠ 40 := fun e => q ⟨e, hb⟩
        simp only
        omega
  · refine ⟨⟨?_, by simp only; omega, by simp only; omega, fun b hb => ?_, fun hb => ?_⟩, stOK_app (gAw_ok c) hl⟩
    · have := gAw_len c
      simp only [List.length_append]
      omega
    · simp only [gBad] at hb
      split at hb
      · cases hb; omega
      · have := o4 b hb; omega
    · simp only [gBad] at hb
      split at hb
      · cases hb
      · next q =>
        have := o5 hb
        have : ng ≠ 24 := fun e => q ⟨e, hb⟩
        simp only
        omega
