/-! THE CLASS's READER: signs, exactly -/
/-- how far the class's reader is -/
def cRd (s : rSg) (S : rdS) : Prop := cw s S.1 ∧ s 678 5 = nI S.2.1 ∧ s 678 6 = nI S.2.2.1 ∧ s 678 7 = badI S.2.2.2
def rdOK (i : Nat) (S : rdS) : Prop := S.1.length ≤ 1 + 2 * i ∧ S.2.1 ≤ i ∧ S.2.2.1 ≤ i ∧ (∀ b, S.2.2.2 = some b → b ≤ i) ∧ (S.2.2.2 = none → S.2.1 ≤ 24 ∧ S.2.2.1 ≤ 40)
theorem badI_m1 {b : Option Nat} (h : ∀ x, b = some x → x < 1000) : badI b = -1 ↔ b = none := by
  cases b with
  | none => exact ⟨fun _ => rfl, fun _ => rfl⟩
  | some x =>
    refine ⟨fun q => absurd q ?_, fun q => by cases q⟩
    intro q
    have : ¬ nI x < 0 := nI_pos (by have := h x rfl; omega)
    exact this (by rw [show nI x = -1 from q]; decide)
theorem cs_9 {s : rSg} {l : List Int32} {ng nt i : Nat} {bad : Option Nat} (hs : cRd s (l, ng, nt, bad)) (hi : i < 96) (hl : l.length ≤ 2 * i) (ho : ng ≤ i) (hb : ∀ b, bad = some b → b ≤ i) (h24 : bad = none → ng ≤ 24) (c z y : Int32) : EvS rSkel 2 9 [.inr (.inr (some 678)), .inl c, .inl (nI i), .inl z, .inl y] s (fun v t => (gSg c ∧ v = some (.inl 1) ∧ cRd t (gAw c ++ l, ng + 1, nt, gBad ng bad i) ∧ rd s t) ∨ (¬ gSg c ∧ v = some (.inl 0) ∧ t = s)) := by
  obtain ⟨a1, a2, a3, a4⟩ := hs
  simp only at a1 a2 a3 a4
  have hb9 : ∀ x, bad = some x → x < 1000 := fun x hx => by have := hb x hx; omega
  refine w_9 s c _ z y ((cs_10 s c).imp ?_)
  rintro v s ⟨⟨hc, rfl⟩ | ⟨hc, rfl⟩, rfl⟩
  · have fin : ∀ (u : rSg), cw u l → u 678 5 = nI (ng + 1) → u 678 6 = nI nt → u 678 7 = badI (gBad ng bad i) → rd s u → g_9_45 c z y (nI (gAw c).length) u (fun v t => (gSg c ∧ v = some (.inl 1) ∧ cRd t (gAw c ++ l, ng + 1, nt, gBad ng bad i) ∧ rd s t) ∨ (¬ gSg c ∧ v = some (.inl 0) ∧ t = s)) := fun u h1 h2 h3 h4 h5 => cs_9b h1 (by omega) hc z y (fun t ht kt => Or.inl ⟨hc, rfl, ⟨ht, by rw [kt.2 5 (by simp)]; exact h2, by rw [kt.2 6 (by simp)]; exact h3, by rw [kt.2 7 (by simp)]; exact h4⟩, h5.trans kt.1⟩)
    have au : ∀ {u : rSg}, u 679 = s 679 → u 678 4 = s 678 4 → cw u l := fun h1 h2 => ⟨by rw [h2]; exact a1.1, cwl_ext (fun j _ => by rw [h1]) a1.2⟩
    have one : ¬ (ng = 24 ∧ bad = none) → g_9_45 c z y (nI (gAw c).length) (up2 s 678 5 (s 678 5 + 1)) (fun v t => (gSg c ∧ v = some (.inl 1) ∧ cRd t (gAw c ++ l, ng + 1, nt, gBad ng bad i) ∧ rd s t) ∨ (¬ gSg c ∧ v = some (.inl 0) ∧ t = s)) := fun h => fin _ (au (up2_nk _ _ _ (by decide)) (up2_nj _ _ _ (by decide))) (by rw [up2_same, a2, nI_1]) (by rw [up2_nj _ _ _ (by decide)]; exact a3) (by rw [up2_nj _ _ _ (by decide), a4, gBad, if_neg h]) (rd.rfl'.up (by omega))
    refine ⟨_, rfl, fun _ => ⟨fun h => one (fun q => ?_), fun h => ⟨fun h2 => one (fun q => h2 (by rw [a4, q.2]; rfl)), fun h2 => ?_⟩⟩, fun q => absurd (Int32.not_lt.mp (nI_pos (by have := gAw_len c; omega))) q⟩
    · rw [a2, nI_1] at h
      have := (nI_leI (a := ng + 1) (b := 24) (by omega) (by decide)).mp h
      omega
    · have hn : bad = none := (badI_m1 hb9).mp (by rw [← a4]; exact Classical.not_not.mp h2)
      have hg : ng = 24 := by
        rw [a2, nI_1] at h
        have h9 := h24 hn
        have : ¬ ng + 1 ≤ 24 := fun q => h ((nI_leI (b := 24) (by omega) (by decide)).mpr q)
        omega
      refine fin _ (au ?_ ?_) ?_ ?_ ?_ ((rd.rfl'.up (by omega)).up (by omega))
      · rw [up2_nk _ _ _ (by decide), up2_nk _ _ _ (by decide)]
      · rw [up2_nj _ _ _ (by decide), up2_nj _ _ _ (by decide)]
      · rw [up2_nj _ _ _ (by decide), up2_same, a2, nI_1]
      · rw [up2_nj _ _ _ (by decide), up2_nj _ _ _ (by decide)]; exact a3
      · rw [up2_same, gBad, if_pos ⟨hg, hn⟩]; rfl
  · exact ⟨_, rfl, fun q => absurd q (by decide), fun _ => Or.inr ⟨hc, rfl, rfl⟩⟩
