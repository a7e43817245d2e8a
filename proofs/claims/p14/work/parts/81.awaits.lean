/-! THE REFERENCE: what the reader awaits -/
/-- the row of what is awaited, its top first -/
def awl (s : rSg) : List Int32 → Prop
  | [] => True
  | w :: r => s 755 r.length = w ∧ awl s r
theorem awl_ext {s t : rSg} : ∀ {l : List Int32}, (∀ j, j < l.length → t 755 j = s 755 j) → awl s l → awl t l
  | [], _, _ => trivial
  | w :: r, h, ⟨h1, h2⟩ => ⟨by rw [h r.length (by simp)]; exact h1, awl_ext (fun j hj => h j (by simp; omega)) h2⟩
def aw (s : rSg) (l : List Int32) : Prop := s 725 17 = nI l.length ∧ awl s l
theorem ms_131b {s0 : rSg} {N : Nat} (hN : N < 100) (w : Int32) {P : Option rv → rSg → Prop} {l0 : List Int32} (hP : ∀ t, aw t (List.replicate N w ++ l0) → mK [755] [17] s0 t → P none t) : ∀ (m y : Nat) (s : rSg), y + m = N → l0.length + N < 400 → aw s (List.replicate y w ++ l0) → mK [755] [17] s0 s → g_131_2 (nI N) w (nI y) s P := by
  intro m
  induction m with
  | zero =>
    intro y s hy hl hs hk
    obtain rfl : y = N := by omega
    exact w_131_2 s _ _ _ ⟨fun _ => hP s hs hk, fun q => absurd (nI_le (by omega) (by omega)) q⟩
  | succ m ih =>
    intro y s hy hl hs hk
    refine w_131_2 s _ _ _ ⟨fun q => absurd ((nI_leI (by omega) (by omega)).mp q) (by omega), fun _ => ?_⟩
    have e : (List.replicate y w ++ l0).length = y + l0.length := by simp
    rw [hs.1, e, nI_clamp (by omega), nI_1, nI_1]
    refine ⟨rIn_nI (by omega) (by decide), ih (y + 1) _ (by omega) hl ⟨?_, ?_⟩ ((hk.up (by simp) (by decide)).upF (by simp))⟩
    · have e2 : (List.replicate (y + 1) w ++ l0).length = y + l0.length + 1 := by
        rw [List.length_append, List.length_replicate]
        omega
      rw [up2_same, e2]
    · rw [List.replicate_succ, List.cons_append]
      refine ⟨?_, awl_ext (fun j hj => ?_) hs.2⟩
      · rw [up2_nk _ _ _ (by decide), e, up2_same]
      · rw [e] at hj
        rw [up2_nk _ _ _ (by decide), up2_nj _ _ _ (by omega)]
theorem ms_131 {s : rSg} {l : List Int32} (hs : aw s l) {N : Nat} (hN : N < 100) (hl : l.length + N < 400) (w : Int32) : EvS rSkel 1 131 [.inr (.inr (some 725)), .inl (nI N), .inl w] s (fun v t => v = none ∧ aw t (List.replicate N w ++ l) ∧ mK [755] [17] s t) :=
  w_131 s _ _ (ms_131b hN w (fun t h1 h2 => ⟨rfl, h1, h2⟩) N 0 s (by omega) hl hs mK.rfl')
/-- a sign that begins a term; a sign that begins a goal; what a sign awaits then, the first of it first -/
def tSg (c : Int32) : Prop := (97 ≤ c ∧ c ≤ 102) ∨ (48 ≤ c ∧ c ≤ 57) ∨ c = 110 ∨ c = 40
def gSg (c : Int32) : Prop := c = 61 ∨ c = 35 ∨ c = 38 ∨ c = 124 ∨ c = 65 ∨ c = 77 ∨ c = 42 ∨ c = 33
def tAw (c : Int32) : List Int32 := if c = 40 then [116, 116, 41] else []
def gAw (c : Int32) : List Int32 := if c = 61 ∨ c = 35 ∨ c = 77 then [116, 116] else if c = 65 then [116, 116, 116] else if c = 38 ∨ c = 124 then [103, 103] else []
theorem ms_119 (s : rSg) (x a c : Int32) {P : Option rv → rSg → Prop} (h1 : a ≤ x ∧ x ≤ c → P (some (.inl 1)) s) (h2 : ¬ (a ≤ x ∧ x ≤ c) → P (some (.inl 0)) s) : EvS rSkel 1 119 [.inl x, .inl a, .inl c] s P :=
  w_119 s x a c ⟨fun g => h2 (fun q => absurd q.1 (Int32.not_le.mpr g)), fun g => ⟨fun e => h2 (fun q => absurd q.2 (Int32.not_le.mpr e)), fun e => h1 ⟨Int32.not_lt.mp g, Int32.not_lt.mp e⟩⟩⟩
/-- a term's sign was read: one more, and the place of one too many -/
def tRd (s t : rSg) (c : Int32) (l : List Int32) : Prop := aw t (tAw c ++ l) ∧ t 725 46 = s 725 46 + 1 ∧ t 725 44 = (if s 725 46 = 40 ∧ ¬ 0 ≤ s 725 44 then s 725 43 else s 725 44) ∧ mK [755] [17, 44, 46] s t
theorem ms_133b {s : rSg} {l : List Int32} (hs : aw s l) (hl : l.length < 300) (c : Int32) : g_133_36 c s (fun v t => v = some (.inl 1) ∧ tRd s t c l) := by
  have main : ∀ (u : rSg), aw u l → u 725 46 = s 725 46 + 1 → u 725 44 = (if s 725 46 = 40 ∧ ¬ 0 ≤ s 725 44 then s 725 43 else s 725 44) → mK [755] [17, 44, 46] s u → (¬ c = 40 → (some (.inl 1 : rv) = some (.inl 1) ∧ tRd s u c l)) ∧ (¬ (¬ c = 40) → EvS rSkel 1 131 [.inr (.inr (some 725)), .inl 1, .inl 41] u (fun v15 t16 => v15 = none ∧ EvS rSkel 1 131 [.inr (.inr (some 725)), .inl 2, .inl 116] t16 (fun v18 t19 => v18 = none ∧ some (.inl 1 : rv) = some (.inl 1) ∧ tRd s t19 c l))) := by
    intro u hu h46 h44 hk
    refine ⟨fun h => ⟨rfl, ?_, h46, h44, hk⟩, fun h => (ms_131 hu (N := 1) (by decide) (by omega) 41).imp ?_⟩
    · unfold tAw
      rw [if_neg h]
      exact hu
    · rintro _ t ⟨rfl, ht, kt⟩
      refine ⟨rfl, (ms_131 ht (N := 2) (by decide) (by simp; omega) 116).imp ?_⟩
      rintro _ w ⟨rfl, hw, kw⟩
      refine ⟨rfl, rfl, ?_, ?_, ?_, hk.trans ((kt.trans kw).mono (by simp) (by simp))⟩
      · unfold tAw
        rw [if_pos (Classical.not_not.mp h)]
        exact hw
      · rw [kw.2 46 (by simp), kt.2 46 (by simp), h46]
      · rw [kw.2 44 (by simp), kt.2 44 (by simp), h44]
  have au : ∀ {u : rSg}, u 755 = s 755 → u 725 17 = s 725 17 → aw u l := fun h1 h2 => ⟨by rw [h2]; exact hs.1, awl_ext (fun j _ => by rw [h1]) hs.2⟩
  refine w_133_36 s c ⟨fun h => main _ (au (up2_nk _ _ _ (by decide)) (up2_nj _ _ _ (by decide))) (up2_same _ _ _ _) ?_ (mK.rfl'.upF (by simp)), fun h => ⟨fun h2 => main _ (au (up2_nk _ _ _ (by decide)) (up2_nj _ _ _ (by decide))) (up2_same _ _ _ _) ?_ (mK.rfl'.upF (by simp)), fun h2 => main _ (au ?_ ?_) ?_ ?_ ((mK.rfl'.upF (by simp)).upF (by simp))⟩⟩
  · rw [up2_nj _ _ _ (by decide), if_neg (fun q => h q.1)]
  · rw [up2_nj _ _ _ (by decide), if_neg (fun q => q.2 h2)]
  · rw [up2_nk _ _ _ (by decide), up2_nk _ _ _ (by decide)]
  · rw [up2_nj _ _ _ (by decide), up2_nj _ _ _ (by decide)]
  · rw [up2_same]
  · rw [up2_nj _ _ _ (by decide), up2_same, if_pos ⟨Classical.not_not.mp h, h2⟩]
theorem ms_133 {s : rSg} {l : List Int32} (hs : aw s l) (hl : l.length < 300) (c : Int32) : EvS rSkel 2 133 [.inr (.inr (some 725)), .inl c] s (fun v t => (tSg c ∧ v = some (.inl 1) ∧ tRd s t c l) ∨ (¬ tSg c ∧ v = some (.inl 0) ∧ t = s)) := by
  have yes : ∀ (h : tSg c), g_133_36 c s (fun v t => (tSg c ∧ v = some (.inl 1) ∧ tRd s t c l) ∨ (¬ tSg c ∧ v = some (.inl 0) ∧ t = s)) := fun h => (ms_133b hs hl c).imp (fun v t q => Or.inl ⟨h, q⟩)
  refine w_133 s c (ms_119 s c 97 102 (fun h => ⟨_, rfl, fun _ => yes (Or.inl h), fun q => absurd (by decide) q⟩) (fun h1 => ⟨_, rfl, fun q => absurd rfl q, fun _ => ?_⟩))
  refine ms_119 s c 48 57 (fun h => ⟨_, rfl, fun _ => yes (Or.inr (Or.inl h)), fun q => absurd (by decide) q⟩) (fun h2 => ⟨_, rfl, fun q => absurd rfl q, fun _ => ?_⟩)
  refine ⟨fun h => yes (Or.inr (Or.inr (Or.inl h))), fun h3 => ⟨fun h => yes (Or.inr (Or.inr (Or.inr h))), fun h4 => Or.inr ⟨?_, rfl, rfl⟩⟩⟩
  rintro (h | h | h | h)
  · exact h1 h
  · exact h2 h
  · exact h3 h
  · exact h4 h
