/-! THE REFERENCE: letter, row, clear, no -/
/-- of the reference's object and rows: all but the cells in ks, and but the fields in js -/
def mK (ks js : List Nat) (s t : rSg) : Prop := (∀ q, q ≠ 725 → q ∉ ks → t q = s q) ∧ ∀ j, j ∉ js → t 725 j = s 725 j
theorem mK.rfl' {ks js : List Nat} {s : rSg} : mK ks js s s := ⟨fun _ _ _ => rfl, fun _ _ => rfl⟩
theorem mK.trans {ks js : List Nat} {a b c : rSg} (h1 : mK ks js a b) (h2 : mK ks js b c) : mK ks js a c := ⟨fun q g1 g2 => (h2.1 q g1 g2).trans (h1.1 q g1 g2), fun j g => (h2.2 j g).trans (h1.2 j g)⟩
theorem mK.mono {ks js ks2 js2 : List Nat} {s t : rSg} (h : mK ks js s t) (h1 : ∀ q, q ∈ ks → q ∈ ks2) (h2 : ∀ q, q ∈ js → q ∈ js2) : mK ks2 js2 s t := ⟨fun q g1 g2 => h.1 q g1 (fun g => g2 (h1 q g)), fun j g => h.2 j (fun e => g (h2 j e))⟩
theorem mK.up {ks js : List Nat} {s t : rSg} (h : mK ks js s t) {k j : Nat} {x : Int32} (hk : k ∈ ks) (hk5 : k ≠ 725) : mK ks js s (up2 t k j x) := ⟨fun q g1 g2 => by
  have hne : q ≠ k := fun e => g2 (e ▸ hk)
  rw [up2_nk _ _ _ hne]
  exact h.1 q g1 g2, fun i g => by
  rw [up2_nk _ _ _ (fun e => hk5 e.symm)]
  exact h.2 i g⟩
theorem mK.upF {ks js : List Nat} {s t : rSg} (h : mK ks js s t) {j : Nat} {x : Int32} (hj : j ∈ js) : mK ks js s (up2 t 725 j x) := ⟨fun q g1 g2 => by
  rw [up2_nk _ _ _ g1]
  exact h.1 q g1 g2, fun i g => by
  have hne : i ≠ j := fun e => g (e ▸ hj)
  rw [up2_nj _ _ _ hne]
  exact h.2 i g⟩
theorem ms_127 (s : rSg) (x a c : Int32) {P : Option rv → rSg → Prop} (h1 : a ≤ x → x ≤ c → P (some (.inl 0)) s) (h2 : a ≤ x → ¬ x ≤ c → P (some (.inl (-6))) s) (h3 : ¬ a ≤ x → P (some (.inl (-4))) s) : EvS rSkel 1 127 [.inl x, .inl a, .inl c] s P := w_127 s x a c ⟨fun g => ⟨fun e => h1 g e, fun e => h2 g e⟩, h3⟩
theorem ms_128 {s : rSg} {x : Int32} (h : rIn (-x) 7 = true) {P : Option rv → rSg → Prop} (k : ∀ t, mK [726] [] s t → P (some (.inl x)) t) : EvS rSkel 1 128 [.inr (.inr (some 725)), .inl x] s P := w_128 s x ⟨h, h, k _ (mK.rfl'.up (by simp) (by decide))⟩
theorem i_le_not {x c : Int32} : x ≤ c ↔ ¬ c < x := Int32.not_lt.symm
/-- the reference's letter: what it answers, and how many letters there are then -/
theorem ms_126 {s : rSg} {n : Nat} (hl : s 725 39 = nI n) (hn : n ≤ 96) (x : Int32) : EvS rSkel 2 126 [.inr (.inr (some 725)), .inl x] s (fun v t => v = some (.inl (ltV n x)) ∧ t 725 39 = nI (ltN n x) ∧ mK [726, 752] [39] s t) := by
  have no : ∀ z : Int32, rIn (-z) 7 = true → ltV n x = z → ltN n x = n → EvS rSkel 1 128 [.inr (.inr (some 725)), .inl z] s (fun v7 t8 => ∃ n10, v7 = some (.inl n10) ∧ some (.inl n10 : rv) = some (.inl (ltV n x)) ∧ t8 725 39 = nI (ltN n x) ∧ mK [726, 752] [39] s t8) := fun z hz e1 e2 =>
    ms_128 hz (fun t ht => ⟨z, rfl, by rw [e1], by rw [ht.2 39 (by simp), hl, e2], ht.mono (by simp) (by simp)⟩)
  refine w_126 s x (ms_127 s x 0 255 (fun h0 h1 => ⟨_, rfl, fun q => absurd rfl q, fun _ => ⟨fun h2 => ⟨fun _ => ?_, fun q => absurd rfl q⟩, fun h2 => ?_⟩⟩) (fun h0 h1 => ⟨_, rfl, fun _ => ⟨fun q => absurd q (by decide), fun _ => ?_⟩, fun q => absurd (by decide) q⟩) (fun h0 => ⟨_, rfl, fun _ => ⟨fun q => absurd q (by decide), fun _ => ?_⟩, fun q => absurd (by decide) q⟩))
  · have n9 : n < 96 := by
      have : n ≠ 96 := fun q => h2 (by rw [hl, q]; rfl)
      omega
    have g1 : ¬ 255 < x := Int32.not_lt.mpr h1
    rw [hl, nI_1]
    refine ⟨rIn_nI n9 (by decide), by unfold ltV; rw [if_pos h0, if_neg g1, if_pos n9], ?_, ((mK.rfl'.up (by simp) (by decide)).upF (by simp))⟩
    rw [up2_same]
    unfold ltN
    rw [if_pos ⟨h0, g1, n9⟩]
  · have e := Classical.not_not.mp h2
    rw [hl] at e
    have n9 : n = 96 := (nI_eq (b := 96) (by omega) (by decide)).mp e
    have g1 : ¬ 255 < x := Int32.not_lt.mpr h1
    exact no (-6) (by decide) (by unfold ltV; rw [if_pos h0, if_neg g1, if_neg (by omega)]) (by unfold ltN; rw [if_neg (fun q => absurd q.2.2 (by omega))])
  · have g1 : 255 < x := Int32.not_le.mp h1
    exact no (-6) (by decide) (by unfold ltV; rw [if_pos h0, if_pos g1]) (by unfold ltN; rw [if_neg (fun q => q.2.1 g1)])
  · exact no (-4) (by decide) (by unfold ltV; rw [if_neg h0]) (by unfold ltN; rw [if_neg (fun q => h0 q.1)])
theorem ms_197 {s : rSg} {n : Nat} (hl : s 725 58 = nI n) (hn : n ≤ 32) (x : Int32) : EvS rSkel 2 197 [.inr (.inr (some 725)), .inl x] s (fun v t => (∃ r : Int32, v = some (.inl r)) ∧ (∃ m, m ≤ 32 ∧ t 725 58 = nI m) ∧ mK [726, 759] [58] s t) := by
  have no : ∀ z : Int32, rIn (-z) 7 = true → EvS rSkel 1 128 [.inr (.inr (some 725)), .inl z] s (fun v7 t8 => ∃ n10, v7 = some (.inl n10) ∧ (∃ r : Int32, some (.inl n10 : rv) = some (.inl r)) ∧ (∃ m, m ≤ 32 ∧ t8 725 58 = nI m) ∧ mK [726, 759] [58] s t8) := fun z hz =>
    ms_128 hz (fun t ht => ⟨z, rfl, ⟨_, rfl⟩, ⟨n, hn, by rw [ht.2 58 (by simp), hl]⟩, ht.mono (by simp) (by simp)⟩)
  refine w_197 s x (ms_127 s x 0 127 (fun h0 h1 => ⟨_, rfl, fun q => absurd rfl q, fun _ => ⟨fun h2 => ⟨fun _ => ?_, fun q => absurd rfl q⟩, fun h2 => no _ (by decide)⟩⟩) (fun h0 h1 => ⟨_, rfl, fun _ => ⟨fun q => absurd q (by decide), fun _ => no _ (by decide)⟩, fun q => absurd (by decide) q⟩) (fun h0 => ⟨_, rfl, fun _ => ⟨fun q => absurd q (by decide), fun _ => no _ (by decide)⟩, fun q => absurd (by decide) q⟩))
  have n9 : n < 32 := by
    have : n ≠ 32 := fun q => h2 (by rw [hl, q]; rfl)
    omega
  rw [hl, nI_1]
  exact ⟨rIn_nI n9 (by decide), ⟨_, rfl⟩, ⟨n + 1, by omega, up2_same _ _ _ _⟩, ((mK.rfl'.up (by simp) (by decide)).upF (by simp))⟩
theorem ms_199 (s : rSg) : EvS rSkel 1 199 [.inr (.inr (some 725))] s (fun v t => (∃ r : Int32, v = some (.inl r)) ∧ t 725 58 = nI 0 ∧ mK [] [58] s t) := w_199 s ⟨⟨_, rfl⟩, up2_same _ _ _ _, mK.rfl'.upF (by simp)⟩
