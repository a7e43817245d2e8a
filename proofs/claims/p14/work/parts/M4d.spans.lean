/-! SPINES: two nodes of one spine, what lies between them, nodes that count as one -/
theorem sfx_trans {k j a b c : Nat} (h : sfx k a b) (g : sfx j b c) : sfx (k + j) a c := by
  induction k generalizing a with
  | zero =>
    have e : a = b := h
    rw [e, Nat.zero_add]
    exact g
  | succ k ih =>
    obtain ⟨x, y, e, h⟩ := h
    rw [Nat.succ_add]
    exact ⟨x, y, e, ih h⟩
theorem sfx_le : ∀ {k a b : Nat}, sfx k a b → b ≤ a
  | 0, _, _, h => by
    have h : _ = _ := h
    omega
  | k + 1, a, b, ⟨x, y, e, h⟩ => by
    have := sfx_le h
    have := nd_gt2 x y
    omega
theorem sfx_lt {k a b : Nat} : sfx (k + 1) a b → b < a := by
  rintro ⟨x, y, e, h⟩
  have := sfx_le h
  have := nd_gt2 x y
  omega
theorem spn_two {sg : Nat → Bool} : ∀ n w u, w ∈ spn sg n → u ∈ spn sg n → (∃ k, sfx k w u) ∨ ∃ k, sfx k u w := by
  refine v_ind (fun n h w u hw => ?_) (fun x y _ h2 w u hw hu => ?_)
  · rw [spn_low h] at hw; cases hw
  · cases h : sg (nd x y) with
    | true => rw [spn_sg h] at hw; cases hw
    | false =>
      rw [spn_nd h] at hw hu
      rcases List.mem_cons.mp hw with rfl | hw
      · rcases List.mem_cons.mp hu with rfl | hu
        · exact Or.inl ⟨0, rfl⟩
        · obtain ⟨k, hk⟩ := spn_sfx y u hu
          exact Or.inl ⟨k + 1, x, y, rfl, hk⟩
      · rcases List.mem_cons.mp hu with rfl | hu
        · obtain ⟨k, hk⟩ := spn_sfx y w hw
          exact Or.inr ⟨k + 1, x, y, rfl, hk⟩
        · exact h2 w u hw hu
theorem spn_nd' {sg : Nat → Bool} {n w : Nat} (h : w ∈ spn sg n) : w = nd (dn1 w) (dn2 w) := by
  obtain ⟨x, y, rfl, _⟩ := spn_mem n w h
  rw [dn1_nd, dn2_nd]
/-- nodes with the same letter, above all letters behind it, count as one -/
def fC (nm : Nat → Bool) (w : Nat) : Nat := if Rk nm (dn2 w) < lev nm (dn1 w) then nd (dn1 w) 0 else w
theorem fC_top {nm : Nat → Bool} {x y : Nat} (h : Rk nm y < lev nm x) : fC nm (nd x y) = nd x 0 := by
  unfold fC
  rw [dn1_nd, dn2_nd, if_pos h]
theorem fC_els {nm : Nat → Bool} {x y : Nat} (h : ¬ Rk nm y < lev nm x) : fC nm (nd x y) = nd x y := by
  unfold fC
  rw [dn1_nd, dn2_nd, if_neg h]
theorem fC_eq {nm : Nat → Bool} {x y a b : Nat} (h : fC nm (nd x y) = fC nm (nd a b)) : nd x y = nd a b ∨ (x = a ∧ Rk nm y < lev nm x ∧ Rk nm b < lev nm a) := by
  by_cases h1 : Rk nm y < lev nm x
  · by_cases h2 : Rk nm b < lev nm a
    · rw [fC_top h1, fC_top h2] at h
      exact Or.inr ⟨(nd_inj h).1, h1, h2⟩
    · rw [fC_top h1, fC_els h2] at h
      obtain ⟨e1, e2⟩ := nd_inj h
      rw [← e1, ← e2] at h2
      exact absurd (by rw [Rk_low (by omega)]; omega) h2
  · by_cases h2 : Rk nm b < lev nm a
    · rw [fC_els h1, fC_top h2] at h
      obtain ⟨e1, e2⟩ := nd_inj h
      rw [e1, e2] at h1
      exact absurd (by rw [Rk_low (by omega)]; omega) h1
    · rw [fC_els h1, fC_els h2] at h
      exact Or.inl h
theorem fC_sfx {nm : Nat → Bool} {k w u : Nat} (hw : w = nd (dn1 w) (dn2 w)) (hu : u = nd (dn1 u) (dn2 u)) (h : sfx k w u) (he : fC nm w = fC nm u) : w = u := by
  rw [hw, hu] at he
  rcases fC_eq he with e | ⟨e1, e2, e3⟩
  · rw [hw, hu]; exact e
  · match k, h with
    | 0, h => exact h
    | k + 1, ⟨x, y, e, h⟩ =>
      exfalso
      have a1 : dn1 w = x := by rw [e, dn1_nd]
      have a2 : dn2 w = y := by rw [e, dn2_nd]
      have g1 := sfx_Rk (nm := nm) h
      have g2 : Rk nm u = max (lev nm (dn1 u)) (Rk nm (dn2 u)) := by
        have := Rk_nd nm (dn1 u) (dn2 u)
        rw [← hu] at this
        exact this
      rw [a1, a2] at e2
      rw [← e1, a1] at g2
      omega
theorem fC_inj {nm sg : Nat → Bool} {n w u : Nat} (hw : w ∈ spn sg n) (hu : u ∈ spn sg n) (he : fC nm w = fC nm u) : w = u := by
  rcases spn_two n w u hw hu with ⟨k, h⟩ | ⟨k, h⟩
  · exact fC_sfx (spn_nd' hw) (spn_nd' hu) h he
  · exact (fC_sfx (spn_nd' hu) (spn_nd' hw) h he.symm).symm
/-- the greatest of some numbers -/
theorem gr_ex {Q : Nat → Prop} : ∀ (b i : Nat), Q i → (∀ j, b < j → ¬ Q j) → ∃ m, i ≤ m ∧ m ≤ b ∧ Q m ∧ ∀ j, m < j → ¬ Q j
  | 0, i, h, hb => by
    have : i = 0 := Classical.byContradiction (fun q => hb i (by omega) h)
    subst this
    exact ⟨0, Nat.le_refl _, Nat.le_refl _, h, hb⟩
  | b + 1, i, h, hb => by
    by_cases q : Q (b + 1)
    · have : i ≤ b + 1 := Classical.byContradiction (fun z => hb i (by omega) h)
      exact ⟨b + 1, this, Nat.le_refl _, q, hb⟩
    · obtain ⟨m, h1, h2, h3, h4⟩ := gr_ex b i h (fun j hj => by
        by_cases e : j = b + 1
        · rw [e]; exact q
        · exact hb j (by omega))
      exact ⟨m, h1, by omega, h3, h4⟩
/-- between two nodes: the greatest level of the letters there -/
def gap (nm : Nat → Bool) (w u i : Nat) : Prop := cnL (lvI nm i) u < cnL (lvI nm i) w ∧ ∀ j, i < j → cnL (lvI nm j) u = cnL (lvI nm j) w
theorem gap_ex {nm : Nat → Bool} {k w u : Nat} (h : sfx (k + 1) w u) (hl : 1 ≤ lev nm (dn1 w)) : ∃ i, lev nm (dn1 w) ≤ i ∧ i ≤ Rk nm w ∧ gap nm w u i := by
  obtain ⟨x, y, e, h⟩ := h
  have e1 : dn1 w = x := by rw [e, dn1_nd]
  rw [e1] at hl ⊢
  have hle : ∀ j, cnL (lvI nm j) u ≤ cnL (lvI nm j) y := fun j => sfx_cn h
  have hw : ∀ j, cnL (lvI nm j) w = lvI nm j x + cnL (lvI nm j) y := fun j => by rw [e, cnL_nd]
  obtain ⟨m, h1, h2, h3, h4⟩ := gr_ex (Q := fun j => cnL (lvI nm j) u < cnL (lvI nm j) w) (Rk nm w) (lev nm x) (by
    have := hle (lev nm x)
    show cnL (lvI nm (lev nm x)) u < cnL (lvI nm (lev nm x)) w
    rw [hw]
    unfold lvI at this ⊢
    rw [if_pos rfl]
    omega) (fun j hj q => by
      have hR : Rk nm w = max (lev nm x) (Rk nm y) := by rw [e, Rk_nd]
      have := cnL_top (nm := nm) (s := j) (by omega) w hj
      omega)
  refine ⟨m, h1, h2, h3, fun j hj => ?_⟩
  have q := h4 j hj
  have := hle j
  have := hw j
  omega
theorem inj_len {R : Nat → Nat → Prop} : ∀ (S A : List Nat), S.Nodup → (∀ x ∈ S, ∃ a ∈ A, R x a) → (∀ x ∈ S, ∀ y ∈ S, ∀ a, R x a → R y a → x = y) → S.length ≤ A.length
  | [], A, _, _, _ => Nat.zero_le _
  | x :: S, A, hn, h1, h2 => by
    rw [List.nodup_cons] at hn
    obtain ⟨a, ha, r⟩ := h1 x List.mem_cons_self
    have ih := inj_len S (A.erase a) hn.2 (fun y hy => by
      obtain ⟨b, hb, rb⟩ := h1 y (List.mem_cons_of_mem _ hy)
      refine ⟨b, (List.mem_erase_of_ne (fun q => ?_)).mpr hb, rb⟩
      rw [q] at rb
      have := h2 x List.mem_cons_self y (List.mem_cons_of_mem _ hy) a r rb
      exact hn.1 (this ▸ hy)) (fun y hy z hz => h2 y (List.mem_cons_of_mem _ hy) z (List.mem_cons_of_mem _ hz))
    rw [List.length_erase_of_mem ha] at ih
    have : 0 < A.length := List.length_pos_of_mem ha
    simp only [List.length_cons]
    omega
