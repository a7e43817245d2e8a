/-! LEVEL BY LEVEL -/
theorem lev_below {nm : Nat → Bool} : ∀ n, 2 ≤ lev nm n → ∃ v, nm v = true ∧ Rk nm v + 1 = lev nm n := by
  refine v_ind (fun n h q => ?_) (fun x y h1 h2 q => ?_)
  · rw [lev_low h] at q; omega
  · cases hn : nm (nd x y) with
    | true => exact ⟨nd x y, hn, by rw [lev_nm hn]; omega⟩
    | false =>
      rw [lev_un hn] at q ⊢
      by_cases e : lev nm y ≤ lev nm x
      · obtain ⟨v, a, b⟩ := h1 (by omega)
        exact ⟨v, a, by omega⟩
      · obtain ⟨v, a, b⟩ := h2 (by omega)
        exact ⟨v, a, by omega⟩
theorem Rk_letter {nm : Nat → Bool} : ∀ n, 1 ≤ Rk nm n → ∃ x, lev nm x = Rk nm n := by
  refine v_ind (fun n h q => ?_) (fun x y _ h2 q => ?_)
  · rw [Rk_low h] at q; omega
  · rw [Rk_nd] at q ⊢
    by_cases e : Rk nm y ≤ lev nm x
    · exact ⟨x, by omega⟩
    · obtain ⟨z, hz⟩ := h2 (by omega)
      exact ⟨z, by omega⟩
theorem lev_names {nm : Nat → Bool} {v : Nat} (hv : nm v = true) : ∀ (k i : Nat), Rk nm v = i + k → 1 ≤ i → ∃ u, nm u = true ∧ Rk nm u = i
  | 0, i, e, _ => ⟨v, hv, e⟩
  | k + 1, i, e, hi => by
    obtain ⟨u, hu, e2⟩ := lev_names hv k (i + 1) (by omega) (by omega)
    obtain ⟨x, hx⟩ := Rk_letter (nm := nm) u (by omega)
    obtain ⟨z, hz, e3⟩ := lev_below (nm := nm) x (by omega)
    exact ⟨z, hz, by omega⟩
noncomputable def rkB (nm : Nat → Bool) (Un : List Uf) (Ids : List Nat) (Vx : Nat → Nat → Bool) (i : Nat) : Bool := @decide (rkL nm Un Ids Vx i) (Classical.propDecidable _)
theorem rkB_iff {nm : Nat → Bool} {Un : List Uf} {Ids : List Nat} {Vx : Nat → Nat → Bool} {i : Nat} : rkB nm Un Ids Vx i = true ↔ rkL nm Un Ids Vx i := by
  unfold rkB
  exact @decide_eq_true_iff _ (Classical.propDecidable _)
def Lsr (rk : Nat → Bool) : Nat → List Nat
  | 0 => []
  | K + 1 => Lsr rk K ++ if rk (K + 1) = true then [K + 1] else []
def rcn (rk : Nat → Bool) (j : Nat) : Nat := sumN (fun i => if rk (i + 1) = true then 1 else 0) j
theorem Lsr_len {rk : Nat → Bool} : ∀ K, (Lsr rk K).length = rcn rk K
  | 0 => rfl
  | K + 1 => by
    unfold rcn
    simp only [Lsr, List.length_append, sumN]
    rw [Lsr_len K]
    unfold rcn
    by_cases h : rk (K + 1) = true
    · rw [if_pos h, if_pos h]; rfl
    · rw [if_neg h, if_neg h]; rfl
theorem Lsr_mem {rk : Nat → Bool} : ∀ {K i : Nat}, i ∈ Lsr rk K ↔ 1 ≤ i ∧ i ≤ K ∧ rk i = true
  | 0, i => by
    simp only [Lsr, List.not_mem_nil, false_iff]
    omega
  | K + 1, i => by
    simp only [Lsr, List.mem_append]
    rw [Lsr_mem]
    by_cases h : rk (K + 1) = true
    · rw [if_pos h, List.mem_singleton]
      constructor
      · rintro (⟨a, b, c⟩ | e)
        · exact ⟨a, by omega, c⟩
        · rw [e]; exact ⟨by omega, Nat.le_refl _, h⟩
      · rintro ⟨a, b, c⟩
        by_cases e : i = K + 1
        · exact Or.inr e
        · exact Or.inl ⟨a, by omega, c⟩
    · rw [if_neg h]
      constructor
      · rintro (⟨a, b, c⟩ | e)
        · exact ⟨a, by omega, c⟩
        · cases e
      · rintro ⟨a, b, c⟩
        by_cases e : i = K + 1
        · rw [e] at c; exact absurd c h
        · exact Or.inl ⟨a, by omega, c⟩
theorem Lsr_pw {rk : Nat → Bool} : ∀ K, (Lsr rk K).Pairwise (· < ·)
  | 0 => List.Pairwise.nil
  | K + 1 => by
    simp only [Lsr]
    rw [List.pairwise_append]
    refine ⟨Lsr_pw K, ?_, fun a ha b hb => ?_⟩
    · by_cases h : rk (K + 1) = true
      · rw [if_pos h]; exact List.pairwise_singleton _ _
      · rw [if_neg h]; exact List.Pairwise.nil
    · by_cases h : rk (K + 1) = true
      · rw [if_pos h, List.mem_singleton] at hb
        have := (Lsr_mem.mp ha).2.1
        omega
      · rw [if_neg h] at hb
        cases hb
/-- what a state of the recursion keeps -/
def nuS (S x w b p o n : Nat) : Prop := (n = 0 ∧ o = 0 ∧ w ≤ x ∧ 25 * (6 * x + w + 6 * S) ≤ 504 * p ∧ 25 * (x + w) ≤ 126 * p ∧ 1425 * S ≤ 840 * p ∧ b = S) ∨ (1 ≤ n ∧ b ≤ p ∧ nSt x w b p ∧ (o = 0 ∨ nFl x w p) ∧ (w = 0 ∨ nFl x w p) ∧ (nFl x w p ∨ 7 * S ≤ p) ∧ 57 * S ≤ 20 * p)
theorem step_N {x w b o t u n n2 T V m : Nat} (hs : nuS potS x w b (pot t u n) o n) (k2 : 2 * b ≤ x) (ht : t + 2 * T ≤ 40) (hu : u + V ≤ 36) (hn : n + 1 ≤ n2) (hn6 : n2 ≤ 6) (hm : 2 * m ≤ 3 * (V * potS)) (hV : V = 0 ∨ 1 ≤ T) (hT : n = 0 → T ≠ 1) : nFl (x + 2 * T * b + m) w (pot (t + 2 * T) (u + V) n2) := by
  have mono := pot_mono (t := t + 2 * T) (u := u + V) (n := n + 1) (t2 := t + 2 * T) (u2 := u + V) (n2 := n2) (Nat.le_refl _) (Nat.le_refl _) hn ht hu hn6
  have up : ∀ {x w p q : Nat}, nFl x w p → p ≤ q → nFl x w q := fun {x w p q} h hl => ⟨by have := h.1; omega, h.2⟩
  refine up ?_ mono
  have gain : ∀ a c, a * fD 1 (2 * T) V ≤ c * fN 1 (2 * T) V → a * pot t u n ≤ c * pot (t + 2 * T) (u + V) (n + 1) := fun a c h => pot_gain ht hu (by omega) h
  have hm0 : V = 0 → m = 0 := fun e => by
    rw [e, Nat.zero_mul] at hm
    omega
  rcases hs with ⟨n0, o0, h1, h2, h3, h4, h5⟩ | ⟨n1, hb, hst, ho, hw, h7, hS⟩
  · subst n0
    by_cases hT0 : T = 0
    · have hv : V = 0 := by omega
      rw [hm0 hv, hT0, Nat.mul_zero, Nat.zero_mul, Nat.add_zero, Nat.add_zero]
      refine num_ZN h2 h1 ?_
      have := gain 42 25 (by rw [hT0, hv]; decide)
      rw [hT0] at this
      exact this
    · have h9 := hT rfl
      rw [h5]
      exact num_ZM h2 h1 (by omega) h4 (gain _ _ (okZM (by omega) (by omega) (by omega))) hm
  · by_cases hf : nFl x w (pot t u n)
    · by_cases hT0 : T = 0
      · have hv : V = 0 := by omega
        rw [hm0 hv, Nat.add_zero]
        exact num_N k2 hb (Or.inl hf) (fun _ => gain 42 25 (by rw [hT0, hv]; decide)) (fun e => by omega) (fun e => by omega)
      · exact num_M3 hb hf hS (gain _ _ (okSM (by omega) (by omega) (by omega))) hm
    · have q7 := h7.resolve_left hf
      have g0 : ∀ a c, a * fD 1 (2 * T) 0 ≤ c * fN 1 (2 * T) 0 → a * pot t u n ≤ c * pot (t + 2 * T) u (n + 1) := fun a c h => by
        have := pot_gain (t := t) (u := u) (n := n) ht (show u + 0 ≤ 36 by omega) (by omega) h
        exact this
      have st := num_N (T := T) (q := pot (t + 2 * T) u (n + 1)) k2 hb hst (fun e => g0 42 25 (by rw [e]; decide)) (fun e => g0 _ _ (by rw [e]; decide)) (fun e => by
        have := g0 _ _ (okN (by omega) e)
        rw [Nat.one_mul] at this
        exact this)
      have p7 : pot t u n ≤ pot (t + 2 * T) u (n + 1) := pot_mono (by omega) (Nat.le_refl _) (by omega) ht (by omega) (by omega)
      exact num_M2 (by omega) (pot_bern ht hu (by omega)) hm st
theorem step_R {x w b o t u n n2 T v V m m0 h2 g e x2 y d E2 G2 : Nat} (hs : nuS potS x w b (pot t u n) o n) (k2 : 2 * b ≤ x) (hd : 2 * d ≤ 2 * w + o * x) (ht : t + (2 * T + 3) ≤ 40) (hu : u + v + V ≤ 36) (hm0 : 1 ≤ m0) (hn : n + m0 ≤ n2) (hn6 : n2 ≤ 6) (hm : 2 * m ≤ 3 * (V * potS)) (hT : n = 0 → 2 ≤ T)
    (okf : 1 ≤ n → okF h2 g e (fN m0 (2 * T + 3) v) (fD m0 (2 * T + 3) v)) (okz : n = 0 → okZ h2 g e (fN m0 (2 * T + 3) v) (fD m0 (2 * T + 3) v))
    (hx : x2 = x + d + G2 * b) (hy : y = x + d + E2 * b) (b1 : 2 * G2 + 4 * E2 + 6 * o ≤ h2) (b2 : G2 + E2 + 2 * o ≤ g) (b3 : G2 + o ≤ e) (hEG : E2 ≤ G2) {b' : Nat} (hb' : 2 * b' ≤ y + m) :
    nRo (x2 + m) b' (pot (t + (2 * T + 3)) (u + v + V) n2) ∧ b' ≤ pot (t + (2 * T + 3)) (u + v + V) n2 ∧ 7 * potS ≤ pot (t + (2 * T + 3)) (u + v + V) n2 := by
  have gain : ∀ a c, a * fD m0 (2 * T + 3) v ≤ c * fN m0 (2 * T + 3) v → a * pot t u n ≤ c * pot (t + (2 * T + 3)) (u + v) (n + m0) := fun a c h => pot_gain ht (by omega) (by omega) h
  have mono := pot_mono (t := t + (2 * T + 3)) (u := u + v + V) (n := n + m0) (t2 := t + (2 * T + 3)) (u2 := u + v + V) (n2 := n2) (Nat.le_refl _) (Nat.le_refl _) hn ht hu hn6
  have q7 : 7 * potS ≤ pot (t + (2 * T + 3)) (u + v) (n + m0) := by
    by_cases hn0 : n = 0
    · have := hT hn0
      exact pot_sev2 (by omega) ht (by omega) (by omega) (by omega)
    · exact pot_sev1 (by omega) ht (by omega) (by omega) (by omega)
  have bern := pot_bern (t := t + (2 * T + 3)) (u := u + v) (n := n + m0) (V := V) ht hu (by omega)
  have main : x2 + 2 * y ≤ 6 * pot (t + (2 * T + 3)) (u + v) (n + m0) ∧ 1562500 * (x2 + y) ≤ 7015764 * pot (t + (2 * T + 3)) (u + v) (n + m0) ∧ 25 * x2 ≤ 84 * pot (t + (2 * T + 3)) (u + v) (n + m0) := by
    rcases hs with ⟨n0, o0, q1, q2, q3, q4, q5⟩ | ⟨n1, hb, hst, ho, hw, h7, hS⟩
    · subst o0
      rw [q5] at hx hy
      exact num_ZR q3 q4 (okz n0) gain (by omega) (Nat.le_of_eq hx) (Nat.le_of_eq hy) (by omega) (by omega) (by omega)
    · exact num_R (S := 0) k2 hb hst (okf n1) gain ho hd (Nat.le_of_eq hx) (Nat.le_of_eq hy) b1 b2 b3 hw
  have fin := num_M1 q7 bern hm main
  have hxy : y ≤ x2 := by
    rw [hx, hy]
    exact Nat.add_le_add_left (Nat.mul_le_mul_right _ hEG) _
  have h7b : 7 * potS ≤ pot (t + (2 * T + 3)) (u + v + V) (n + m0) := Nat.le_trans q7 (pot_mono (Nat.le_refl _) (by omega) (Nat.le_refl _) ht hu (by omega))
  obtain ⟨f1, f2, f3⟩ := fin
  exact ⟨⟨by omega, by omega, by omega⟩, by omega, by omega⟩
