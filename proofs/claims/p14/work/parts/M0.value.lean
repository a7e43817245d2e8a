/-! VALUES: a function by the halves; levels, leaves, spines -/
def vrf {b : Type} (z : Nat → b) (f : Nat → b → b → b) : Nat → Nat → b
  | 0, n => z n
  | k + 1, n => if 11 < n then f n (vrf z f k (dn1 n)) (vrf z f k (dn2 n)) else z n
theorem vrf_stab {b : Type} (z : Nat → b) (f : Nat → b → b → b) : ∀ (k j n : Nat), n < k → n < j → vrf z f k n = vrf z f j n
  | 0, _, _, h, _ => by omega
  | _, 0, _, _, h => by omega
  | k + 1, j + 1, n, h1, h2 => by
    simp only [vrf]
    by_cases h : 11 < n
    · rw [if_pos h, if_pos h]
      obtain ⟨x, y, e⟩ := nd_ex h
      have q1 := nd_gt1 x y
      have q2 := nd_gt2 x y
      rw [← e] at q1 q2
      have e1 : dn1 n = x := by rw [e, dn1_nd]
      have e2 : dn2 n = y := by rw [e, dn2_nd]
      rw [e1, e2, vrf_stab z f k j x (by omega) (by omega), vrf_stab z f k j y (by omega) (by omega)]
    · rw [if_neg h, if_neg h]
def vrc {b : Type} (z : Nat → b) (f : Nat → b → b → b) (n : Nat) : b := vrf z f (n + 1) n
theorem vrc_low {b : Type} {z : Nat → b} {f : Nat → b → b → b} {n : Nat} (h : n ≤ 11) : vrc z f n = z n := by
  unfold vrc vrf
  rw [if_neg (by omega)]
theorem vrc_nd {b : Type} {z : Nat → b} {f : Nat → b → b → b} (x y : Nat) : vrc z f (nd x y) = f (nd x y) (vrc z f x) (vrc z f y) := by
  have q1 := nd_gt1 x y
  have q2 := nd_gt2 x y
  have h := nd_big x y
  unfold vrc
  rw [show vrf z f (nd x y + 1) (nd x y) = f (nd x y) (vrf z f (nd x y) (dn1 (nd x y))) (vrf z f (nd x y) (dn2 (nd x y))) by
    rw [vrf, if_pos h]]
  rw [dn1_nd, dn2_nd, vrf_stab z f (nd x y) (x + 1) x q1 (by omega), vrf_stab z f (nd x y) (y + 1) y q2 (by omega)]
/-- induction over values -/
theorem v_ind {P : Nat → Prop} (h0 : ∀ n, n ≤ 11 → P n) (h1 : ∀ x y, P x → P y → P (nd x y)) : ∀ n, P n := by
  have : ∀ k n, n < k → P n := by
    intro k
    induction k with
    | zero => intro n h; omega
    | succ k ih =>
      intro n h
      by_cases h9 : 11 < n
      · obtain ⟨x, y, rfl⟩ := nd_ex h9
        have q1 := nd_gt1 x y
        have q2 := nd_gt2 x y
        exact h1 x y (ih x (by omega)) (ih y (by omega))
      · exact h0 n (by omega)
  exact fun n => this (n + 1) n (Nat.lt_succ_self n)
/-- the level of a value as a letter, and the greatest level of the letters of its spine (nm: the values of names) -/
def lvR (nm : Nat → Bool) : Nat → Nat × Nat := vrc (fun _ => (0, 0)) (fun n a b => (if nm n = true then 1 + max a.1 b.2 else max 1 (max a.1 b.1), max a.1 b.2))
def lev (nm : Nat → Bool) (n : Nat) : Nat := (lvR nm n).1
def Rk (nm : Nat → Bool) (n : Nat) : Nat := (lvR nm n).2
theorem lev_low {nm : Nat → Bool} {n : Nat} (h : n ≤ 11) : lev nm n = 0 := by unfold lev lvR; rw [vrc_low h]
theorem Rk_low {nm : Nat → Bool} {n : Nat} (h : n ≤ 11) : Rk nm n = 0 := by unfold Rk lvR; rw [vrc_low h]
theorem Rk_nd (nm : Nat → Bool) (x y : Nat) : Rk nm (nd x y) = max (lev nm x) (Rk nm y) := by unfold Rk lev lvR; rw [vrc_nd]
theorem lev_nm {nm : Nat → Bool} {x y : Nat} (h : nm (nd x y) = true) : lev nm (nd x y) = 1 + Rk nm (nd x y) := by
  rw [Rk_nd]
  unfold Rk lev lvR
  rw [vrc_nd]
  simp only [h, if_true]
theorem lev_un {nm : Nat → Bool} {x y : Nat} (h : nm (nd x y) = false) : lev nm (nd x y) = max 1 (max (lev nm x) (lev nm y)) := by
  unfold lev lvR
  rw [vrc_nd]
  simp only [h, Bool.false_eq_true, if_false]
theorem lev_pos (nm : Nat → Bool) (x y : Nat) : 1 ≤ lev nm (nd x y) := by
  cases h : nm (nd x y) with
  | true => rw [lev_nm h]; omega
  | false => rw [lev_un h]; omega
/-- the leaves of a letter, cut at names -/
def eL (nm : Nat → Bool) : Nat → Nat := vrc (fun _ => 1) (fun n a b => if nm n = true then 1 else a + b)
theorem eL_low {nm : Nat → Bool} {n : Nat} (h : n ≤ 11) : eL nm n = 1 := by unfold eL; rw [vrc_low h]
theorem eL_nm {nm : Nat → Bool} {x y : Nat} (h : nm (nd x y) = true) : eL nm (nd x y) = 1 := by unfold eL; rw [vrc_nd]; simp only [h, if_true]
theorem eL_un {nm : Nat → Bool} {x y : Nat} (h : nm (nd x y) = false) : eL nm (nd x y) = eL nm x + eL nm y := by unfold eL; rw [vrc_nd]; simp only [h, Bool.false_eq_true, if_false]
theorem eL_pos (nm : Nat → Bool) : ∀ n, 1 ≤ eL nm n := by
  refine v_ind (fun n h => ?_) (fun x y h1 h2 => ?_)
  · rw [eL_low h]; exact Nat.le_refl _
  · cases h : nm (nd x y) with
    | true => rw [eL_nm h]; exact Nat.le_refl _
    | false => rw [eL_un h]; omega
theorem eL_two {nm : Nat → Bool} {x y : Nat} (h : nm (nd x y) = false) : 2 ≤ eL nm (nd x y) := by
  rw [eL_un h]
  have := eL_pos nm x
  have := eL_pos nm y
  omega
/-- leaves that are walked: of a list (tn: its heads are walked; sg: both sides meet), of a letter -/
def lmu (nm tn sg : Nat → Bool) : Nat → Nat × Nat := vrc (fun _ => (1, 1)) (fun n a b => (if sg n = true then 1 else (if tn n = true then a.2 else 1) + b.1, if nm n = true then (if sg n = true then 1 else (if tn n = true then a.2 else 1) + b.1) else a.2 + b.2))
def lam (nm tn sg : Nat → Bool) (n : Nat) : Nat := (lmu nm tn sg n).1
def muL (nm tn sg : Nat → Bool) (n : Nat) : Nat := (lmu nm tn sg n).2
section
variable {nm tn sg : Nat → Bool}
theorem lam_low {n : Nat} (h : n ≤ 11) : lam nm tn sg n = 1 := by unfold lam lmu; rw [vrc_low h]
theorem muL_low {n : Nat} (h : n ≤ 11) : muL nm tn sg n = 1 := by unfold muL lmu; rw [vrc_low h]
theorem lam_sg {x y : Nat} (h : sg (nd x y) = true) : lam nm tn sg (nd x y) = 1 := by unfold lam lmu; rw [vrc_nd]; simp only [h, if_true]
theorem lam_nd {x y : Nat} (h : sg (nd x y) = false) : lam nm tn sg (nd x y) = (if tn (nd x y) = true then muL nm tn sg x else 1) + lam nm tn sg y := by
  unfold lam muL lmu
  rw [vrc_nd]
  simp only [h, Bool.false_eq_true, if_false]
theorem muL_nm {x y : Nat} (h : nm (nd x y) = true) : muL nm tn sg (nd x y) = lam nm tn sg (nd x y) := by
  unfold lam muL lmu
  rw [vrc_nd]
  simp only [h, if_true]
theorem muL_un {x y : Nat} (h : nm (nd x y) = false) : muL nm tn sg (nd x y) = muL nm tn sg x + muL nm tn sg y := by
  unfold muL lmu
  rw [vrc_nd]
  simp only [h, Bool.false_eq_true, if_false]
theorem lm_pos : ∀ n, 1 ≤ lam nm tn sg n ∧ 1 ≤ muL nm tn sg n := by
  refine v_ind (fun n h => ?_) (fun x y h1 h2 => ?_)
  · rw [lam_low h, muL_low h]; omega
  · have hl : 1 ≤ lam nm tn sg (nd x y) := by
      cases h : sg (nd x y) with
      | true => rw [lam_sg h]; exact Nat.le_refl _
      | false => rw [lam_nd h]; omega
    refine ⟨hl, ?_⟩
    cases h : nm (nd x y) with
    | true => rw [muL_nm h]; exact hl
    | false => rw [muL_un h]; omega
/-- a letter's leaves: its own, each with what a name of lower level may have -/
theorem muL_le {i M : Nat} (hM : 1 ≤ M) (hn : ∀ x y, nm (nd x y) = true → Rk nm (nd x y) < i → lam nm tn sg (nd x y) ≤ M) : ∀ d, lev nm d ≤ i → muL nm tn sg d ≤ eL nm d * M := by
  refine v_ind (fun n h _ => ?_) (fun x y h1 h2 hl => ?_)
  · rw [muL_low h, eL_low h]; omega
  · cases h : nm (nd x y) with
    | true =>
      rw [muL_nm h, eL_nm h, Nat.one_mul]
      rw [lev_nm h] at hl
      exact hn x y h (by omega)
    | false =>
      rw [lev_un h] at hl
      have a1 := h1 (by omega)
      have a2 := h2 (by omega)
      rw [muL_un h, eL_un h, Nat.add_mul]
      omega
end
/-- the spine of a value, down to where both sides meet -/
def spn (sg : Nat → Bool) : Nat → List Nat := vrc (fun _ => []) (fun n _ b => if sg n = true then [] else n :: b)
theorem spn_low {sg : Nat → Bool} {n : Nat} (h : n ≤ 11) : spn sg n = [] := by unfold spn; rw [vrc_low h]
theorem spn_sg {sg : Nat → Bool} {x y : Nat} (h : sg (nd x y) = true) : spn sg (nd x y) = [] := by unfold spn; rw [vrc_nd]; simp only [h, if_true]
theorem spn_nd {sg : Nat → Bool} {x y : Nat} (h : sg (nd x y) = false) : spn sg (nd x y) = nd x y :: spn sg y := by unfold spn; rw [vrc_nd]; simp only [h, Bool.false_eq_true, if_false]
theorem spn_mem {sg : Nat → Bool} : ∀ n w, w ∈ spn sg n → ∃ x y, w = nd x y ∧ sg w = false ∧ w ≤ n := by
  refine v_ind (fun n h w hw => ?_) (fun x y h1 h2 w hw => ?_)
  · rw [spn_low h] at hw; cases hw
  · cases h : sg (nd x y) with
    | true => rw [spn_sg h] at hw; cases hw
    | false =>
      rw [spn_nd h] at hw
      rcases List.mem_cons.mp hw with rfl | hw
      · exact ⟨x, y, rfl, h, Nat.le_refl _⟩
      · obtain ⟨a, b, q1, q2, q3⟩ := h2 w hw
        have := nd_gt2 x y
        exact ⟨a, b, q1, q2, by omega⟩
def sumB (f : Nat → Nat) : List Nat → Nat
  | [] => 0
  | w :: l => f w + sumB f l
theorem lam_spn {nm tn sg : Nat → Bool} : ∀ n, lam nm tn sg n = 1 + sumB (fun w => if tn w = true then muL nm tn sg (dn1 w) else 1) (spn sg n) := by
  refine v_ind (fun n h => ?_) (fun x y h1 h2 => ?_)
  · rw [lam_low h, spn_low h]; rfl
  · cases h : sg (nd x y) with
    | true => rw [lam_sg h, spn_sg h]; rfl
    | false =>
      rw [lam_nd h, spn_nd h, h2]
      simp only [sumB, dn1_nd]
      omega
