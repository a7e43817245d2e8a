/-! ALL LEVELS: a name's walk has few leaves -/
def pcS (nm tn sg : Nat → Bool) (Ds Nm : List Nat) (y j : Nat) : Nat := 2 + 2 * lfs sg y + sumN (fun i => cLv nm tn sg Ds (LLd nm tn sg Nm) y (i + 1)) j
def tCm (nm : Nat → Bool) (P : List Nat) (rk : Nat → Bool) (ow j : Nat) : Nat := 2 * P.countP (fun p => decide (p ≤ 11)) + 3 * ow + sumN (fun i => 2 * tL nm P (i + 1)) j + 3 * rcn rk j
def nCm (nm : Nat → Bool) (Nm : List Nat) (j : Nat) : Nat := Nm.countP (fun v => decide (Rk nm v ≤ j))
def nCs (nm : Nat → Bool) (gv : Nat → Nat) (Un : List Uf) (Ds : List Nat) (j : Nat) : Nat := sumN (fun i => nL nm gv Un Ds (i + 1)) j
def mmJ (nm : Nat → Bool) (i0 mU j y : Nat) : Nat := if j < i0 ∧ i0 ≤ Rk nm y then mU * potS else 0
def lvSt (nm tn sg : Nat → Bool) (Un : List Uf) (Ids Ds P Nm : List Nat) (gv : Nat → Nat) (Vx : Nat → Nat → Bool) (Y : Nat → Nat) (i0 mU VM ow j : Nat) : Prop := ∃ (u o w x D : Nat) (Bs : List Nat),
  u + o = vLf Un + nCs nm gv Un Ds j + Bs.length + (if i0 ≤ j then VM else 0) ∧
  (Bs.Nodup ∧ ∀ b ∈ Bs, ∃ v ∈ Un, uB v = b ∧ Rk nm (Y (uA v)) ≤ j ∧ ∃ z ∈ Un, uB z = b ∧ 11 < dn1 (uL z) ∧ fC nm (uL z) = fC nm (uH z)) ∧
  2 * D ≤ 2 * w + o * x ∧
  (∀ y ∈ Nm, j ≤ Rk nm y → ((∀ i, j < i → i ≤ Rk nm y → ¬ rkL nm Un Ids Vx i) → pcS nm tn sg Ds Nm y j * potS ≤ x + mmJ nm i0 mU j y) ∧ pcS nm tn sg Ds Nm y j * potS ≤ x + D + mmJ nm i0 mU j y) ∧
  4 * potS ≤ x ∧ 2 * (LLd nm tn sg Nm j * potS) ≤ x ∧ nuS potS x w (LLd nm tn sg Nm j * potS) (pot (tCm nm P (rkB nm Un Ids Vx) ow j) u (nCm nm Nm j)) o (nCm nm Nm j)
theorem potS_pos : 0 < potS := by decide +kernel
theorem LL_bd {nm tn sg : Nat → Bool} {Nm : List Nat} {j z : Nat} (h : ∀ v ∈ Nm, Rk nm v ≤ j → 2 * (lam nm tn sg v * potS) ≤ z) (h4 : 4 * potS ≤ z) : 2 * (LLd nm tn sg Nm j * potS) ≤ z := by
  have hp : 0 < 2 * potS := by have := potS_pos; omega
  have key : LLd nm tn sg Nm j ≤ z / (2 * potS) := LLd_le (fun v hv hr => by
    have := h v hv hr
    refine ⟨(Nat.le_div_iff_mul_le hp).mpr (by omega), (Nat.le_div_iff_mul_le hp).mpr (by rw [Nat.mul_left_comm]; exact this)⟩) ((Nat.le_div_iff_mul_le hp).mpr (by omega))
  have := (Nat.le_div_iff_mul_le hp).mp key
  rw [Nat.mul_left_comm] at this
  exact this
theorem nCm_succ {nm : Nat → Bool} {j : Nat} : ∀ Nm : List Nat, nCm nm Nm (j + 1) = nCm nm Nm j + Nm.countP (fun v => decide (Rk nm v = j + 1))
  | [] => rfl
  | v :: Nm => by
    have ih := nCm_succ (nm := nm) (j := j) Nm
    unfold nCm at ih ⊢
    simp only [List.countP_cons]
    rw [ih]
    by_cases h1 : Rk nm v ≤ j
    · simp only [h1, decide_true, if_true, show Rk nm v ≤ j + 1 by omega, show ¬ Rk nm v = j + 1 by omega, decide_false, Bool.false_eq_true, if_false]
      omega
    · by_cases h2 : Rk nm v = j + 1
      · simp only [h1, h2, decide_false, Bool.false_eq_true, if_false, Nat.le_refl, decide_true, if_true, show ¬ j + 1 ≤ j by omega]
        omega
      · simp only [h1, h2, decide_false, Bool.false_eq_true, if_false, show ¬ Rk nm v ≤ j + 1 by omega]
        omega
theorem sumN_one {c i : Nat} : ∀ n, sumN (fun k => if i = k + 1 then c else 0) n ≤ c
  | 0 => Nat.zero_le _
  | n + 1 => by
    simp only [sumN]
    by_cases e : i = n + 1
    · have : sumN (fun k => if i = k + 1 then c else 0) n = 0 := by
        have hz : ∀ m, m ≤ n → sumN (fun k => if i = k + 1 then c else 0) m = 0 := by
          intro m
          induction m with
          | zero => intro _; rfl
          | succ m ih =>
            intro hm
            simp only [sumN]
            rw [ih (by omega), if_neg (by omega)]
        exact hz n (Nat.le_refl _)
      rw [this, if_pos e]
      omega
    · rw [if_neg e]
      have := sumN_one (c := c) (i := i) n
      omega
theorem nCs_le {nm : Nat → Bool} {gv : Nat → Nat} {Un : List Uf} {j : Nat} : ∀ Ds : List Nat, nCs nm gv Un Ds j ≤ sumB (nE nm gv Un) Ds
  | [] => by
    unfold nCs nL
    simp only [sumB]
    have : sumN (fun _ => 0) j = 0 := by
      induction j with
      | zero => rfl
      | succ j ih => simp only [sumN, ih]
    omega
  | d :: Ds => by
    have ih := nCs_le (nm := nm) (gv := gv) (Un := Un) (j := j) Ds
    unfold nCs at ih ⊢
    have e : (fun i => nL nm gv Un (d :: Ds) (i + 1)) = fun i => (if lev nm d = i + 1 then nE nm gv Un d else 0) + nL nm gv Un Ds (i + 1) := rfl
    rw [e, sumN_add]
    have := sumN_one (c := nE nm gv Un d) (i := lev nm d) j
    simp only [sumB]
    omega
theorem tL_all {nm : Nat → Bool} {j : Nat} : ∀ P : List Nat, P.countP (fun p => decide (p ≤ 11)) + sumN (fun i => tL nm P (i + 1)) j ≤ sumB (eL nm) P
  | [] => by
    unfold tL
    simp only [sumB]
    have : sumN (fun _ => 0) j = 0 := by
      induction j with
      | zero => rfl
      | succ j ih => simp only [sumN, ih]
    simp only [List.countP_nil]
    omega
  | p :: P => by
    have ih := tL_all (nm := nm) (j := j) P
    have e : (fun i => tL nm (p :: P) (i + 1)) = fun i => (if 11 < p ∧ lev nm p = i + 1 then eL nm p else 0) + tL nm P (i + 1) := rfl
    rw [e, sumN_add, List.countP_cons]
    simp only [sumB]
    have hp := eL_pos nm p
    by_cases h : p ≤ 11
    · have z : (fun i => if 11 < p ∧ lev nm p = i + 1 then eL nm p else 0) = fun _ => 0 := funext fun i => by rw [if_neg (by omega)]
      have : sumN (fun _ => 0) j = 0 := by
        clear ih e z
        induction j with
        | zero => rfl
        | succ j ih => simp only [sumN, ih]
      rw [z, this]
      simp only [h, decide_true, if_true]
      omega
    · have z : (fun i => if 11 < p ∧ lev nm p = i + 1 then eL nm p else 0) = fun i => if lev nm p = i + 1 then eL nm p else 0 := funext fun i => by
        simp only [show 11 < p by omega, true_and]
      rw [z]
      have := sumN_one (c := eL nm p) (i := lev nm p) j
      simp only [h, decide_false, Bool.false_eq_true, if_false]
      omega
theorem sumN_dbl {f : Nat → Nat} : ∀ j, sumN (fun i => 2 * f i) j = 2 * sumN f j
  | 0 => rfl
  | j + 1 => by simp only [sumN, sumN_dbl j]; omega
theorem tL_ne1 {nm : Nat → Bool} {i : Nat} : ∀ P : List Nat, (∀ p ∈ P, 11 < p → lev nm p = i → 2 ≤ eL nm p) → tL nm P i ≠ 1
  | [], _ => by simp [tL, sumB]
  | p :: P, h => by
    have ih := tL_ne1 P (fun q hq => h q (List.mem_cons_of_mem _ hq))
    have h1 := h p List.mem_cons_self
    unfold tL at ih ⊢
    simp only [sumB]
    by_cases q : 11 < p ∧ lev nm p = i
    · have := h1 q.1 q.2
      rw [if_pos q]
      omega
    · rw [if_neg q]
      omega
