/-! ALL LEVELS: the start, a step, the end -/
section
variable {nm tn sg : Nat → Bool} {Un : List Uf} {Ids Ds P : List Nat} {gv : Nat → Nat} {It : Nat → List Nat} {Vx : Nat → Nat → Bool} {LV : Nat → Prop} {CT CM PM Nm : List Nat} {mU nA i0 VM ow K : Nat} {X Y Z : Nat → Nat}
/-- what is given, all together -/
def gvn (nm tn sg : Nat → Bool) (Un : List Uf) (Ids Ds P : List Nat) (gv : Nat → Nat) (It : Nat → List Nat) (Vx : Nat → Nat → Bool) (LV : Nat → Prop) (CT CM PM Nm : List Nat) (mU nA : Nat) (X Y Z : Nat → Nat) : Prop :=
  syV nm tn sg Un Ids Ds P gv It Vx LV ∧ stV nm sg LV Un P CT CM PM mU ∧ (hUX Un X Y Z ∧ (∀ u ∈ Un, uA u < nA) ∧ hTd nm Un P X Y Z ∧ ∀ u ∈ Un, gv (uG u) = dn1 (uL u)) ∧ ((∀ v, nm v = true ↔ v ∈ Nm) ∧ Nm.length ≤ 6 ∧ ∀ v ∈ Nm, 11 < v ∧ LV v) ∧ 2 * sumB (eL nm) P + 3 * nA ≤ 40
/-- how the numbers of the recursion are chosen -/
def chs (nm : Nat → Bool) (Un : List Uf) (Ids : List Nat) (Vx : Nat → Nat → Bool) (Y : Nat → Nat) (PM Nm : List Nat) (i0 VM ow K : Nat) : Prop :=
  VM = 36 - Un.length ∧ (∀ p ∈ PM, i0 ≤ lev nm p) ∧ (i0 ≤ K → ∃ p ∈ PM, lev nm p = i0) ∧ ow ≤ 1 ∧ (ow = 0 → ∀ u ∈ Un, ∃ i ∈ Lsr (rkB nm Un Ids Vx) K, i ≤ Rk nm (Y (uA u))) ∧ ∃ v ∈ Nm, Rk nm v = K
theorem tCm_le (h : gvn nm tn sg Un Ids Ds P gv It Vx LV CT CM PM Nm mU nA X Y Z) (hr : rcn (rkB nm Un Ids Vx) K + ow ≤ nA) {j : Nat} (hj : j ≤ K) : tCm nm P (rkB nm Un Ids Vx) ow j ≤ 40 := by
  have h1 := tL_all (nm := nm) (j := j) P
  have h2 : rcn (rkB nm Un Ids Vx) j ≤ rcn (rkB nm Un Ids Vx) K := by
    obtain ⟨k, rfl⟩ := Nat.le.dest hj
    clear hr hj h1
    induction k with
    | zero => exact Nat.le_refl _
    | succ k ih =>
      have e : rcn (rkB nm Un Ids Vx) (j + (k + 1)) = rcn (rkB nm Un Ids Vx) (j + k) + if rkB nm Un Ids Vx (j + k + 1) = true then 1 else 0 := rfl
      rw [e]
      omega
  have h3 := h.2.2.2.2
  unfold tCm
  rw [sumN_dbl]
  omega
/-- unfolds that are counted -/
theorem uC_le (h : gvn nm tn sg Un Ids Ds P gv It Vx LV CT CM PM Nm mU nA X Y Z) {j : Nat} {Bs : List Nat} (hB : Bs.Nodup ∧ ∀ b ∈ Bs, ∃ v ∈ Un, uB v = b ∧ Rk nm (Y (uA v)) ≤ j ∧ ∃ z ∈ Un, uB z = b ∧ 11 < dn1 (uL z) ∧ fC nm (uL z) = fC nm (uH z)) : vLf Un + nCs nm gv Un Ds j + Bs.length ≤ Un.length := by
  have h1 := un_sum (nm := nm) (gv := gv) (Un := Un) h.1.1.2.1 h.2.2.1.2.2.2 h.1.1.2.2
  have h2 := nCs_le (nm := nm) (gv := gv) (Un := Un) (j := j) Ds
  have h3 := lost_len (nm := nm) (Un := Un) hB.1 (fun b hb => by
    obtain ⟨_, _, _, _, hz⟩ := hB.2 b hb
    exact hz)
  omega
theorem un_36 (h : gvn nm tn sg Un Ids Ds P gv It Vx LV CT CM PM Nm mU nA X Y Z) : Un.length ≤ 36 ∧ 2 * mU ≤ 3 * (36 - Un.length) := by
  have := h.2.1.2.2.1.2
  omega
theorem lv_start (h : gvn nm tn sg Un Ids Ds P gv It Vx LV CT CM PM Nm mU nA X Y Z) (hc : chs nm Un Ids Vx Y PM Nm i0 VM ow K) (hr : rcn (rkB nm Un Ids Vx) K + ow ≤ nA) : lvSt nm tn sg Un Ids Ds P Nm gv Vx Y i0 mU VM ow 0 := by
  have hT := tCm_le h hr (Nat.zero_le K)
  have hT0 : tCm nm P (rkB nm Un Ids Vx) ow 0 = 2 * P.countP (fun p => decide (p ≤ 11)) + 3 * ow := by
    unfold tCm rcn
    simp only [sumN]
    omega
  rw [hT0] at hT
  have hU := un_36 h
  have hV : vLf Un ≤ Un.length := List.countP_le_length
  have c1 := hc.1
  have c4 := hc.2.2.2.1
  have hLV := h.1.2.2.2.2.2.2.2.2
  -- the part of 'M'
  have hM : ∃ M m, M = (if i0 ≤ 0 then VM else 0) ∧ m = (if i0 ≤ 0 then mU * potS else 0) ∧ vLf Un + M < 37 ∧ (M = 0 ∨ 1 ≤ P.countP (fun p => decide (p ≤ 11))) ∧ 2 * m ≤ 3 * (M * potS) := by
    refine ⟨_, _, rfl, rfl, ?_, ?_, ?_⟩
    · by_cases q : i0 ≤ 0
      · rw [if_pos q]; omega
      · rw [if_neg q]; omega
    · by_cases q : i0 ≤ 0
      · right
        obtain ⟨p, hp, e⟩ := hc.2.2.1 (by omega)
        have hpP := h.2.1.2.2.2.2 p hp
        refine List.countP_pos_iff.mpr ⟨p, hpP, decide_eq_true ?_⟩
        refine Classical.byContradiction (fun z => ?_)
        obtain ⟨a, b, rfl⟩ := nd_ex (by omega : 11 < p)
        have := lev_pos nm a b
        omega
      · exact Or.inl (if_neg q)
    · by_cases q : i0 ≤ 0
      · rw [if_pos q, if_pos q, c1, ← Nat.mul_assoc, ← Nat.mul_assoc]
        exact Nat.mul_le_mul_right _ hU.2
      · rw [if_neg q, if_neg q, Nat.zero_mul]
        exact Nat.le_refl _
  obtain ⟨M, m, eM, em, m1, m2, m3⟩ := hM
  obtain ⟨b1, b2, b3, b4⟩ := num_B (T := P.countP (fun p => decide (p ≤ 11))) (V := vLf Un) (M := M) (ow := ow) (S := potS) (by omega) m1 m2 c4 hT rfl rfl m3
  generalize ha : max 4 (2 + 2 * P.countP (fun p => decide (p ≤ 11)) + vLf Un + ow * vLf Un) = a at b1 b2 b3 b4
  -- the cost of leaves
  have cost : ∀ y ∈ Nm, ((∀ i, 0 < i → i ≤ Rk nm y → ¬ rkL nm Un Ids Vx i) → pcS nm tn sg Ds Nm y 0 * potS ≤ a * potS + m + mmJ nm i0 mU 0 y) ∧ pcS nm tn sg Ds Nm y 0 * potS ≤ a * potS + m + (vLf Un - ow * vLf Un) * potS + mmJ nm i0 mU 0 y := by
    intro y hy
    obtain ⟨z, k, l1, l2, l3, l4, l5⟩ := lfs_le h.2.1 h.2.2.1.1 hLV (h.2.2.2.1.2.2 y hy).2
    have hz0 : ow = 0 → (∀ i, 0 < i → i ≤ Rk nm y → ¬ rkL nm Un Ids Vx i) → z = 0 := fun ow0 hno => by
      refine Classical.byContradiction (fun q => ?_)
      obtain ⟨u, hu, hR⟩ := l4 q
      obtain ⟨i, hi, hle⟩ := hc.2.2.2.2.1 ow0 u hu
      have := Lsr_mem.mp hi
      exact hno i this.1 (Nat.le_trans hle hR) (rkB_iff.mp this.2.2)
    have hi5 : k = 0 ∨ i0 ≤ Rk nm y := by
      by_cases q : k = 0
      · exact Or.inl q
      · obtain ⟨p, hp, e⟩ := l5 q
        exact Or.inr (Nat.le_trans (hc.2.1 p hp) e)
    clear l4 l5
    have hk : k * potS ≤ m + mmJ nm i0 mU 0 y := by
      rcases hi5 with q | hi5
      · rw [q, Nat.zero_mul]; exact Nat.zero_le _
      · have hle : k * potS ≤ mU * potS := Nat.mul_le_mul_right _ l3
        by_cases q0 : i0 ≤ 0
        · rw [em, if_pos q0]
          omega
        · unfold mmJ
          rw [if_pos ⟨by omega, by omega⟩]
          omega
    have hp0 : pcS nm tn sg Ds Nm y 0 = 2 + 2 * lfs sg y := rfl
    have e1 : ∀ s : Nat, (2 + 2 * P.countP (fun p => decide (p ≤ 11)) + vLf Un + s + k) * potS = (2 + 2 * P.countP (fun p => decide (p ≤ 11)) + vLf Un + s) * potS + k * potS := fun s => by rw [Nat.add_mul _ k]
    have e2 : pcS nm tn sg Ds Nm y 0 * potS ≤ (2 + 2 * P.countP (fun p => decide (p ≤ 11)) + vLf Un + z + k) * potS := Nat.mul_le_mul_right _ (by rw [hp0]; omega)
    rw [e1] at e2
    refine ⟨fun hno => ?_, ?_⟩
    · have hz : z ≤ ow * vLf Un := by
        by_cases q : ow = 1
        · rw [q]; omega
        · have := hz0 (by omega) hno
          omega
      have : (2 + 2 * P.countP (fun p => decide (p ≤ 11)) + vLf Un + z) * potS ≤ a * potS := Nat.mul_le_mul_right _ (by omega)
      omega
    · have : (2 + 2 * P.countP (fun p => decide (p ≤ 11)) + vLf Un + z) * potS ≤ (a + (vLf Un - ow * vLf Un)) * potS := Nat.mul_le_mul_right _ (by
        have : ow = 0 ∨ ow = 1 := by omega
        rcases this with rfl | rfl
        · omega
        · omega)
      rw [Nat.add_mul a] at this
      omega
  have hn0 : nCm nm Nm 0 ≤ 6 := Nat.le_trans List.countP_le_length h.2.2.2.1.2.1
  have hLL : 2 * (LLd nm tn sg Nm 0 * potS) ≤ a * potS + m := LL_bd (fun v hv hR => by
    have hy := cost v hv
    have hlam := lam_lev h.1 (fun v hv => (h.2.2.2.1.1 v).mp hv) (h.2.2.2.1.2.2 v hv).2
    have hR0 : Rk nm v = 0 := by omega
    have h0 := hy.1 (fun i hi hi2 => by omega)
    have hmm : mmJ nm i0 mU 0 v = 0 := by
      unfold mmJ
      rw [if_neg (by omega)]
    rw [hR0] at hlam
    have : 2 * lam nm tn sg v ≤ pcS nm tn sg Ds Nm v 0 := hlam
    have := Nat.mul_le_mul_right potS this
    rw [Nat.mul_assoc] at this
    omega) b4
  refine ⟨vLf Un + M, 0, (vLf Un - ow * vLf Un) * potS, a * potS + m, (vLf Un - ow * vLf Un) * potS, [], ?_, ⟨List.nodup_nil, fun b hb => by cases hb⟩, by omega, fun y hy _ => cost y hy, b4, hLL, ?_⟩
  · have : nCs nm gv Un Ds 0 = 0 := rfl
    rw [this, List.length_nil, ← eM]
    omega
  · rw [hT0]
    by_cases hn : nCm nm Nm 0 = 0
    · left
      have hL1 : LLd nm tn sg Nm 0 = 1 := Nat.le_antisymm (LLd_le (fun v hv hR => by
        exfalso
        have : 0 < nCm nm Nm 0 := List.countP_pos_iff.mpr ⟨v, hv, decide_eq_true hR⟩
        omega) (Nat.le_refl _)) LLd_pos
      rw [hn, hL1, Nat.one_mul]
      refine ⟨rfl, rfl, b3, b1, b2, ?_, rfl⟩
      have := pot_00
      have := pot_mono (t := 0) (u := 0) (n := 0) (t2 := 2 * P.countP (fun p => decide (p ≤ 11)) + 3 * ow) (u2 := vLf Un + M) (n2 := 0) (by omega) (by omega) (by omega) hT (by omega) (by omega)
      omega
    · right
      have g1 := pot_gain (t := 2 * P.countP (fun p => decide (p ≤ 11)) + 3 * ow) (u := vLf Un + M) (n := 0) (s := 0) (v := 0) (m := 1) (a := 42) (b := 25) (by omega) (by omega) (by omega) (by decide)
      have g2 := pot_mono (t := 2 * P.countP (fun p => decide (p ≤ 11)) + 3 * ow) (u := vLf Un + M) (n := 0 + 1) (t2 := 2 * P.countP (fun p => decide (p ≤ 11)) + 3 * ow) (u2 := vLf Un + M) (n2 := nCm nm Nm 0) (Nat.le_refl _) (Nat.le_refl _) (by omega) hT (by omega) hn0
      rw [Nat.add_zero, Nat.add_zero] at g1
      have fl : nFl (a * potS + m) ((vLf Un - ow * vLf Un) * potS) (pot (2 * P.countP (fun p => decide (p ≤ 11)) + 3 * ow) (vLf Un + M) (nCm nm Nm 0)) := ⟨by omega, b3⟩
      have f1 := fl.1
      exact ⟨by omega, by omega, Or.inl fl, Or.inl rfl, Or.inr fl, Or.inl fl, pot_low hT (by omega) hn0 (by omega)⟩
end
