/-! ALL LEVELS: a step -/
section
variable {nm tn sg : Nat → Bool} {Un : List Uf} {Ids Ds P : List Nat} {gv : Nat → Nat} {It : Nat → List Nat} {Vx : Nat → Nat → Bool} {LV : Nat → Prop} {CT CM PM Nm : List Nat} {mU nA i0 VM ow K : Nat} {X Y Z : Nat → Nat}
theorem pcS_succ {y j : Nat} : pcS nm tn sg Ds Nm y (j + 1) = pcS nm tn sg Ds Nm y j + cLv nm tn sg Ds (LLd nm tn sg Nm) y (j + 1) := by
  unfold pcS
  simp only [sumN]
  omega
theorem tCm_succ {rk : Nat → Bool} {j : Nat} : tCm nm P rk ow (j + 1) = tCm nm P rk ow j + (2 * tL nm P (j + 1) + if rk (j + 1) = true then 3 else 0) := by
  unfold tCm rcn
  simp only [sumN]
  by_cases h : rk (j + 1) = true
  · rw [if_pos h, if_pos h]; omega
  · rw [if_neg h, if_neg h]; omega
theorem nCs_succ {j : Nat} : nCs nm gv Un Ds (j + 1) = nCs nm gv Un Ds j + nL nm gv Un Ds (j + 1) := rfl
/-- the part of 'M' on a level -/
theorem mm_step {j y : Nat} (hy : j + 1 ≤ Rk nm y) : mmJ nm i0 mU j y = (if i0 = j + 1 then mU * potS else 0) + mmJ nm i0 mU (j + 1) y := by
  unfold mmJ
  by_cases e : i0 = j + 1
  · rw [if_pos e, if_pos (by omega), if_neg (by omega)]
    omega
  · rw [if_neg e]
    by_cases q : j < i0 ∧ i0 ≤ Rk nm y
    · rw [if_pos q, if_pos (by omega)]
      omega
    · rw [if_neg q, if_neg (by omega)]
theorem if_step {j : Nat} : (if i0 ≤ j + 1 then VM else 0) = (if i0 ≤ j then VM else 0) + if i0 = j + 1 then VM else 0 := by
  by_cases e : i0 = j + 1
  · rw [if_pos (by omega), if_neg (by omega), if_pos e]
    omega
  · by_cases q : i0 ≤ j
    · rw [if_pos (by omega), if_pos q, if_neg e]
      rfl
    · rw [if_neg (by omega), if_neg q, if_neg e]
/-- a level where nothing lies over itself -/
theorem lv_N (h : gvn nm tn sg Un Ids Ds P gv It Vx LV CT CM PM Nm mU nA X Y Z) (hc : chs nm Un Ids Vx Y PM Nm i0 VM ow K) (hr : rcn (rkB nm Un Ids Vx) K + ow ≤ nA) {j : Nat} (hj : j + 1 ≤ K) (hnr : ¬ rkL nm Un Ids Vx (j + 1)) (hn2 : nCm nm Nm j + 1 ≤ nCm nm Nm (j + 1)) (hs : lvSt nm tn sg Un Ids Ds P Nm gv Vx Y i0 mU VM ow j) : lvSt nm tn sg Un Ids Ds P Nm gv Vx Y i0 mU VM ow (j + 1) := by
  obtain ⟨u, o, w, x, D, Bs, s1, s2, s3, s4, s5, s6, s7⟩ := hs
  have hT := tCm_le h hr hj
  rw [tCm_succ, if_neg (fun q => hnr (rkB_iff.mp q)), Nat.add_zero] at hT
  have hU := un_36 h
  have c1 := hc.1
  have hNm : ∀ v, nm v = true → v ∈ Nm := fun v hv => (h.2.2.2.1.1 v).mp hv
  have B2 : Bs.Nodup ∧ ∀ b ∈ Bs, ∃ v ∈ Un, uB v = b ∧ Rk nm (Y (uA v)) ≤ j + 1 ∧ ∃ z ∈ Un, uB z = b ∧ 11 < dn1 (uL z) ∧ fC nm (uL z) = fC nm (uH z) := ⟨s2.1, fun b hb => by
    obtain ⟨v, hv, e, hle, hz⟩ := s2.2 b hb
    exact ⟨v, hv, e, by omega, hz⟩⟩
  have hu := uC_le h B2
  have hn6 : nCm nm Nm (j + 1) ≤ 6 := Nat.le_trans List.countP_le_length h.2.2.2.1.2.1
  -- the part of 'M'
  have hM : ∃ V m, V = (if i0 = j + 1 then VM else 0) ∧ m = (if i0 = j + 1 then mU * potS else 0) ∧ V ≤ VM ∧ (V = 0 ∨ 1 ≤ tL nm P (j + 1)) ∧ 2 * m ≤ 3 * (V * potS) := by
    refine ⟨_, _, rfl, rfl, ?_, ?_, ?_⟩
    · by_cases q : i0 = j + 1
      · rw [if_pos q]; exact Nat.le_refl _
      · rw [if_neg q]; exact Nat.zero_le _
    · by_cases q : i0 = j + 1
      · right
        obtain ⟨p, hp, e⟩ := hc.2.2.1 (by rw [q]; exact hj)
        have hpP := h.2.1.2.2.2.2 p hp
        have h9 : 11 < p := Classical.byContradiction (fun z => by rw [lev_low (by omega)] at e; omega)
        have := tL_one (nm := nm) hpP h9
        rw [e, q] at this
        exact Nat.le_trans (eL_pos nm p) this
      · exact Or.inl (if_neg q)
    · by_cases q : i0 = j + 1
      · rw [if_pos q, if_pos q, c1, ← Nat.mul_assoc, ← Nat.mul_assoc]
        exact Nat.mul_le_mul_right _ hU.2
      · rw [if_neg q, if_neg q, Nat.zero_mul]
        exact Nat.le_refl _
  obtain ⟨V, m, eV, em, m1, m2, m3⟩ := hM
  rw [nCs_succ] at hu
  have hV36 : u + V ≤ 36 := by
    have e1 : (if i0 ≤ j + 1 then VM else 0) = (if i0 ≤ j then VM else 0) + V := by rw [if_step, eV]
    have : (if i0 ≤ j + 1 then VM else 0) ≤ VM := by
      by_cases q : i0 ≤ j + 1
      · rw [if_pos q]; exact Nat.le_refl _
      · rw [if_neg q]; exact Nat.zero_le _
    omega
  have hne : nCm nm Nm j = 0 → tL nm P (j + 1) ≠ 1 := fun n0 => by
    refine tL_ne1 P (fun p hp h9 hl => ?_)
    obtain ⟨a, b, rfl⟩ := nd_ex h9
    cases hn : nm (nd a b) with
    | false => exact eL_two hn
    | true =>
      exfalso
      rw [lev_nm hn] at hl
      have : 0 < nCm nm Nm j := List.countP_pos_iff.mpr ⟨nd a b, hNm _ hn, decide_eq_true (by omega)⟩
      omega
  have st := step_N (T := tL nm P (j + 1)) (n2 := nCm nm Nm (j + 1)) s7 s6 hT hV36 hn2 hn6 m3 m2 hne
  generalize hx : x + 2 * tL nm P (j + 1) * (LLd nm tn sg Nm j * potS) + m = x2 at st
  have hpp : pot (tCm nm P (rkB nm Un Ids Vx) ow (j + 1)) (u + V) (nCm nm Nm (j + 1)) = pot (tCm nm P (rkB nm Un Ids Vx) ow j + 2 * tL nm P (j + 1)) (u + V) (nCm nm Nm (j + 1)) := by
    rw [tCm_succ, if_neg (fun q => hnr (rkB_iff.mp q)), Nat.add_zero]
  have hlow := pot_low hT hV36 hn6 (by omega)
  -- what the level costs
  have cost : ∀ y ∈ Nm, j + 1 ≤ Rk nm y → ((∀ i, j + 1 < i → i ≤ Rk nm y → ¬ rkL nm Un Ids Vx i) → pcS nm tn sg Ds Nm y (j + 1) * potS ≤ x2 + mmJ nm i0 mU (j + 1) y) ∧ pcS nm tn sg Ds Nm y (j + 1) * potS ≤ x2 + (D + wL nm gv Un Ds (j + 1) * (LLd nm tn sg Nm j * potS)) + mmJ nm i0 mU (j + 1) y := by
    intro y hy hRy
    obtain ⟨a1, a2⟩ := s4 y hy (by omega)
    have hmm := mm_step (i0 := i0) (mU := mU) hRy
    rw [← em] at hmm
    rw [pcS_succ, Nat.add_mul]
    refine ⟨fun hno => ?_, ?_⟩
    · have a3 := a1 (fun i hi hi2 => by
        by_cases e : i = j + 1
        · rw [e]; exact hnr
        · exact hno i (by omega) hi2)
      have a4 := cLv_stat h.1 hNm (h.2.2.2.1.2.2 y hy).2 (i := j + 1) (fun i hi hi2 => by
        by_cases e : i = j + 1
        · rw [e]; exact hnr
        · exact hno i (by omega) hi2)
      have a5 := Nat.mul_le_mul_right potS a4
      rw [show j + 1 - 1 = j from rfl, Nat.mul_comm (LLd nm tn sg Nm j), Nat.mul_assoc] at a5
      omega
    · have a4 := cLv_any h.1 hNm (h.2.2.2.1.2.2 y hy).2 (j + 1)
      have a5 := Nat.mul_le_mul_right potS a4
      rw [show j + 1 - 1 = j from rfl, Nat.mul_comm (LLd nm tn sg Nm j), Nat.mul_assoc, Nat.add_mul] at a5
      omega
  have hx4 : 4 * potS ≤ x2 := by omega
  have hLL : 2 * (LLd nm tn sg Nm (j + 1) * potS) ≤ x2 := LL_bd (fun v hv hR => by
    by_cases e : Rk nm v = j + 1
    · have hlam := lam_lev h.1 hNm (h.2.2.2.1.2.2 v hv).2
      rw [e] at hlam
      have h1 : 2 * lam nm tn sg v ≤ pcS nm tn sg Ds Nm v (j + 1) := hlam
      have h2 := (cost v hv (by omega)).1 (fun i hi hi2 => by omega)
      have hmm : mmJ nm i0 mU (j + 1) v = 0 := by
        unfold mmJ
        rw [if_neg (by omega)]
      have := Nat.mul_le_mul_right potS h1
      rw [Nat.mul_assoc] at this
      omega
    · have h1 := (LLd_ge (nm := nm) (tn := tn) (sg := sg) hv (show Rk nm v ≤ j by omega)).1
      have := Nat.mul_le_mul_right potS h1
      omega) hx4
  refine ⟨u + V, o + nL nm gv Un Ds (j + 1), w, x2, D + wL nm gv Un Ds (j + 1) * (LLd nm tn sg Nm j * potS), Bs, ?_, B2, ?_, cost, hx4, hLL, Or.inr ⟨by omega, ?_, Or.inl ?_, Or.inr ?_, Or.inr ?_, Or.inl ?_, ?_⟩⟩
  · rw [nCs_succ, if_step, ← eV]
    omega
  · have w1 := Nat.mul_le_mul_right (LLd nm tn sg Nm j * potS) (wL_le h.1 (j + 1))
    have w2 : nL nm gv Un Ds (j + 1) * (2 * tL nm P (j + 1) * (LLd nm tn sg Nm j * potS)) ≤ nL nm gv Un Ds (j + 1) * x2 := Nat.mul_le_mul_left _ (by omega)
    have w3 : o * x ≤ o * x2 := Nat.mul_le_mul_left _ (by omega)
    have w4 : nL nm gv Un Ds (j + 1) * (2 * tL nm P (j + 1) * (LLd nm tn sg Nm j * potS)) = 2 * (tL nm P (j + 1) * nL nm gv Un Ds (j + 1) * (LLd nm tn sg Nm j * potS)) := by
      simp only [Nat.mul_assoc, Nat.mul_left_comm, Nat.mul_comm]
    rw [Nat.add_mul]
    omega
  · rw [hpp]
    have := st.1
    omega
  · rw [hpp]; exact st
  · rw [hpp]; exact st
  · rw [hpp]; exact st
  · rw [hpp]; exact st
  · rw [hpp]; exact hlow
end
