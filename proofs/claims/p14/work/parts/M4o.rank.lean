/-! ALL LEVELS: a step where something lies over itself; the end -/
section
variable {nm tn sg : Nat → Bool} {Un : List Uf} {Ids Ds P : List Nat} {gv : Nat → Nat} {It : Nat → List Nat} {Vx : Nat → Nat → Bool} {LV : Nat → Prop} {CT CM PM Nm : List Nat} {mU nA i0 VM ow K : Nat} {X Y Z : Nat → Nat}
/-- what kind such a level is: what it costs, what is lost, what the numbers are -/
theorem kind_ex (h : gvn nm tn sg Un Ids Ds P gv It Vx LV CT CM PM Nm mU nA X Y Z) {i : Nat} (hi : 1 ≤ i) (hT20 : tL nm P i < 21) (hz : LLd nm tn sg Nm (i - 1) = 1 → nCm nm Nm (i - 1) = 0) (hz2 : nCm nm Nm (i - 1) = 0 → LLd nm tn sg Nm (i - 1) = 1 ∧ 2 ≤ tL nm P i ∧ ∀ d ∈ Ds, lev nm d = i → 2 ≤ eL nm d) (hex : ∃ v ∈ Nm, Rk nm v = i) {o : Nat} (hoz : nCm nm Nm (i - 1) = 0 → o = 0) (hU : nL nm gv Un Ds i + o < 37) :
    ∃ (m0 v E2 h2 g e : Nat) (Bs : List Nat), 1 ≤ m0 ∧ m0 ≤ Nm.countP (fun v => decide (Rk nm v = i)) ∧ v = nL nm gv Un Ds i + o + Bs.length ∧
      (Bs.Nodup ∧ ∀ b ∈ Bs, ∃ v ∈ Un, uB v = b ∧ Rk nm (Y (uA v)) = i ∧ ∃ z ∈ Un, uB z = b ∧ 11 < dn1 (uL z) ∧ fC nm (uL z) = fC nm (uH z)) ∧
      (∀ y ∈ Nm, Rk nm y = i → cLv nm tn sg Ds (LLd nm tn sg Nm) y i ≤ LLd nm tn sg Nm (i - 1) * E2) ∧ E2 ≤ 2 * tL nm P i + wL nm gv Un Ds i ∧
      2 * (2 * tL nm P i + wL nm gv Un Ds i) + 4 * E2 + 6 * o ≤ h2 ∧ (2 * tL nm P i + wL nm gv Un Ds i) + E2 + 2 * o ≤ g ∧ (2 * tL nm P i + wL nm gv Un Ds i) + o ≤ e ∧
      (1 ≤ nCm nm Nm (i - 1) → okF h2 g e (fN m0 (2 * tL nm P i + 3) v) (fD m0 (2 * tL nm P i + 3) v)) ∧ (nCm nm Nm (i - 1) = 0 → okZ h2 g e (fN m0 (2 * tL nm P i + 3) v) (fD m0 (2 * tL nm P i + 3) v)) := by
  have hNm : ∀ v, nm v = true → v ∈ Nm := fun v hv => (h.2.2.2.1.1 v).mp hv
  obtain ⟨y0, hy0, hR0⟩ := hex
  have hw := wL_le h.1 i
  generalize hTT : tL nm P i = T at hw hT20 hz2
  generalize hNN : nL nm gv Un Ds i = N at hw hU
  generalize hWW : wL nm gv Un Ds i = W at hw
  have c1 : 1 ≤ Nm.countP (fun v => decide (Rk nm v = i)) := List.countP_pos_iff.mpr ⟨y0, hy0, decide_eq_true hR0⟩
  -- the greatest weight is max T 1
  have mW : W ≤ max T 1 * N := Nat.le_trans hw (Nat.mul_le_mul_right _ (by omega))
  have mo : o ≤ max T 1 * o := Nat.le_mul_of_pos_left _ (by omega)
  have mU2 : max T 1 * (N + o) = max T 1 * N + max T 1 * o := Nat.mul_add _ _ _
  have ge : 2 * T + W + o ≤ 2 * T + max T 1 * (N + o) := by omega
  by_cases hnn : 2 ≤ Nm.countP (fun v => decide (Rk nm v = i))
  · refine ⟨2, N + o, 2 * T + W, 12 * T + 6 * (max T 1 * (N + o)), 4 * T + 2 * (max T 1 * (N + o)), 2 * T + max T 1 * (N + o), [], by omega, hnn, rfl, ⟨List.nodup_nil, fun b hb => by cases hb⟩, fun y hy _ => ?_, Nat.le_refl _, by omega, by omega, ge, fun hn => okP hT20 hU, fun hn => okZP hT20 hU (hz2 hn).2.1⟩
    have := cLv_any h.1 hNm (h.2.2.2.1.2.2 y hy).2 i
    rw [hTT, hWW] at this
    exact this
  · have huq : ∀ v, nm v = true → Rk nm v = i → v = y0 := fun v hv hr => by
      refine Classical.byContradiction (fun hne => hnn ?_)
      have := sub_len [v, y0] (Nm.filter (fun v => decide (Rk nm v = i))) (by
        rw [List.nodup_cons, List.mem_singleton]
        exact ⟨hne, List.nodup_cons.mpr ⟨fun q => (by cases q), List.nodup_nil⟩⟩) (fun z hz => by
        rcases List.mem_cons.mp hz with rfl | hz
        · exact List.mem_filter.mpr ⟨hNm _ hv, decide_eq_true hr⟩
        · rw [List.mem_singleton] at hz
          rw [hz]
          exact List.mem_filter.mpr ⟨hy0, decide_eq_true hR0⟩)
      rw [List.countP_eq_length_filter]
      exact this
    have only : ∀ {E2 : Nat}, cLv nm tn sg Ds (LLd nm tn sg Nm) y0 i ≤ LLd nm tn sg Nm (i - 1) * E2 → ∀ y ∈ Nm, Rk nm y = i → cLv nm tn sg Ds (LLd nm tn sg Nm) y i ≤ LLd nm tn sg Nm (i - 1) * E2 := fun {E2} hE y hy hr => by
      rw [huq y ((h.2.2.2.1.1 y).mpr hy) hr]
      exact hE
    by_cases hX : ∃ d ∈ Ds, lev nm d = i ∧ nm d = false ∧ P.count d ≤ 1 ∧ 2 ≤ tau tn sg y0 d
    · obtain ⟨d, hd, hl, hnm, hP, ht⟩ := hX
      obtain ⟨hh, Bs, E2, q1, q2, q3, q4, q5, q6, q7, q8, q9⟩ := kind_X h.1 h.2.2.1.1 h.2.2.1.2.1 h.2.2.1.2.2.1 hNm (h.2.2.2.1.2.2 y0 hy0).2 hR0 huq hd hl hnm hP ht
      rw [hTT] at q5 q7 q8 q9
      rw [hNN] at q6 q8 q9
      rw [hWW] at q7 q8 q9
      have to1 : o ≤ T * o := Nat.le_mul_of_pos_left _ (by omega)
      have tU : T * (N + o) = T * N + T * o := Nat.mul_add _ _ _
      have e1 : N + o + Bs.length = N + o + 2 - hh := by omega
      refine ⟨1, N + o + Bs.length, E2, 12 * T + 6 * (T * (N + o)) - 4 * (T * hh), 4 * T + 2 * (T * (N + o)) - T * hh, 2 * T + T * (N + o), Bs, Nat.le_refl _, c1, rfl, ⟨q2, q3⟩, only q4, q7, by omega, by omega, by omega, fun hn => ?_, fun hn => ?_⟩
      · rw [e1]
        exact okX hT20 hU (by omega) q5 (by omega)
      · rw [e1]
        exact okZX hT20 hU (by omega) q5 (by omega)
    · have hV : ∀ d ∈ Ds, lev nm d = i → 2 ≤ tau tn sg y0 d → nm d = true ∨ 2 ≤ P.count d := fun d hd hl ht => by
        by_cases hn : nm d = true
        · exact Or.inl hn
        · right
          refine Classical.byContradiction (fun q => hX ⟨d, hd, hl, ?_, by omega, ht⟩)
          cases hq : nm d with
          | true => exact absurd hq hn
          | false => rfl
      have hpos := LLd_pos (nm := nm) (tn := tn) (sg := sg) (Nm := Nm) (j := i - 1)
      obtain ⟨E2, wt, q1, q2, q3, q4, q5⟩ := kind_V h.1 hNm (h.2.2.2.1.2.2 y0 hy0).2 hV (by
        by_cases q : 2 ≤ LLd nm tn sg Nm (i - 1)
        · exact Or.inl q
        · have e1 : LLd nm tn sg Nm (i - 1) = 1 := by omega
          exact Or.inr ⟨e1, (hz2 (hz e1)).2.2⟩)
      rw [hTT] at q3 q4 q5
      rw [hNN] at q4 q5
      rw [hWW] at q3 q4 q5
      rcases q2 with ⟨q2, rfl⟩ | ⟨q2, rfl⟩
      · have m1 : 6 * o ≤ max 6 (max (2 * T + 4) (3 * T)) * o := Nat.mul_le_mul_right _ (by omega)
        have m2 : 2 * o ≤ max 2 (T + 1) * o := Nat.mul_le_mul_right _ (by omega)
        have m3 : max 6 (max (2 * T + 4) (3 * T)) * (N + o) = max 6 (max (2 * T + 4) (3 * T)) * N + max 6 (max (2 * T + 4) (3 * T)) * o := Nat.mul_add _ _ _
        have m4 : max 2 (T + 1) * (N + o) = max 2 (T + 1) * N + max 2 (T + 1) * o := Nat.mul_add _ _ _
        rw [Nat.mul_zero, Nat.add_zero] at q4
        rw [Nat.add_zero] at q5
        refine ⟨1, N + o, E2, 12 * T + max 6 (max (2 * T + 4) (3 * T)) * (N + o), 4 * T + max 2 (T + 1) * (N + o), 2 * T + max T 1 * (N + o), [], Nat.le_refl _, c1, rfl, ⟨List.nodup_nil, fun b hb => by cases hb⟩, only q1, q3, ?_, ?_, ge, fun hn => okV hT20 hU, fun hn => ?_⟩
        · rw [m3]
          generalize max 6 (max (2 * T + 4) (3 * T)) * N = z1 at *
          generalize max 6 (max (2 * T + 4) (3 * T)) * o = z2 at *
          omega
        · rw [m4]
          generalize max 2 (T + 1) * N = z1 at *
          generalize max 2 (T + 1) * o = z2 at *
          omega
        · have := (hz2 hn).1
          omega
      · have hn := hz q2
        have ho := hoz hn
        subst ho
        rw [Nat.mul_one] at q4
        refine ⟨1, N + 0, E2, 12 * T + max 6 (max (2 * T + 8) (3 * T)) * (N + 0), 4 * T + max 2 (T + 2) * (N + 0), 2 * T + max T 1 * (N + 0), [], Nat.le_refl _, c1, rfl, ⟨List.nodup_nil, fun b hb => by cases hb⟩, only q1, q3, ?_, ?_, ge, fun hn2 => ?_, fun hn => okZV hT20 hU (hz2 hn).2.1⟩
        · rw [Nat.add_zero]
          have e : max 6 (max (2 * T + 4 + 4) (3 * T)) = max 6 (max (2 * T + 8) (3 * T)) := by omega
          rw [e] at q4
          generalize max 6 (max (2 * T + 8) (3 * T)) * N = z1 at *
          omega
        · rw [Nat.add_zero]
          have e : max 2 (T + 1 + 1) = max 2 (T + 2) := by omega
          rw [e] at q5
          generalize max 2 (T + 2) * N = z1 at *
          omega
        · omega
/-- a level where something lies over itself -/
theorem lv_R (h : gvn nm tn sg Un Ids Ds P gv It Vx LV CT CM PM Nm mU nA X Y Z) (hc : chs nm Un Ids Vx Y PM Nm i0 VM ow K) (hr : rcn (rkB nm Un Ids Vx) K + ow ≤ nA) {j : Nat} (hj : j + 1 ≤ K) (hrk : rkL nm Un Ids Vx (j + 1)) (hex : ∃ v ∈ Nm, Rk nm v = j + 1) (hex0 : 1 ≤ j → ∃ v ∈ Nm, Rk nm v = j) (hs : lvSt nm tn sg Un Ids Ds P Nm gv Vx Y i0 mU VM ow j) : lvSt nm tn sg Un Ids Ds P Nm gv Vx Y i0 mU VM ow (j + 1) := by
  obtain ⟨u, o, w, x, D, Bs, s1, s2, s3, s4, s5, s6, s7⟩ := hs
  have hT := tCm_le h hr hj
  rw [tCm_succ, if_pos (rkB_iff.mpr hrk)] at hT
  have hU := un_36 h
  have c1 := hc.1
  have hNm : ∀ v, nm v = true → v ∈ Nm := fun v hv => (h.2.2.2.1.1 v).mp hv
  have hn6 : nCm nm Nm (j + 1) ≤ 6 := Nat.le_trans List.countP_le_length h.2.2.2.1.2.1
  have B1 : Bs.Nodup ∧ ∀ b ∈ Bs, ∃ v ∈ Un, uB v = b ∧ Rk nm (Y (uA v)) ≤ j + 1 ∧ ∃ z ∈ Un, uB z = b ∧ 11 < dn1 (uL z) ∧ fC nm (uL z) = fC nm (uH z) := ⟨s2.1, fun b hb => by
    obtain ⟨v, hv, e, hle, hz⟩ := s2.2 b hb
    exact ⟨v, hv, e, by omega, hz⟩⟩
  have hu0 := uC_le h B1
  rw [nCs_succ] at hu0
  have ifle : (if i0 ≤ j + 1 then VM else 0) ≤ VM := by
    by_cases q : i0 ≤ j + 1
    · rw [if_pos q]; exact Nat.le_refl _
    · rw [if_neg q]; exact Nat.zero_le _
  have ifst := if_step (i0 := i0) (VM := VM) (j := j)
  -- no names below: the first level
  have hz0 : nCm nm Nm j = 0 → j = 0 := fun n0 => by
    refine Classical.byContradiction (fun q => ?_)
    obtain ⟨v, hv, e⟩ := hex0 (by omega)
    have : 0 < nCm nm Nm j := List.countP_pos_iff.mpr ⟨v, hv, decide_eq_true (by omega)⟩
    omega
  have hun : nCm nm Nm j = 0 → ∀ d, 11 < d → lev nm d = j + 1 → 2 ≤ eL nm d := fun n0 d h9 hl => by
    obtain ⟨a, b, rfl⟩ := nd_ex h9
    cases hn : nm (nd a b) with
    | false => exact eL_two hn
    | true =>
      exfalso
      rw [lev_nm hn] at hl
      have : 0 < nCm nm Nm j := List.countP_pos_iff.mpr ⟨nd a b, hNm _ hn, decide_eq_true (by omega)⟩
      omega
  have hz2 : nCm nm Nm j = 0 → LLd nm tn sg Nm j = 1 ∧ 2 ≤ tL nm P (j + 1) ∧ ∀ d ∈ Ds, lev nm d = j + 1 → 2 ≤ eL nm d := fun n0 => by
    have j0 := hz0 n0
    refine ⟨Nat.le_antisymm (LLd_le (fun v hv hR => by
      exfalso
      have : 0 < nCm nm Nm j := List.countP_pos_iff.mpr ⟨v, hv, decide_eq_true hR⟩
      omega) (Nat.le_refl _)) LLd_pos, ?_, fun d hd hl => hun n0 d (h.1.1.2.2 d hd) hl⟩
    obtain ⟨g, hg, w1, w2, v1, v2, _, _, hlv⟩ := hrk
    obtain ⟨_, e1, h9⟩ := sy_J h.1 g hg w1 v1
    have hP := (sy_told h.1 hg v1).1
    rw [← e1] at hlv
    have hpos : 1 ≤ lev nm (gv g) := by
      obtain ⟨a, b, e⟩ := nd_ex h9
      rw [e]
      exact lev_pos nm a b
    have he : lev nm (gv g) = j + 1 := by omega
    have h1 := tL_one (nm := nm) hP h9
    have h2 := hun n0 _ h9 he
    rw [he] at h1
    omega
  have hz : LLd nm tn sg Nm j = 1 → nCm nm Nm j = 0 := fun e => by
    refine Classical.byContradiction (fun q => ?_)
    obtain ⟨v, hv, hR⟩ := List.countP_pos_iff.mp (Nat.pos_of_ne_zero q)
    have := (LLd_ge (nm := nm) (tn := tn) (sg := sg) hv (of_decide_eq_true hR)).2
    omega
  have hoz : nCm nm Nm j = 0 → o = 0 := fun n0 => by
    rcases s7 with ⟨_, q, _⟩ | ⟨q, _⟩
    · exact q
    · omega
  have hNo : nL nm gv Un Ds (j + 1) + o < 37 := by
    omega
  obtain ⟨m0, v, E2, h2, g, e, Bt, k1, k2, k3, k4, k5, k6, k7, k8, k9, k10, k11⟩ := kind_ex h (i := j + 1) (by omega) (by omega) hz hz2 hex hoz hNo
  rw [show j + 1 - 1 = j from rfl] at k5 k10 k11
  have hdis : ∀ b ∈ Bs, b ∉ Bt := fun b hb hb2 => by
    obtain ⟨v1, hv1, e1, hle, _⟩ := s2.2 b hb
    obtain ⟨v2, hv2, e2, heq, _⟩ := k4.2 b hb2
    have := ((h.2.2.1.1 v1 hv1).2.2.2 v2 hv2 (by rw [e1, e2])).1
    rw [this] at heq
    omega
  have B2 : (Bs ++ Bt).Nodup ∧ ∀ b ∈ Bs ++ Bt, ∃ v ∈ Un, uB v = b ∧ Rk nm (Y (uA v)) ≤ j + 1 ∧ ∃ z ∈ Un, uB z = b ∧ 11 < dn1 (uL z) ∧ fC nm (uL z) = fC nm (uH z) := by
    refine ⟨List.nodup_append.mpr ⟨s2.1, k4.1, fun a ha b hb q => hdis a ha (by rw [q]; exact hb)⟩, fun b hb => ?_⟩
    rcases List.mem_append.mp hb with hb | hb
    · exact B1.2 b hb
    · obtain ⟨v1, hv1, e1, he, hz1⟩ := k4.2 b hb
      exact ⟨v1, hv1, e1, by omega, hz1⟩
  have hu := uC_le h B2
  rw [nCs_succ, List.length_append] at hu
  -- the part of 'M'
  have hM : ∃ V m, V = (if i0 = j + 1 then VM else 0) ∧ m = (if i0 = j + 1 then mU * potS else 0) ∧ 2 * m ≤ 3 * (V * potS) := by
    refine ⟨_, _, rfl, rfl, ?_⟩
    by_cases q : i0 = j + 1
    · rw [if_pos q, if_pos q, c1, ← Nat.mul_assoc, ← Nat.mul_assoc]
      exact Nat.mul_le_mul_right _ hU.2
    · rw [if_neg q, if_neg q, Nat.zero_mul]
      exact Nat.le_refl _
  obtain ⟨V, m, eV, em, m3⟩ := hM
  rw [← eV] at ifst
  have hV36 : u + v + V ≤ 36 := by omega
  have hsucc := nCm_succ (nm := nm) (j := j) Nm
  generalize hx2 : x + D + (2 * tL nm P (j + 1) + wL nm gv Un Ds (j + 1)) * (LLd nm tn sg Nm j * potS) = x2
  generalize hy2 : x + D + E2 * (LLd nm tn sg Nm j * potS) = y2
  have hyx : y2 ≤ x2 := by
    rw [← hx2, ← hy2]
    exact Nat.add_le_add_left (Nat.mul_le_mul_right _ k6) _
  have hxy : x ≤ y2 := by omega
  have cost : ∀ y ∈ Nm, j + 1 ≤ Rk nm y → pcS nm tn sg Ds Nm y (j + 1) * potS ≤ x2 + m + mmJ nm i0 mU (j + 1) y := by
    intro y hy hRy
    have a2 := (s4 y hy (by omega)).2
    have hmm := mm_step (i0 := i0) (mU := mU) hRy
    rw [← em] at hmm
    have a4 := cLv_any h.1 hNm (h.2.2.2.1.2.2 y hy).2 (j + 1)
    have a5 := Nat.mul_le_mul_right potS a4
    rw [show j + 1 - 1 = j from rfl, Nat.mul_comm (LLd nm tn sg Nm j), Nat.mul_assoc] at a5
    rw [pcS_succ, Nat.add_mul]
    omega
  have hLL : 2 * (LLd nm tn sg Nm (j + 1) * potS) ≤ y2 + m := LL_bd (fun v hv hR => by
    by_cases e : Rk nm v = j + 1
    · have hlam := lam_lev h.1 hNm (h.2.2.2.1.2.2 v hv).2
      rw [e] at hlam
      have h1 : 2 * lam nm tn sg v ≤ pcS nm tn sg Ds Nm v (j + 1) := hlam
      have a2 := (s4 v hv (by omega)).2
      have hmm := mm_step (nm := nm) (i0 := i0) (mU := mU) (j := j) (y := v) (by omega)
      rw [← em] at hmm
      have hmm2 : mmJ nm i0 mU (j + 1) v = 0 := by
        unfold mmJ
        rw [if_neg (by omega)]
      have a5 := Nat.mul_le_mul_right potS (k5 v hv e)
      rw [Nat.mul_comm (LLd nm tn sg Nm j), Nat.mul_assoc] at a5
      have := Nat.mul_le_mul_right potS h1
      rw [pcS_succ, Nat.mul_assoc, Nat.add_mul] at this
      omega
    · have h1 := (LLd_ge (nm := nm) (tn := tn) (sg := sg) hv (show Rk nm v ≤ j by omega)).1
      have := Nat.mul_le_mul_right potS h1
      omega) (by omega)
  have hpp : pot (tCm nm P (rkB nm Un Ids Vx) ow (j + 1)) (u + v + V) (nCm nm Nm (j + 1)) = pot (tCm nm P (rkB nm Un Ids Vx) ow j + (2 * tL nm P (j + 1) + 3)) (u + v + V) (nCm nm Nm (j + 1)) := by
    rw [tCm_succ, if_pos (rkB_iff.mpr hrk)]
  obtain ⟨f1, f2, f3⟩ := step_R (n2 := nCm nm Nm (j + 1)) (V := V) (m := m) s7 s6 s3 hT hV36 k1 (by omega) hn6 m3 (fun n0 => (hz2 n0).2.1) k10 k11 hx2.symm hy2.symm k7 k8 k9 k6 hLL
  have hlow := pot_low hT hV36 hn6 (by omega)
  refine ⟨u + v + V, 0, 0, x2 + m, 0, Bs ++ Bt, ?_, B2, by omega, fun y hy hRy => ⟨fun _ => cost y hy hRy, cost y hy hRy⟩, by omega, by omega, Or.inr ⟨by omega, ?_, Or.inr ⟨rfl, ?_⟩, Or.inl rfl, Or.inl rfl, Or.inr ?_, ?_⟩⟩
  · rw [nCs_succ, List.length_append, ifst]
    omega
  · rw [hpp]; exact f2
  · rw [hpp]; exact f1
  · rw [hpp]; exact f3
  · rw [hpp]; exact hlow
theorem i0_ex (nm : Nat → Bool) (K : Nat) : ∀ PM : List Nat, ∃ i0, (∀ p ∈ PM, i0 ≤ lev nm p) ∧ (i0 ≤ K → ∃ p ∈ PM, lev nm p = i0)
  | [] => ⟨K + 1, fun p hp => (by cases hp), fun q => (by omega)⟩
  | p :: PM => by
    obtain ⟨i0, h1, h2⟩ := i0_ex nm K PM
    by_cases q : i0 ≤ lev nm p
    · refine ⟨i0, fun r hr => ?_, fun z => ?_⟩
      · rcases List.mem_cons.mp hr with rfl | hr
        · exact q
        · exact h1 r hr
      · obtain ⟨r, hr, e⟩ := h2 z
        exact ⟨r, List.mem_cons_of_mem _ hr, e⟩
    · refine ⟨lev nm p, fun r hr => ?_, fun _ => ⟨p, List.mem_cons_self, rfl⟩⟩
      rcases List.mem_cons.mp hr with rfl | hr
      · exact Nat.le_refl _
      · have := h1 r hr
        omega
/-- the leaves that are walked in a name -/
theorem leaves_few (h : gvn nm tn sg Un Ids Ds P gv It Vx LV CT CM PM Nm mU nA X Y Z) {y : Nat} (hy : y ∈ Nm) : lam nm tn sg y ≤ 500000 := by
  have hY := hUX_Y h.2.2.1.1 h.2.2.1.2.1
  obtain ⟨i0, hi1, hi2⟩ := i0_ex nm (Rk nm y) PM
  have hrl : ∀ i ∈ Lsr (rkB nm Un Ids Vx) (Rk nm y), rkL nm Un Ids Vx i := fun i hi => rkB_iff.mp (Lsr_mem.mp hi).2.2
  have how : ∃ ow, ow ≤ 1 ∧ rcn (rkB nm Un Ids Vx) (Rk nm y) + ow ≤ nA ∧ (ow = 0 → ∀ u ∈ Un, ∃ i ∈ Lsr (rkB nm Un Ids Vx) (Rk nm y), i ≤ Rk nm (Y (uA u))) := by
    by_cases q : ∃ u ∈ Un, ∀ i ∈ Lsr (rkB nm Un Ids Vx) (Rk nm y), Rk nm (Y (uA u)) < i
    · obtain ⟨u, hu, hlo⟩ := q
      have := rk_own hY (Lsr_pw _) hrl (hY u hu).1 hlo
      rw [Lsr_len] at this
      exact ⟨1, Nat.le_refl _, this, fun z => (by omega)⟩
    · have := rk_cnt hY (Lsr_pw _) hrl
      rw [Lsr_len] at this
      refine ⟨0, Nat.zero_le _, this, fun _ u hu => ?_⟩
      refine Classical.byContradiction (fun z => q ⟨u, hu, fun i hi => ?_⟩)
      exact Nat.lt_of_not_le (fun z2 => z ⟨i, hi, z2⟩)
  obtain ⟨ow, o1, o2, o3⟩ := how
  have hc : chs nm Un Ids Vx Y PM Nm i0 (36 - Un.length) ow (Rk nm y) := ⟨rfl, hi1, hi2, o1, o3, y, hy, rfl⟩
  have names : ∀ i, 1 ≤ i → i ≤ Rk nm y → ∃ v ∈ Nm, Rk nm v = i := fun i hi hle => by
    obtain ⟨v, hv, e⟩ := lev_names (nm := nm) ((h.2.2.2.1.1 y).mpr hy) (Rk nm y - i) i (by omega) hi
    exact ⟨v, (h.2.2.2.1.1 v).mp hv, e⟩
  have key : ∀ j, j ≤ Rk nm y → lvSt nm tn sg Un Ids Ds P Nm gv Vx Y i0 mU (36 - Un.length) ow j := by
    intro j
    induction j with
    | zero => intro _; exact lv_start h hc o2
    | succ j ih =>
      intro hj
      have st := ih (by omega)
      by_cases q : rkL nm Un Ids Vx (j + 1)
      · exact lv_R h hc o2 hj q (names (j + 1) (by omega) hj) (fun h1 => names j h1 (by omega)) st
      · have hn : nCm nm Nm j + 1 ≤ nCm nm Nm (j + 1) := by
          rw [nCm_succ]
          obtain ⟨v, hv, e⟩ := names (j + 1) (by omega) hj
          have : 0 < Nm.countP (fun v => decide (Rk nm v = j + 1)) := List.countP_pos_iff.mpr ⟨v, hv, decide_eq_true e⟩
          omega
        exact lv_N h hc o2 hj q hn st
  obtain ⟨u, o, w, x, D, Bs, s1, s2, s3, s4, s5, s6, s7⟩ := key (Rk nm y) (Nat.le_refl _)
  have hT := tCm_le h o2 (Nat.le_refl _)
  have hU := un_36 h
  have hu := uC_le h s2
  have ifle : (if i0 ≤ Rk nm y then 36 - Un.length else 0) ≤ 36 - Un.length := by
    by_cases q : i0 ≤ Rk nm y
    · rw [if_pos q]; exact Nat.le_refl _
    · rw [if_neg q]; exact Nat.zero_le _
  have hn6 : nCm nm Nm (Rk nm y) ≤ 6 := Nat.le_trans List.countP_le_length h.2.2.2.1.2.1
  have hn1 : 0 < nCm nm Nm (Rk nm y) := List.countP_pos_iff.mpr ⟨y, hy, decide_eq_true (Nat.le_refl _)⟩
  rcases s7 with ⟨q, _⟩ | ⟨_, q, _⟩
  · omega
  · have m1 := pot_mono (t := tCm nm P (rkB nm Un Ids Vx) ow (Rk nm y)) (u := u) (n := nCm nm Nm (Rk nm y)) (t2 := 40) (u2 := 36) (n2 := 6) hT (by omega) hn6 (Nat.le_refl _) (Nat.le_refl _) (Nat.le_refl _)
    have m2 := pot_end
    have m3 := (LLd_ge (nm := nm) (tn := tn) (sg := sg) hy (Nat.le_refl (Rk nm y))).1
    have m4 : LLd nm tn sg Nm (Rk nm y) * potS ≤ 500000 * potS := by omega
    have := Nat.le_of_mul_le_mul_right m4 potS_pos
    omega
end
