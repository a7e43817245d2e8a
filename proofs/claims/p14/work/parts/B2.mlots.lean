/-! THE REFERENCE: lots, exactly -/
theorem m_closed_loop {s : rSg} {T : Nat} {E : List (At × At)} (h : mI s T E) {P : Option rv → rSg → Prop} {r : Int32} (hP : P (some (.inl r)) s) : ∀ (n v : Nat) (a : Int32), v + n = 6 → cN E n v a = r → g_205_4 a (nI v) s P := by
  obtain ⟨⟨hw, rk, hok⟩, hA, hB⟩ := h
  have hT := hw.2.1
  have hT75 := hw.1
  intro n
  induction n with
  | zero =>
    intro v a hv hr
    obtain rfl : v = 6 := by omega
    refine w_205_4 s a (nI 6) ⟨fun _ => ?_, fun q => absurd (by decide) q⟩
    rw [show a = r from hr]
    exact hP
  | succ n ih =>
    intro v a hv hr
    refine w_205_4 s a (nI v) ⟨fun q => absurd ((nI_leI (a := 6) (by decide) (by omega)).mp q) (by omega), fun _ => ?_⟩
    rw [show (2 : Int32) * nI v = nI (2 * v) by rw [show (2 : Int32) = nI 2 from rfl, pk_mul]]
    refine (mw_walk hw hok (c := 2 * v) (by omega)).imp ?_
    rintro _ s ⟨rfl, c2, rfl, D2, r2, w2⟩
    refine ⟨_, rfl, (m_isOpen s (by omega)).imp ?_⟩
    rintro _ s ⟨rfl, rfl⟩
    rw [nI_1]
    by_cases q : c2 / 2 < 64
    · rw [if_pos q]
      have hop : ¬ closedP E v := by
        intro hcl
        have ho : mV s c2 = none := by
          rcases mV_var hw q with ⟨_, q⟩ | ⟨e, _, _, q⟩
          · exact q
          · exact absurd q (r2 e)
        obtain ⟨th, a1, a2⟩ := vSol_any hok ho 11
        exact hcl ⟨_, hA th a1, by show th (2 * v) = 11; rw [w2.1 th a1]; exact a2⟩
      refine ⟨_, rfl, fun q => absurd q (by decide), fun _ => ?_⟩
      rw [Int32.add_zero]
      refine ih (v + 1) a (by omega) ?_
      rw [← hr]
      show _ = cN E n (v + 1) (iteP (closedP E v) (a + 1) a)
      rw [iteP_neg hop]
    · rw [if_neg q]
      have hcl : closedP E v := by
        rintro ⟨ρ, h1, h2⟩
        obtain ⟨th, a1, a2⟩ := hB ρ h1
        have e : th c2 = 11 := by rw [← w2.1 th a1, a2 v (by omega)]; exact h2
        by_cases q2 : c2 / 2 < 75
        · have := (a1 c2 D2).2.1 _ (mV_atom (by omega) q2)
          omega
        · obtain ⟨x, y, _, _, _, _, hp⟩ := mV_pair hw (c := c2) (by omega) D2
          have := (a1 c2 D2).2.2 _ _ hp
          have := nd_big (th (2 * x + c2 % 2)) (th (2 * y + c2 % 2))
          omega
      refine ⟨_, rfl, fun _ => ih (v + 1) (a + 1) (by omega) ?_, fun q => absurd rfl q⟩
      rw [← hr]
      show _ = cN E n (v + 1) (iteP (closedP E v) (a + 1) a)
      rw [iteP_pos hcl]
theorem cn_ge (np : Nat) (t : At) : np ≤ cn np t := by cases t with | inl x => exact Nat.le_refl _ | inr x => exact Nat.le_succ _
theorem ms_183f {s : rSg} {T G L : Nat} (hh : hp s T G L) : EvS rSkel 1 183 [.inr (.inr (some 725))] s (fun v t => v = none ∧ hp t T G L ∧ mid s T G L t ∧ t 725 59 = s 725 59) := by
  refine w_183 s ⟨rfl, ?_⟩
  rw [hh.2.1.1, hh.2.1.2.1, hh.2.1.2.2]
  have k : mK [] [54, 55, 56] s (up2 (up2 (up2 s 725 54 (nI T)) 725 55 (nI G)) 725 56 (nI L)) := ((mK.rfl'.upF (by simp)).upF (by simp)).upF (by simp)
  have e4 : up2 (up2 (up2 s 725 54 (nI T)) 725 55 (nI G)) 725 56 (nI L) 725 54 = nI T := by rw [up2_nj _ _ _ (by decide), up2_nj _ _ _ (by decide), up2_same]
  have e5 : up2 (up2 (up2 s 725 54 (nI T)) 725 55 (nI G)) 725 56 (nI L) 725 55 = nI G := by rw [up2_nj _ _ _ (by decide), up2_same]
  have e6 : up2 (up2 (up2 s 725 54 (nI T)) 725 55 (nI G)) 725 56 (nI L) 725 56 = nI L := up2_same _ _ _ _
  generalize up2 (up2 (up2 s 725 54 (nI T)) 725 55 (nI G)) 725 56 (nI L) = t at k e4 e5 e6
  have e : hx T G L s t := k.hx (fun k a b => by simp)
  exact ⟨hh.keep e ⟨k.2 10 (by simp), k.2 11 (by simp), k.2 12 (by simp)⟩, ⟨e, k.sz (fun k a b => by simp), ⟨e4, e5, e6⟩, k.mono (by simp) (by simp [jM])⟩, k.2 59 (by simp)⟩
theorem hp_draw {s t : rSg} {z : Int32} {T G L : Nat} (hh : hp s T G L) (hT : T < 1400) (hd : mDr s t z T) : hp t (cn T (tD z)) G L ∧ hx T G L s t ∧ mK [727, 728] [10, 59] s t := by
  obtain ⟨d1, d2, d3, d4, d5, d6⟩ := hd
  have b1 := hh.1
  have n1 := cn_le T (tD z)
  have n0 := cn_ge T (tD z)
  have k : mK [727, 728] [10, 59] s t := ⟨fun q g1 g2 => d1 q g1 (fun e => g2 (by simp [e])) (fun e => g2 (by simp [e])), fun j g => d2 j (fun e => g (by simp [e])) (fun e => g (by simp [e]))⟩
  have e : hx T G L s t := by
    refine ⟨d5, fun j _ => ⟨?_, ?_, ?_, ?_⟩, fun j _ => ⟨?_, ?_, ?_⟩⟩
    all_goals rw [k.1 _ (by decide) (by simp)]
  refine ⟨⟨by omega, ⟨d4, by rw [k.2 11 (by simp)]; exact hh.2.1.2.1, by rw [k.2 12 (by simp)]; exact hh.2.1.2.2⟩, fun q h1 h2 => ?_, hh.2.2.2.ext e.2.1 n0⟩, e, k⟩
  by_cases hq : q < T
  · obtain ⟨a, b, r1, r2, r3⟩ := hh.2.2.1 q h1 hq
    exact ⟨a, b, by rw [(d5 q hq).1]; exact r1, by rw [(d5 q hq).2]; exact r2, r3⟩
  · obtain rfl : q = T := by omega
    have ok := tD_ok z
    cases hD : tD z with
    | inl x => rw [hD] at h2; exact absurd h2 (Nat.lt_irrefl _)
    | inr x =>
      obtain ⟨p, p2⟩ := x
      rw [hD] at ok
      obtain ⟨o1, o2⟩ := ok
      obtain ⟨c1, c2⟩ := d6 p p2 hD
      have := mc_lt o1
      have := mc_lt o2
      exact ⟨mc p, mc p2, c1, c2, by omega, by omega⟩
theorem m_lot_loop {s0 : rSg} {T0 G L : Nat} (hT0 : T0 ≤ 900) {z0 : Int32} {P : Option rv → rSg → Prop} (hP : ∀ (t : rSg) (T : Nat), t 725 59 = zn 4 z0 → mid s0 T0 G L t → (Sat (lE 4 z0) → mI t T (lE 4 z0)) → P (some (.inl (iteP (Sat (lE 4 z0)) 1 0))) t) :
    ∀ (n k : Nat) (y : Int32) (s : rSg) (T tr : Nat), k + n = 4 → s 725 59 = zn k z0 → mid s0 T0 G L s → hp s T G L → T0 ≤ T → T ≤ T0 + 2 * k → s 725 16 = nI tr → tr ≤ 128 * k → ((y = 1 ∧ Sat (lE k z0) ∧ mI s T (lE k z0)) ∨ (y = 0 ∧ ¬ Sat (lE k z0))) → g_201_8 y (nI k) s P := by
  intro n
  induction n with
  | zero =>
    intro k y s T tr hk hz hm hh hT1 hT h16 htr hy
    obtain rfl : k = 4 := by omega
    refine w_201_8 s y (nI 4) ⟨fun _ => ?_, fun q => absurd (by decide) q⟩
    rcases hy with ⟨rfl, h1, h2⟩ | ⟨rfl, h1⟩
    · have := hP s T hz hm (fun _ => h2)
      rw [iteP_pos h1] at this
      exact ⟨bN1, this⟩
    · have := hP s T hz hm (fun q => absurd q h1)
      rw [iteP_neg h1] at this
      exact ⟨bN0, this⟩
  | succ n ih =>
    intro k y s T tr hk hz hm hh hT1 hT h16 htr hy
    refine w_201_8 s y (nI k) ⟨fun q => absurd ((nI_leI (a := 4) (by decide) (by omega)).mp q) (by omega), fun _ => (m_drawTerm hz hh.2.1.1 (by omega)).imp ?_⟩
    rintro _ t ⟨rfl, hd1⟩
    have n1 := cn_le T (tD (zn k z0))
    have n0 := cn_ge T (tD (zn k z0))
    obtain ⟨hh1, e1, k1⟩ := hp_draw hh (by omega) hd1
    have m1 := hm.K hT1 (Nat.le_refl _) (Nat.le_refl _) e1 k1 (by simp [kM, kZ]) (fun k a b => by simp; omega) (by simp [jM, jZ]) (by simp)
    refine ⟨_, rfl, (m_drawTerm hd1.2.2.1 hd1.2.2.2.1 (by omega)).imp ?_⟩
    rintro _ u ⟨rfl, hd2⟩
    generalize enp1 : cn T (tD (zn k z0)) = T1 at *
    have n2 := cn_le T1 (tD (tZ (zn k z0)))
    have n3 := cn_ge T1 (tD (tZ (zn k z0)))
    obtain ⟨hh2, e2, k2⟩ := hp_draw hh1 (by omega) hd2
    have m2 := m1.K (show T0 ≤ T1 by omega) (Nat.le_refl _) (Nat.le_refl _) e2 k2 (by simp [kM, kZ]) (fun k a b => by simp; omega) (by simp [jM, jZ]) (by simp)
    have u16 : u 725 16 = nI tr := by rw [hd2.2.1 16 (by decide) (by decide), hd1.2.1 16 (by decide) (by decide)]; exact h16
    rw [nI_1]
    refine ⟨_, rfl, fun hy0 => ?_, fun hy1 => ?_⟩
    · have h1 : ¬ Sat (lE k z0) := by
        rcases hy with ⟨e, _⟩ | ⟨_, h⟩
        · rw [e] at hy0; exact absurd hy0 (by decide)
        · exact h
      exact ih (k + 1) 0 u _ tr (by omega) hd2.2.2.1 m2 hh2 (by omega) (by omega) u16 (by omega) (Or.inr ⟨rfl, lE_mono h1⟩)
    · obtain ⟨h1, h2⟩ : Sat (lE k z0) ∧ mI s T (lE k z0) := by
        rcases hy with ⟨_, h⟩ | ⟨e, _⟩
        · exact h
        · exact absurd e hy1
      obtain ⟨i1, D1, v1⟩ := mI_draw (by omega) hd1 h2
      rw [enp1] at i1 D1 v1
      obtain ⟨i2, D2, v2⟩ := mI_draw (by omega) hd2 i1
      obtain ⟨D3, v3⟩ := mI_keep hd2 i1 D1 v1
      refine (m_eqLot (by omega) i2 D3 D2 v3 v2 u16 (by omega)).imp ?_
      rintro _ w ⟨hr, w0, w1, tr2, wtr, w16⟩
      have wf : mfb u w := ⟨w0, w1⟩
      have w59 : w 725 59 = zn (k + 1) z0 := by rw [w1 59 (by decide) (by decide)]; exact hd2.2.2.1
      have m3 := m2.K (show T0 ≤ cn T1 (tD (tZ (zn k z0))) by omega) (Nat.le_refl _) (Nat.le_refl _) (wf.hx (T := cn T1 (tD (tZ (zn k z0)))) (G := G) (L := L)) wf.K (by simp [kM, kZ]) (fun k a b => by simp; omega) (by simp [jM, jZ]) (by simp)
      rcases hr with ⟨rfl, r1, r2⟩ | ⟨rfl, r1⟩
      · exact ⟨_, rfl, fun q => absurd q (by decide), fun _ => ih (k + 1) 1 w _ tr2 (by omega) w59 m3 (wf.hp hh2) (by omega) (by omega) w16 (by omega) (Or.inl ⟨rfl, r1, r2⟩)⟩
      · exact ⟨_, rfl, fun _ => ih (k + 1) 0 w _ tr2 (by omega) w59 m3 (wf.hp hh2) (by omega) (by omega) w16 (by omega) (Or.inr ⟨rfl, r1⟩), fun q => absurd rfl q⟩
theorem m_lot {s0 s : rSg} {T G L : Nat} (hT0 : T ≤ 900) {z : Int32} (hz : s 725 59 = z) (hm : mid s0 T G L s) (hh : hp s T G L) : EvS rSkel 8 201 [.inr (.inr (some 725))] s (fun v t => v = some (.inl (iteP (Sat (lE 4 z)) 1 0)) ∧ t 725 59 = zn 4 z ∧ mid s0 T G L t ∧ (Sat (lE 4 z) → ∃ T, mI t T (lE 4 z))) := by
  refine w_201 s ((ev_m_empties 0 s).imp ?_)
  rintro _ _ ⟨rfl, rfl⟩
  have k : mK [736] [16] s (mEmp s) := by
    unfold mEmp
    refine mK.upF ?_ (by simp)
    exact ⟨fun q g1 g2 => upC_ne _ _ (fun e => g2 (by simp [e])), fun j _ => by rw [upC_ne _ _ (by decide)]⟩
  have e16 : mEmp s 725 16 = nI 0 := by unfold mEmp; rw [up2_same]; rfl
  have em : ∀ j, j < 128 → mEmp s 736 j = -9 := fun j hj => by
    unfold mEmp
    rw [up2_nk _ _ _ (by decide), upC_same]
    unfold fillF
    rw [if_pos (by omega)]
  generalize mEmp s = t at k e16 em
  have e : hx T G L s t := k.hx (fun k a b => by simp; omega)
  have ht : hp t T G L := hh.keep e ⟨k.2 10 (by simp), k.2 11 (by simp), k.2 12 (by simp)⟩
  have mt := hm.K (Nat.le_refl _) (Nat.le_refl _) (Nat.le_refl _) e k (by simp [kM, kZ]) (fun k a b => by simp; omega) (by simp [jM, jZ]) (by simp)
  have b1 := hh.1
  have hst : mSt t T := by
    refine bRow_load (f := fun _ => -9) (bRow_open b1.1 (by omega) hh.2.2.1 (fun _ _ => rfl)) ht.2.2.1 e.1 (fun j hj => ?_)
    rw [em j hj]
    unfold ldF
    split <;> rfl
  have i0 : mI t T [] := by
    refine ⟨hst, fun th _ e he => (by cases he), fun ρ _ => ?_⟩
    obtain ⟨rk, hok⟩ := hst.2
    obtain ⟨th, a1, a2, _⟩ := vSol_ex hok (fun c => ρ (c / 2))
    refine ⟨th, a1, fun v hv => ?_⟩
    have ho : mV t (2 * v) = none := by
      rcases mV_var hst.1 (c := 2 * v) (by omega) with ⟨_, q⟩ | ⟨e, he, q, _⟩
      · exact q
      · rw [em _ (opn_lt (by omega))] at q
        exact absurd q.symm (nI_ne9 (by omega))
    rw [a2 _ ho, show 2 * v / 2 = v by omega]
  exact ⟨rfl, m_lot_loop hT0 (fun t T g1 g2 g3 => ⟨rfl, g1, g2, fun hs => ⟨T, g3 hs⟩⟩) 4 0 1 t T 0 rfl (by rw [k.2 59 (by simp)]; exact hz) mt ht (Nat.le_refl _) (by omega) e16 (by decide) (Or.inl ⟨rfl, ⟨fun _ => 0, fun e he => (by cases he)⟩, i0⟩)⟩
theorem m_lots_loop {s0 : rSg} {N : Nat} {w : Int32} (hN : N ≤ 20) {r : Int32} : ∀ (n i : Nat) (z a : Int32) (s : rSg), i + n = N → (if w = 0 then hA n z a else tA n z a) = r → s 725 59 = z → aft s0 s → g_200_50 (nI N) w a (nI i) s (fun v t => v = some (.inl r) ∧ aft s0 t) := by
  intro n
  induction n with
  | zero =>
    intro i z a s hi hr _ ha
    obtain rfl : i = N := by omega
    refine w_200_50 s (nI i) w a (nI i) ⟨fun _ => ?_, fun q => absurd (Int32.le_refl _) q⟩
    have : a = r := by rw [← hr]; split <;> rfl
    rw [this]
    exact ⟨rfl, ha⟩
  | succ n ih =>
    intro i z a s hi hr hz ha
    obtain ⟨T, G, L, hd, w0, a0, st, g, hb⟩ := ha.1.b
    have b3 := hb.2.2.1
    have b2 := hb.2.1.2
    refine w_200_50 s (nI N) w a (nI i) ⟨fun q => absurd ((nI_leI (by omega) (by omega)).mp q) (by omega), fun _ => (ms_183f hb.1.1).imp ?_⟩
    rintro _ t0 ⟨rfl, t1, t2, t3⟩
    refine ⟨rfl, (m_lot (z := z) (by omega) (by rw [t3]; exact hz) t2 t1).imp ?_⟩
    rintro _ t ⟨rfl, t59, tm, ti⟩
    rw [nI_1]
    have nxt : ∀ a2 : Int32, (if w = 0 then hA n (zn 4 z) a2 else tA n (zn 4 z) a2) = r → EvS rSkel 1 184 [.inr (.inr (some 725))] t (fun v u => v = none ∧ g_200_50 (nI N) w a2 (nI (i + 1)) u (fun v t => v = some (.inl r) ∧ aft s0 t)) := fun a2 h2 => by
      refine (ms_184 hb tm).imp ?_
      rintro _ u ⟨rfl, u1, u2, u3⟩
      exact ⟨rfl, ih (i + 1) (zn 4 z) a2 u (by omega) h2 (by rw [u3 59 (by simp)]; exact t59) (ha.trans u1)⟩
    by_cases hs : Sat (lE 4 z)
    · rw [iteP_pos hs]
      obtain ⟨T, hI⟩ := ti hs
      refine ⟨_, rfl, fun q => absurd q (by decide), fun _ => ⟨fun hw => w_205 t (m_closed_loop hI ⟨_, rfl, nxt _ ?_⟩ 6 0 0 rfl rfl), fun hw => nxt _ ?_⟩⟩
      · have hw := Classical.not_not.mp hw
        rw [← hr, if_pos hw, if_pos hw]
        show _ = hA n (zn 4 z) (iteP (Sat (lE 4 z)) (a + 1) a)
        rw [iteP_pos hs]
      · rw [← hr, if_neg hw, if_neg hw]
        show _ = tA n (zn 4 z) (iteP (Sat (lE 4 z)) (a + cN (lE 4 z) 6 0 0) a)
        rw [iteP_pos hs]
    · rw [iteP_neg hs]
      refine ⟨_, rfl, fun _ => nxt _ ?_, fun q => absurd rfl q⟩
      rw [← hr]
      by_cases hw : w = 0
      · rw [if_pos hw, if_pos hw]
        show _ = hA n (zn 4 z) (iteP (Sat (lE 4 z)) (a + 1) a)
        rw [iteP_neg hs]
      · rw [if_neg hw, if_neg hw]
        show _ = tA n (zn 4 z) (iteP (Sat (lE 4 z)) (a + cN (lE 4 z) 6 0 0) a)
        rw [iteP_neg hs]
/-- what lots answers -/
noncomputable def loV (a b c : Int32) : Int32 := if 1 ≤ a then (if a ≤ 20 then (if c = 0 then hA a.toNatClampNeg b 0 else if c = 1 then tA a.toNatClampNeg b 0 else -2) else -6) else -4
theorem mi_lots {s : rSg} (h : MI s) (a b c : Int32) : EvS rSkel 9 200 [.inr (.inr (some 725)), .inl a, .inl b, .inl c] s (fun v t => v = some (.inl (loV a b c)) ∧ aft s t) := by
  have no : ∀ y : Int32, rIn (-y) 7 = true → loV a b c = y → EvS rSkel 1 128 [.inr (.inr (some 725)), .inl y] s (fun v t => ∃ n, v = some (.inl n) ∧ some (.inl n : rv) = some (.inl (loV a b c)) ∧ aft s t) := fun y hy e => (ms_no h hy).imp (fun v t q => ⟨y, q.1, by rw [e], q.2⟩)
  refine w_200 s a b c (ms_127 s a 1 20 (fun h1 h2 => ⟨_, rfl, fun q => absurd rfl q, fun _ => ms_119 s c 0 1 (fun h3 => ⟨_, rfl, fun _ => ⟨fun _ => ?_, fun q => absurd rfl q⟩, fun q => absurd (by decide) q⟩) (fun h3 => ⟨_, rfl, fun q => absurd rfl q, fun _ => no _ (by decide) ?_⟩)⟩) (fun h1 h2 => ⟨_, rfl, fun _ => ⟨fun q => absurd q (by decide), fun _ => no _ (by decide) ?_⟩, fun q => absurd (by decide) q⟩) (fun h1 => ⟨_, rfl, fun _ => ⟨fun q => absurd q (by decide), fun _ => no _ (by decide) ?_⟩, fun q => absurd (by decide) q⟩))
  · obtain ⟨N, hN, rfl⟩ := nn_of (x := a) (Int32.not_lt.mpr (Int32.le_trans (show (0 : Int32) ≤ 1 by decide) h1))
    have N20 : N ≤ 20 := (nI_leI (b := 20) hN (by decide)).mp h2
    have hc : c = 0 ∨ c = 1 := by
      obtain ⟨m, hm, rfl⟩ := nn_of (x := c) (Int32.not_lt.mpr h3.1)
      have : m ≤ 1 := (nI_leI (b := 1) hm (by decide)).mp h3.2
      have : m = 0 ∨ m = 1 := by omega
      rcases this with rfl | rfl
      · exact Or.inl rfl
      · exact Or.inr rfl
    have ev : (if c = 0 then hA N b 0 else tA N b 0) = loV (nI N) b c := by
      unfold loV
      rw [if_pos h1, if_pos h2, nI_clamp (by omega)]
      rcases hc with rfl | rfl
      · rw [if_pos rfl, if_pos rfl]
      · rw [if_neg (by decide), if_neg (by decide), if_pos rfl]
    exact m_lots_loop N20 N 0 b 0 _ (by omega) ev (up2_same _ _ _ _) (h.aft (mK.rfl'.upF (by simp [jI])) (up2_nk _ _ _ (by decide)))
  · unfold loV
    rw [if_pos h1, if_pos h2, if_neg (by rintro rfl; exact h3 (by decide)), if_neg (by rintro rfl; exact h3 (by decide))]
  · unfold loV
    rw [if_pos h1, if_neg h2]
  · unfold loV
    rw [if_neg h1]
