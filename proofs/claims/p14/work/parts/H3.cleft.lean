/-! THE CLASS: a search in mind, with one goal ahead, or with the goals turned -/
/-- the table with '=' and '&' ahead -/
def tbL (tb : Tb) (n v a : Nat) : Tb := fun q => if q = n then (61, vr v, atm a, atm a, 0, 0) else if q = n + 1 then (38, vr 0, vr 0, vr 0, n, 0) else tb q
def tbS (tb : Tb) : Tb := fun q => if q = 0 then ((tb 0).1, (tb 0).2.1, (tb 0).2.2.1, (tb 0).2.2.2.1, tbB tb 0, tbA tb 0) else tb q
def cfL (C : Cf) (v a : Nat) : Cf := (C.tp, C.ng + 2, C.mu, C.hA, (fun c => if c = 5000 + 3 * C.ng then v else if c = 5000 + 3 * C.ng + 1 then 128 + a else C.p c), tbL C.tb C.ng v a, (fun q => if q = C.ng then 1 else if q = C.ng + 1 then C.wt 0 + 2 else C.wt q), (fun q => if q = C.ng then 0 else if q = C.ng + 1 then C.wm 0 else C.wm q), (fun q => if q = C.ng then (fun _ => 0) else if q = C.ng + 1 then C.oc 0 else C.oc q))
def cfS (C : Cf) : Cf := (C.tp, C.ng, C.mu, C.hA, C.p, tbS C.tb, C.wt, C.wm, C.oc)
theorem tbL_old {tb : Tb} {n v a q : Nat} (h : q < n) : tbL tb n v a q = tb q := by
  unfold tbL
  rw [if_neg (by omega), if_neg (by omega)]
theorem tbL_1 {tb : Tb} {n v a : Nat} : tbL tb n v a n = (61, vr v, atm a, atm a, 0, 0) := if_pos rfl
theorem tbL_2 {tb : Tb} {n v a : Nat} : tbL tb n v a (n + 1) = (38, vr 0, vr 0, vr 0, n, 0) := by
  unfold tbL
  rw [if_neg (by omega), if_pos rfl]
theorem cfL_p {C : Cf} {v a c : Nat} (h : c ≠ 5000 + 3 * C.ng ∧ c ≠ 5000 + 3 * C.ng + 1) : (cfL C v a).p c = C.p c := by
  show (if c = 5000 + 3 * C.ng then v else if c = 5000 + 3 * C.ng + 1 then 128 + a else C.p c) = _
  rw [if_neg h.1, if_neg h.2]
theorem cfL_to {C : Cf} {t : rSg} {s v a : Nat} (htp : C.tp ≤ 640) (h : cTo t s C.tp C.p) : cTo t s C.tp (cfL C v a).p := by
  have e : ∀ c, c < 5000 → (cfL C v a).p c = C.p c := fun c hc => cfL_p ⟨by omega, by omega⟩
  refine ⟨fun c hc => ?_, fun c h1 h2 => ?_⟩
  · rw [e c (by unfold cTd at hc; omega)]
    exact h.1 c hc
  · obtain ⟨x, y, e1, e2, g1, g2, g3, g4, g5⟩ := h.2 c h1 h2
    refine ⟨x, y, e1, e2, g1, g2, ?_, ?_, ?_⟩
    · rw [e x (by unfold cTd at g1; omega), e y (by unfold cTd at g2; omega), e c (by omega)]
      exact g3
    · rw [e _ (by omega)]
      exact g4
    · rw [e _ (by omega)]
      exact g5
/-- for '&' and '|' the parts of told goals are told -/
def tbK (C : Cf) : Prop := ∀ g, g < C.ng → (C.tb g).1 = 38 ∨ (C.tb g).1 = 124 → tbA C.tb g < C.ng ∧ tbB C.tb g < C.ng
theorem cTab_K {C : Cf} {t : rSg} {s : Nat} (h : cTab C t s) : tbK C := by
  intro g hg hk
  obtain ⟨k, _, e2, h3⟩ := h g hg
  rcases h3 with ⟨q, _⟩ | ⟨q, _⟩ | ⟨_, _, _, q1, q2⟩ | q
  · omega
  · omega
  · exact ⟨q1, q2⟩
  · omega
theorem cfL_ok {C : Cf} (hC : cfT C 0) (h24 : C.wt 0 ≤ 24) (hn : C.ng ≤ 24) (hK : tbK C) (v a : Nat) : cfT (cfL C v a) (C.ng + 1) := by
  obtain ⟨⟨k1, k2, k3, k4⟩, k5, k6, k7, k8⟩ := hC
  have w0 : ∀ q, q < C.ng → (cfL C v a).wt q = C.wt q := fun q hq => by
    show (if q = C.ng then 1 else if q = C.ng + 1 then C.wt 0 + 2 else C.wt q) = _
    rw [if_neg (by omega), if_neg (by omega)]
  have w1 : (cfL C v a).wt C.ng = 1 := if_pos rfl
  have w2 : (cfL C v a).wt (C.ng + 1) = C.wt 0 + 2 := by
    show (if C.ng + 1 = C.ng then 1 else if C.ng + 1 = C.ng + 1 then C.wt 0 + 2 else C.wt (C.ng + 1)) = _
    rw [if_neg (by omega), if_pos rfl]
  have m0 : ∀ q, q < C.ng → (cfL C v a).wm q = C.wm q := fun q hq => by
    show (if q = C.ng then 0 else if q = C.ng + 1 then C.wm 0 else C.wm q) = _
    rw [if_neg (by omega), if_neg (by omega)]
  have m1 : (cfL C v a).wm C.ng = 0 := if_pos rfl
  have m2 : (cfL C v a).wm (C.ng + 1) = C.wm 0 := by
    show (if C.ng + 1 = C.ng then 0 else if C.ng + 1 = C.ng + 1 then C.wm 0 else C.wm (C.ng + 1)) = _
    rw [if_neg (by omega), if_pos rfl]
  have o0 : ∀ q, q < C.ng → (cfL C v a).oc q = C.oc q := fun q hq => by
    show (if q = C.ng then (fun _ => 0) else if q = C.ng + 1 then C.oc 0 else C.oc q) = _
    rw [if_neg (by omega), if_neg (by omega)]
  have o1 : (cfL C v a).oc C.ng = fun _ => 0 := if_pos rfl
  have o2 : (cfL C v a).oc (C.ng + 1) = C.oc 0 := by
    show (if C.ng + 1 = C.ng then (fun _ => 0) else if C.ng + 1 = C.ng + 1 then C.oc 0 else C.oc (C.ng + 1)) = _
    rw [if_neg (by omega), if_pos rfl]
  have t0 : ∀ q, q < C.ng → (cfL C v a).tb q = C.tb q := fun q hq => tbL_old hq
  have t1 : (cfL C v a).tb C.ng = (61, vr v, atm a, atm a, 0, 0) := tbL_1
  have t2 : (cfL C v a).tb (C.ng + 1) = (38, vr 0, vr 0, vr 0, C.ng, 0) := tbL_2
  have e0 : (cfL C v a).ng = C.ng + 2 := rfl
  refine ⟨⟨by rw [e0]; omega, fun hA => ⟨(k2 hA).1, fun hh => (k2 hA).2 ?_⟩, k3, fun g hg => ?_⟩, by rw [e0]; omega, by rw [w2]; omega, by rw [m2]; exact k7, fun q => by rw [o2]; exact k8 q⟩
  · obtain ⟨g, g1, g2⟩ := hh
    rw [e0] at g1
    by_cases h1 : g < C.ng
    · exact ⟨g, h1, by rw [t0 g h1] at g2; exact g2⟩
    · by_cases h2 : g = C.ng
      · subst h2; rw [t1] at g2; exact absurd (show 61 = 35 from g2) (by decide)
      · obtain rfl : g = C.ng + 1 := by omega
        rw [t2] at g2; exact absurd (show 38 = 35 from g2) (by decide)
  · rw [e0] at hg
    by_cases h1 : g < C.ng
    · obtain ⟨x1, x2, x3, x4⟩ := k4 g h1
      unfold tbA tbB
      rw [t0 g h1, w0 g h1, m0 g h1, o0 g h1]
      refine ⟨x1, fun hk => ?_, x3, x4⟩
      have hb := hK g h1 hk
      have y := x2 hk
      unfold tbA tbB at hb y
      rw [w0 _ hb.1, w0 _ hb.2, m0 _ hb.1, m0 _ hb.2, o0 _ hb.1, o0 _ hb.2]
      exact y
    · by_cases h2 : g = C.ng
      · subst h2
        rw [t1, w1]
        exact ⟨Nat.le_refl _, fun hk => absurd (show 61 = 38 ∨ 61 = 124 from hk) (by decide), fun hk => absurd (show 61 = 77 from hk) (by decide), fun hk => absurd (show 61 = 35 ∨ 61 = 77 from hk) (by decide)⟩
      · obtain rfl : g = C.ng + 1 := by omega
        unfold tbA tbB
        rw [t2, w2, m2, o2]
        refine ⟨by omega, fun _ => ?_, fun hk => absurd (show 38 = 77 from hk) (by decide), fun hk => absurd (show 38 = 35 ∨ 38 = 77 from hk) (by decide)⟩
        show (cfL C v a).wt C.ng + (cfL C v a).wt 0 + 1 ≤ C.wt 0 + 2 ∧ (cfL C v a).wm C.ng + (cfL C v a).wm 0 ≤ C.wm 0 ∧ ∀ q, (cfL C v a).oc C.ng q + (cfL C v a).oc 0 q ≤ C.oc 0 q
        rw [w1, w0 0 k5, m1, m0 0 k5, o1, o0 0 k5]
        exact ⟨by omega, by omega, fun q => by simp⟩
theorem cfS_ok {C : Cf} (hC : cfT C 0) : cfT (cfS C) 0 := by
  obtain ⟨⟨k1, k2, k3, k4⟩, k5, k6, k7, k8⟩ := hC
  have kd : ∀ g, ((cfS C).tb g).1 = (C.tb g).1 := fun g => by
    show (tbS C.tb g).1 = _
    unfold tbS
    split
    · next q => rw [q]
    · rfl
  refine ⟨⟨k1, fun hA => ⟨(k2 hA).1, fun hh => (k2 hA).2 ?_⟩, k3, fun g hg => ?_⟩, k5, k6, k7, k8⟩
  · obtain ⟨g, g1, g2⟩ := hh
    exact ⟨g, g1, by rw [← kd g]; exact g2⟩
  · obtain ⟨x1, x2, x3, x4⟩ := k4 g hg
    rw [kd g]
    refine ⟨x1, fun hk => ?_, x3, x4⟩
    have y := x2 hk
    by_cases h0 : g = 0
    · subst h0
      show C.wt (tbB C.tb 0) + C.wt (tbA C.tb 0) + 1 ≤ C.wt 0 ∧ C.wm (tbB C.tb 0) + C.wm (tbA C.tb 0) ≤ C.wm 0 ∧ ∀ q, C.oc (tbB C.tb 0) q + C.oc (tbA C.tb 0) q ≤ C.oc 0 q
      exact ⟨by omega, by omega, fun q => by have := y.2.2 q; omega⟩
    · have e : (cfS C).tb g = C.tb g := if_neg h0
      unfold tbA tbB at y ⊢
      rw [e]
      exact y
/-- what the whole class knows of a search that it holds -/
def hQ (s : rSg) (b : Nat) (tb : Tb) (nG nT : Nat) (Q : Qx) : Prop := ∃ C : Cf, C.tb = tb ∧ C.ng = nG ∧ cfT C 0 ∧ C.wt 0 ≤ 24 ∧ nG ≤ 24 ∧ nT ≤ 40 ∧ cSe C s b Q ∧ scT C s (b + 1) 0 nT
theorem cfL_tab {C : Cf} {t u : rSg} {s v a : Nat} (hv : v < 6) (ha : a < 10) (hpos : 0 < C.ng) (htp : C.tp ≤ 640) (hto : cTo t s C.tp C.p) (h : cTab C t s) (hss : scSame C.tp C.ng s s t u) (e1 : u (s + 1) C.ng = 61) (e2 : u (s + 2) (3 * C.ng) = nI v) (e3 : u (s + 2) (3 * C.ng + 1) = nI (128 + a)) (e4 : u (s + 1) (C.ng + 1) = 38) (e5 : u (s + 2) (3 * (C.ng + 1)) = nI C.ng) (e6 : u (s + 2) (3 * (C.ng + 1) + 1) = nI 0) : cTab (cfL C v a) u s := by
  have h2 := cTab_same hto htp hss h
  intro g hg
  have hg : g < C.ng + 2 := hg
  by_cases h1 : g < C.ng
  · obtain ⟨k, y1, y2, y3⟩ := h2 g h1
    have et : (cfL C v a).tb g = C.tb g := tbL_old h1
    refine ⟨k, y1, by rw [et]; exact y2, ?_⟩
    unfold tb1 tb2 tb3 tbA tbB at y3 ⊢
    rw [et]
    have ep : ∀ k, k < 3 → (cfL C v a).p (5000 + 3 * g + k) = C.p (5000 + 3 * g + k) := fun k hk => cfL_p ⟨by omega, by omega⟩
    have er : ∀ {x}, cTd C.tp x → rtc C x → rtc (cfL C v a) x := fun {x} hx hr => by
      unfold rtc
      rw [cfL_p (by unfold cTd at hx; constructor <;> omega)]
      exact hr
    rcases y3 with ⟨q, x, y, g1, g2, g3, g4, g5, r1, r2, p1, p2⟩ | ⟨q, x, y, z, g1, g2, g3, g4, g5, g6, g7, r1, r2, r3, p1, p2, p3⟩ | ⟨q1, q2, q3, q4, q5⟩ | q
    · exact Or.inl ⟨q, x, y, g1, g2, g3, g4, g5, r1.imp id (er g3.1), er g3.2 r2, (ep 0 (by decide)).trans p1, (ep 1 (by decide)).trans p2⟩
    · exact Or.inr (Or.inl ⟨q, x, y, z, g1, g2, g3, g4, g5, g6, g7, er g4.1 r1, er g4.2.1 r2, er g4.2.2 r3, (ep 0 (by decide)).trans p1, (ep 1 (by decide)).trans p2, (ep 2 (by decide)).trans p3⟩)
    · exact Or.inr (Or.inr (Or.inl ⟨q1, q2, q3, by show _ < C.ng + 2; omega, by show _ < C.ng + 2; omega⟩))
    · exact Or.inr (Or.inr (Or.inr q))
  · by_cases h3 : g = C.ng
    · subst h3
      have et : (cfL C v a).tb C.ng = (61, vr v, atm a, atm a, 0, 0) := tbL_1
      refine ⟨61, e1, by rw [et], Or.inl ⟨Or.inl rfl, v, 128 + a, e2, e3, ⟨Or.inl hv, Or.inr (Or.inl ⟨by omega, by omega⟩)⟩, ?_, ?_, Or.inr (Or.inl (by omega)), Or.inl (by omega), if_pos rfl, ?_⟩⟩
      · unfold tb1; rw [et]; exact tdn_vr hv
      · unfold tb2; rw [et]; exact tdn_atm (by omega)
      · show (if 5000 + 3 * C.ng + 1 = 5000 + 3 * C.ng then v else if 5000 + 3 * C.ng + 1 = 5000 + 3 * C.ng + 1 then 128 + a else _) = _
        rw [if_neg (by omega), if_pos rfl]
    · obtain rfl : g = C.ng + 1 := by omega
      have et : (cfL C v a).tb (C.ng + 1) = (38, vr 0, vr 0, vr 0, C.ng, 0) := tbL_2
      refine ⟨38, e4, by rw [et], Or.inr (Or.inr (Or.inl ⟨Or.inl rfl, ?_, ?_, ?_, ?_⟩))⟩
      · unfold tbA; rw [et]; exact e5
      · unfold tbB; rw [et]; exact e6
      · unfold tbA; rw [et]; show C.ng < C.ng + 2; omega
      · unfold tbB; rw [et]; show 0 < C.ng + 2; omega
theorem ce_97 {s : rSg} {tb : Tb} {nG nT : Nat} {Q : Qx} (h : hQ s 6 tb nG nT Q) {v a : Nat} (hv : v < 6) (ha : a < 10) : EvS rSkel 4 97 [.inr (.inr (some 0)), .inl (nI v), .inl (nI a)] s (fun r t => r = none ∧ (∃ C : Cf, C.tb = tbL tb nG v a ∧ cfOK C ∧ cSe C t 230 (bgn (nG + 1))) ∧ ∀ q, q < 230 ∨ 453 < q → t q = s q) := by
  obtain ⟨C, rfl, rfl, h1, h2, h3, h4, h5, h6⟩ := h
  have hpos := h1.2.1
  have hng := h1.1.1
  have htp : C.tp ≤ 20 := by have := h1.1.2.2.1; omega
  refine w_97 s _ _ ((ce_26 h1.1 scr231 scr7 (by omega) h6).imp ?_)
  rintro _ t ⟨rfl, ⟨⟨t5, t6, t7, t8, hto, htab, _⟩, t3, t4⟩, hf⟩
  refine ⟨rfl, (ce_21 scr231 t t3 (by omega) 61).imp ?_⟩
  rintro _ u ⟨rfl, eu⟩
  refine ⟨_, rfl, (ce_22 scr231 u (g := C.ng) (j := 0) (by omega) (by decide) (nI v)).imp ?_⟩
  rintro _ u2 ⟨rfl, eu2⟩
  refine ⟨rfl, ?_⟩
  rw [show (128 : Int32) + nI a = nI (128 + a) by rw [show (128 : Int32) = nI 128 from rfl, nI_add]]
  refine (ce_22 scr231 u2 (g := C.ng) (j := 1) (by omega) (by decide) (nI (128 + a))).imp ?_
  rintro _ u3 ⟨rfl, eu3⟩
  have u3f : ∀ q, q ≠ 231 → q ≠ 232 → q ≠ 233 → u3 q = t q := fun q g1 g2 g3 => by rw [eu3, up2_nk _ _ _ (by omega), eu2, up2_nk _ _ _ (by omega), eu, up2_nk _ _ _ g1, up2_nk _ _ _ (by omega)]
  have u31 : ∀ j, j ≠ 3 → u3 231 j = t 231 j := fun j hj => by rw [eu3, up2_nk _ _ _ (by decide), eu2, up2_nk _ _ _ (by decide), eu, up2_nj _ _ _ hj, up2_nk _ _ _ (by decide)]
  have u33 : u3 231 3 = nI (C.ng + 1) := by rw [eu3, up2_nk _ _ _ (by decide), eu2, up2_nk _ _ _ (by decide), eu, up2_same]
  have u32 : ∀ j, u3 232 j = if j = C.ng then 61 else t 232 j := fun j => by rw [eu3, up2_nk _ _ _ (by decide), eu2, up2_nk _ _ _ (by decide), eu, up2_nk _ _ _ (by decide)]; simp [up2, upd]
  have u3p : ∀ j, u3 233 j = if j = 3 * C.ng + 1 then nI (128 + a) else if j = 3 * C.ng then nI v else t 233 j := fun j => by
    rw [eu3, eu2, eu]; simp [up2, upd]
  refine ⟨rfl, (ce_21 scr231 u3 u33 (by omega) 38).imp ?_⟩
  rintro _ w ⟨rfl, ew⟩
  refine ⟨_, rfl, (ce_22 scr231 w (g := C.ng + 1) (j := 0) (by omega) (by decide) (nI C.ng)).imp ?_⟩
  rintro _ w2 ⟨rfl, ew2⟩
  have w25 : w2 231 5 = nI 0 := by rw [ew2, up2_nk _ _ _ (by decide), ew, up2_nj _ _ _ (by decide), up2_nk _ _ _ (by decide), u31 5 (by decide)]; exact t5
  refine ⟨rfl, ?_⟩
  rw [w25]
  refine (ce_22 scr231 w2 (g := C.ng + 1) (j := 1) (by omega) (by decide) (nI 0)).imp ?_
  rintro _ w3 ⟨rfl, ew3⟩
  have w3f : ∀ q, q ≠ 231 → q ≠ 232 → q ≠ 233 → w3 q = t q := fun q g1 g2 g3 => by rw [ew3, up2_nk _ _ _ (by omega), ew2, up2_nk _ _ _ (by omega), ew, up2_nk _ _ _ g1, up2_nk _ _ _ (by omega), u3f q g1 g2 g3]
  have w31 : ∀ j, j ≠ 3 → w3 231 j = t 231 j := fun j hj => by rw [ew3, up2_nk _ _ _ (by decide), ew2, up2_nk _ _ _ (by decide), ew, up2_nj _ _ _ hj, up2_nk _ _ _ (by decide), u31 j hj]
  have w33 : w3 231 3 = nI (C.ng + 2) := by rw [ew3, up2_nk _ _ _ (by decide), ew2, up2_nk _ _ _ (by decide), ew, up2_same]
  have w32 : ∀ j, w3 232 j = if j = C.ng + 1 then 38 else if j = C.ng then 61 else t 232 j := fun j => by
    rw [ew3, up2_nk _ _ _ (by decide), ew2, up2_nk _ _ _ (by decide), ew, up2_nk _ _ _ (by decide), ← u32 j]; simp [up2, upd]
  have w3p : ∀ j, w3 233 j = if j = 3 * (C.ng + 1) + 1 then nI 0 else if j = 3 * (C.ng + 1) then nI C.ng else if j = 3 * C.ng + 1 then nI (128 + a) else if j = 3 * C.ng then nI v else t 233 j := fun j => by
    rw [← u3p j, ew3, ew2, ew]; simp [up2, upd]
  refine ⟨rfl, w_25 w3 231 scr231 _ _ ⟨rfl, ?_⟩⟩
  rw [w33, w31 4 (by decide), t4, w31 8 (by decide), t8]
  generalize ex : up2 (up2 (up2 (up2 w3 231 5 (nI (C.ng + 1))) 231 6 (nI (C.ng + 2))) 231 7 (nI C.tp)) 231 8 (nI nT) = x
  have x0 : ∀ q, q ≠ 231 → x q = w3 q := fun q hq => by rw [← ex, up2_nk _ _ _ hq, up2_nk _ _ _ hq, up2_nk _ _ _ hq, up2_nk _ _ _ hq]
  have x3 : x 231 3 = nI (C.ng + 2) := by rw [← ex, up2_nj _ _ _ (by decide), up2_nj _ _ _ (by decide), up2_nj _ _ _ (by decide), up2_nj _ _ _ (by decide)]; exact w33
  have x4 : x 231 4 = nI C.tp := by rw [← ex, up2_nj _ _ _ (by decide), up2_nj _ _ _ (by decide), up2_nj _ _ _ (by decide), up2_nj _ _ _ (by decide), w31 4 (by decide)]; exact t4
  have x5 : x 231 5 = nI (C.ng + 1) := by rw [← ex, up2_nj _ _ _ (by decide), up2_nj _ _ _ (by decide), up2_nj _ _ _ (by decide), up2_same]
  have x6 : x 231 6 = nI (C.ng + 2) := by rw [← ex, up2_nj _ _ _ (by decide), up2_nj _ _ _ (by decide), up2_same]
  have x7 : x 231 7 = nI C.tp := by rw [← ex, up2_nj _ _ _ (by decide), up2_same]
  have x8 : x 231 8 = nI nT := by rw [← ex, up2_same]
  have hss : scSame C.tp C.ng 231 231 t x := ⟨fun j hj => by rw [x0 _ (by decide), w3f 234 (by decide) (by decide) (by decide)], fun j hj => by rw [x0 _ (by decide), w32 j, if_neg (by omega), if_neg (by omega)], fun j hj => by rw [x0 _ (by decide), w3p j, if_neg (by omega), if_neg (by omega), if_neg (by omega), if_neg (by omega)]⟩
  have hto2 := cTo_same (t := x) (s2 := 231) hto hss.1
  have hk := cTab_K htab
  have htab2 : cTab (cfL C v a) x 231 := cfL_tab hv ha hpos (by omega) hto htab hss (by rw [x0 _ (by decide), w32, if_neg (by omega), if_pos rfl]) (by rw [x0 _ (by decide), w3p, if_neg (by omega), if_neg (by omega), if_neg (by omega), if_pos rfl]) (by rw [x0 _ (by decide), w3p, if_neg (by omega), if_neg (by omega), if_pos rfl]) (by rw [x0 _ (by decide), w32, if_pos rfl]) (by rw [x0 _ (by decide), w3p, if_neg (by omega), if_pos rfl]) (by rw [x0 _ (by decide), w3p, if_pos rfl])
  have hL := cfL_ok h1 h2 h3 hk v a
  refine (ce_33 (C := cfL C v a) (top := C.ng + 1) (nT := nT) hL seaA230 ⟨⟨x5, x6, x7, x8, cfL_to (by omega) hto2, htab2, fun q => absurd q (Nat.succ_ne_zero _)⟩, x3, x4⟩).imp ?_
  rintro _ y ⟨rfl, y1, y2, y3⟩
  refine ⟨rfl, rfl, ⟨cfL C v a, rfl, hL.1, y1⟩, fun q hq => ?_⟩
  rw [y3 q (by omega), x0 q (by omega), w3f q (by omega) (by omega) (by omega), hf q (by omega) (by omega) (by omega) (by omega)]
