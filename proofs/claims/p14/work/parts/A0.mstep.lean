/-! THE REFERENCE: 'M'; any goal; a step -/
section MEM
variable {s : rSg} {z T G L h w a d0 g r k f : Nat} {gs : List Nat} {ks : List (Nat × Nat)}
theorem ms_160 (hs : SS s z T G L h w a (d0, g :: gs, k, ks, f)) (hc : cX s T G L (r, gs, k, ks, f)) (hT : T + 2 ≤ 1400) (hG : G + 1 ≤ 1000) (hL : L + 25 ≤ 18000) (hg : g < G) {x y : Nat} (h30 : s 730 g = nI x) (h31 : s 731 g = nI y) (hx1 : x < T) (hy : y < T) : EvS rSkel 11 160 [.inr (.inr (some 725)), .inl (nI (42 * z + (h + 41) % 42)), .inl (nI g)] s (fun v t => v = none ∧ go2 z h a (d0, g :: gs, k, ks, f) s T G L (T + 2) (G + 1) (L + 25) t) := by
  have b1 := hs.1.1
  have hr : rIn (nI g) 3000 = true := rIn_nI (by omega) (by decide)
  have hf : f ≤ 60 := hs.2.2.2.2.2.2.2.1
  refine w_160 s _ _ ⟨hr, hr, ?_⟩
  have e20 : s 725 20 = nI f := hc.2.2.2.1
  rw [nI_clamp (by omega), h30, h31, e20, nI_1, hc.2.1]
  have s0 := hs.up (j := 20) (x := nI (f + 1)) (by omega)
  have c0 := hc.fresh hs.1 (f2 := f + 1) (by omega)
  refine (ms_117S s0 c0 (by omega) (by omega) (by omega)).imp ?_
  rintro _ t ⟨rfl, s1, c1, e1, f1⟩
  have e01 : hx T G L s t := (hx_up (T := T) (G := G) (L := L)).trans e1 (Nat.le_refl _) (Nat.le_refl _) (Nat.le_refl _)
  have f01 : fz z s t := (fz_up (by omega)).trans f1
  refine ⟨_, rfl, (ms_144 c1.1 (by omega) (by omega) (by omega)).imp ?_⟩
  rintro _ t2 ⟨n, rfl, _, c2, m2⟩
  refine ⟨n, rfl, (ms_153 (s1.mfb m2) (c1.mfb s1.1 m2 c2) (by omega) n).imp ?_⟩
  rintro _ t3 ⟨rfl, T2, G2, L2, w2, g1, g2, g3, g4, g5, g6⟩
  obtain rfl : T2 = T + 1 := by omega
  obtain rfl : G2 = G := by omega
  have e03 : hx T G2 L s t3 := (e01.trans (m2.hx (T := T) (G := G2) (L := L)) (Nat.le_refl _) (Nat.le_refl _) (Nat.le_refl _)).trans g5 (by omega) (Nat.le_refl _) (Nat.le_refl _)
  have f03 : fz z s t3 := (f01.trans (m2.fz (z := z))).trans g6
  refine ⟨rfl, (ms_140 g1).imp ?_⟩
  rintro _ t4 ⟨rfl, s4, c4, e4, f4⟩
  have t20 : t4 725 20 = nI f := c4.2.2.2.1
  have e04 : hx T G2 L s t4 := e03.trans e4 (by omega) (Nat.le_refl _) g4.1
  refine ⟨rfl, hr, ?_⟩
  rw [(e04.2.1 g hg).2.1, h30, t20, nI_1, show nI f + 2 = nI (f + 2) from nI_add f 2]
  have s5 := s4.up (j := 20) (x := nI (f + 2)) (by omega)
  have c5 := c4.fresh s4.1 (f2 := f + 2) (by omega)
  have e05 : hx T G2 L s (up2 t4 725 20 (nI (f + 2))) := e04.trans (hx_up (T := T) (G := G2) (L := L)) (Nat.le_refl _) (Nat.le_refl _) (Nat.le_refl _)
  have f05 : fz z s (up2 t4 725 20 (nI (f + 2))) := (f03.trans f4).trans (fz_up (by omega))
  have d5 : dol (up2 t4 725 20 (nI (f + 2))) G2 L2 r gs := dol_ext (Nat.le_refl _) g4.1 (fun j hj => ⟨(e05.2.2 j hj).1, (e05.2.2 j hj).2.2⟩) hc.2.2.2.2.2.1
  refine (ms_120S s5 c5 (by omega) (c := 77) (d := 0) (by unfold two2; decide) (by omega) (by omega) (by omega)).imp ?_
  rintro _ t6 ⟨rfl, s6, c6, e6, f6, r6⟩
  refine ⟨_, rfl, (ms_123S s6 c6 (by omega) _ _ _).imp ?_⟩
  rintro _ t7 ⟨rfl, s7, c7, e7, f7, q1, q2, q3⟩
  have e57 : hx (T + 1) G2 L2 (up2 t4 725 20 (nI (f + 2))) t7 := e6.trans e7 (Nat.le_refl _) (by omega) (Nat.le_refl _)
  have e07 : hx T G2 L s t7 := e05.trans e57 (by omega) (Nat.le_refl _) g4.1
  have u9 : t7 729 G2 = 77 := by rw [(e7.2.1 G2 (by omega)).1, r6]
  have d7 : dol t7 (G2 + 1) (L2 + 1) L2 (G2 :: gs) := ⟨by omega, by omega, q1, by omega, r, q3, dol_lt (by omega) d5, dol_ext (by omega) (by omega) (fun j hj => ⟨(e57.2.2 j hj).1, (e57.2.2 j hj).2.2⟩) d5⟩
  have hG9 : G2 < 2 ^ 31 := by omega
  have c8 := c7.do s7.1 d7 (by
    rw [nhs_cons, nh_none (by rw [u9]; decide) (by rw [u9]; unfold two2; decide), nhs_ext s5.1.2.2.2 hG9 e57.2.1 (dol_mem d5), nhs_ext s5.1.2.2.2 hG9 e57.2.1 (dol_mem c5.2.2.2.2.2.1)]
    simp only [nhs_cons]
    omega)
  have s8 := s7.up (j := 18) (x := nI L2) (by omega)
  have e08 : hx T G2 L s (up2 t7 725 18 (nI L2)) := e07.trans (hx_up (T := T) (G := G2) (L := L)) (Nat.le_refl _) (Nat.le_refl _) (Nat.le_refl _)
  have f08 : fz z s (up2 t7 725 18 (nI L2)) := ((f05.trans f6).trans f7).trans (fz_up (by omega))
  refine ⟨_, rfl, hr, (ms_117S s8 c8 (by omega) (by omega) (by omega)).imp ?_⟩
  rintro _ t9 ⟨rfl, s9, c9, e9, f9⟩
  rw [(e07.2.1 g hg).2.2.1, h31]
  refine ⟨_, rfl, (ms_144 c9.1 (by omega) (by omega) (by omega)).imp ?_⟩
  rintro _ ta ⟨n2, rfl, _, ca, ma⟩
  refine ⟨n2, rfl, (ms_153 (s9.mfb ma) (c9.mfb s9.1 ma ca) (by omega) n2).imp ?_⟩
  rintro _ tb ⟨rfl, gb⟩
  have e0a : hx T G2 L s ta := (e08.trans e9 (by omega) (by omega) (by omega)).trans (ma.hx (T := T) (G := G2) (L := L)) (Nat.le_refl _) (Nat.le_refl _) (Nat.le_refl _)
  exact ⟨rfl, rfl, (gb.pre (by omega) (by omega) (by omega) e0a ((f08.trans f9).trans (ma.fz (z := z)))).mono (by omega) (by omega) (by omega)⟩
/-- any goal is done -/
theorem ms_143 (hs : SS s z T G L h w a (d0, g :: gs, k, ks, f)) (hc : cX s T G L (r, gs, k, ks, f)) (hT : T + 2 ≤ 1400) (hG : G + 1 ≤ 1000) (hL : L + 25 ≤ 18000) : EvS rSkel 12 143 [.inr (.inr (some 725)), .inl (nI (42 * z + (h + 41) % 42)), .inl (nI g)] s (fun v t => v = none ∧ go2 z h a (d0, g :: gs, k, ks, f) s T G L (T + 2) (G + 1) (L + 25) t) := by
  have b1 := hs.1.1
  have hg : g < G := dol_mem hs.2.2.2.2.2.2.2.2.1 g List.mem_cons_self
  have hr : rIn (nI g) 3000 = true := rIn_nI (by omega) (by decide)
  obtain ⟨x, y, c, h30, h31, h32, k1, k2⟩ := hs.1.2.2.2 g hg
  refine w_143 s _ _ ⟨hr, ?_⟩
  rw [nI_clamp (by omega), h30, h31, hc.2.1, hc.2.2.1]
  refine ⟨fun e => ⟨hr, hr, ?_⟩, fun e => ⟨hr, hr, ?_⟩, fun e => ?_, fun e => ⟨hr, hr, ?_⟩, fun e => ?_, fun e => ?_, fun e => ?_, fun e => ?_⟩
  · have q := k2 (by rw [e]; unfold two2; decide)
    exact ms_hash (P := fun v t => v = none ∧ go2 z h a (d0, g :: gs, k, ks, f) s T G L (T + 2) (G + 1) (L + 25) t) hs hc (by omega) e q.1 q.2.1 (fun t ht => ⟨rfl, ht.mono (by omega) (by omega) (by omega)⟩)
  · have q := k1 (Or.inl e)
    exact ms_both (P := fun v t => v = none ∧ go2 z h a (d0, g :: gs, k, ks, f) s T G L (T + 2) (G + 1) (L + 25) t) hs hc (by omega) (Or.inl e) hg h30 h31 q.1 q.2 (fun t ht => ⟨rfl, ht.mono (by omega) (by omega) (by omega)⟩)
  · refine (ms_124 hs hc).imp ?_
    rintro _ t ⟨rfl, ht⟩
    exact ⟨rfl, rfl, ht.mono (by omega) (by omega) (by omega)⟩
  · have q := k2 (by rw [e]; unfold two2; decide)
    exact ms_eq (P := fun v t => v = none ∧ go2 z h a (d0, g :: gs, k, ks, f) s T G L (T + 2) (G + 1) (L + 25) t) hs hc (by omega) q.1 q.2.1 (fun t ht => ⟨rfl, ht.mono (by omega) (by omega) (by omega)⟩)
  · have q := k2 (by rw [e]; unfold two2; decide)
    refine (ms_159 hs hc hT hG hL hg h30 h31 h32 q.1 q.2.1 q.2.2).imp ?_
    rintro _ t ⟨rfl, ht⟩
    exact ⟨rfl, rfl, ht⟩
  · have q := k2 (by rw [e]; unfold two2; decide)
    refine (ms_160 hs hc hT hG hL hg h30 h31 q.1 q.2.1).imp ?_
    rintro _ t ⟨rfl, ht⟩
    exact ⟨rfl, rfl, ht⟩
  · have q := k1 (Or.inr e)
    refine (ms_158 hs hc (by omega) (Or.inr e) hg h30 h31 q.1 q.2).imp ?_
    rintro _ t ⟨rfl, ht⟩
    exact ⟨rfl, rfl, ht.mono (by omega) (by omega) (by omega)⟩
  · exact ⟨rfl, (go2.rfl' hs).mono (by omega) (by omega) (by omega)⟩
end MEM
