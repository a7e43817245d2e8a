/-! THE REFERENCE: 'A', 'M', and any goal -/
/-- what doesAppend does behind its first state -/
def apQ (x1 x2 X Z D : Int32) (i2 : Nat) (P : Option rv → rSg → Prop) (t7 : rSg) : Prop := EvS rSkel 2 140 [.inr (.inr (some 725)), .inl x1] t7 (fun v9 t10 => v9 = none ∧
            (rIn x2 3000 = true ∧
            EvS rSkel 1 120 [.inr (.inr (some 725)), .inl 65, .inl ((t10 725 20) + 1), .inl (t10 731 i2), .inl ((t10 725 20) + 2)] (up2 t10 725 20 ((t10 725 20) + 3)) (fun v12 t13 => ∃ n15, v12 = some (.inl n15) ∧
              EvS rSkel 1 123 [.inr (.inr (some 725)), .inl n15, .inl 0, .inl D] t13 (fun v16 t17 => ∃ n19, v16 = some (.inl n19) ∧
                EvS rSkel 1 117 [.inr (.inr (some 725)), .inl (t10 725 20), .inl ((t10 725 20) + 1)] (up2 t17 725 18 n19) (fun v20 t21 => ∃ n23, v20 = some (.inl n23) ∧
                  EvS rSkel 7 144 [.inr (.inr (some 725)), .inl X, .inl n23] t21 (fun v24 t25 => ∃ n27, v24 = some (.inl n27) ∧
                    (n27 = 0 → 
                      EvS rSkel 10 153 [.inr (.inr (some 725)), .inl 0] t25 (fun v29 t30 => v29 = none ∧
                        P none t30)) ∧
                    (¬ (n27 = 0) → 
                      EvS rSkel 1 117 [.inr (.inr (some 725)), .inl (t10 725 20), .inl ((t10 725 20) + 2)] t25 (fun v32 t33 => ∃ n35, v32 = some (.inl n35) ∧
                        EvS rSkel 7 144 [.inr (.inr (some 725)), .inl Z, .inl n35] t33 (fun v36 t37 => ∃ n39, v36 = some (.inl n39) ∧
                          (n39 = 0 → 
                            EvS rSkel 10 153 [.inr (.inr (some 725)), .inl 0] t37 (fun v41 t42 => v41 = none ∧
                              P none t42)) ∧
                          (¬ (n39 = 0) → 
                            EvS rSkel 10 153 [.inr (.inr (some 725)), .inl 1] t37 (fun v44 t45 => v44 = none ∧
                              P none t45)))))))))))
section APP
variable {s : rSg} {z T G L h w a d0 g r k f : Nat} {gs : List Nat} {ks : List (Nat × Nat)}
theorem ms_117S {p q : stP} (hs : SS s z T G L h w a p) (hc : cX s T G L q) (hT : T < 1400) {x y : Nat} (hx1 : x < T) (hy : y < T) : EvS rSkel 1 117 [.inr (.inr (some 725)), .inl (nI x), .inl (nI y)] s (fun v t => v = some (.inl (nI T)) ∧ SS t z (T + 1) G L h w a p ∧ cX t (T + 1) G L q ∧ hx T G L s t ∧ fz z s t) := by
  refine (ms_117 hs.1 hT hx1 hy).imp ?_
  rintro _ t ⟨rfl, w1, w2, w3⟩
  have hk : ∀ k, 739 ≤ k → k ≤ 749 → k ∉ [727, 728] := fun k a b => by simp; omega
  exact ⟨rfl, hs.K w1 w2 (by omega) (Nat.le_refl _) (Nat.le_refl _) w3 hk (by simp), hc.ext hs.1 w1 w2 (by omega) (Nat.le_refl _) (Nat.le_refl _) (w3.1 736 (by decide) (by simp)) ⟨w3.2 16 (by simp), w3.2 18 (by simp), w3.2 19 (by simp), w3.2 20 (by simp)⟩, w2, fz.of w3 (by simp [kZ]) (by simp [jZ]) hk⟩
theorem ms_120S {p q : stP} (hs : SS s z T G L h w a p) (hc : cX s T G L q) (hG : G < 1000) {c : Int32} {x y d : Nat} (h2 : ¬ two2 c) (hx1 : x < T) (hy : y < T) (hd : d < T) : EvS rSkel 1 120 [.inr (.inr (some 725)), .inl c, .inl (nI x), .inl (nI y), .inl (nI d)] s (fun v t => v = some (.inl (nI G)) ∧ SS t z T (G + 1) L h w a p ∧ cX t T (G + 1) L q ∧ hx T G L s t ∧ fz z s t ∧ t 729 G = c) := by
  refine (ms_120 hs.1 hG (fun q => absurd q h2) (fun _ => ⟨hx1, hy, hd⟩)).imp ?_
  rintro _ t ⟨rfl, w1, w2, w3, w4, _⟩
  have hk : ∀ k, 739 ≤ k → k ≤ 749 → k ∉ [729, 730, 731, 732] := fun k a b => by simp; omega
  exact ⟨rfl, hs.K w1 w2 (Nat.le_refl _) (by omega) (Nat.le_refl _) w3 hk (by simp), hc.ext hs.1 w1 w2 (Nat.le_refl _) (by omega) (Nat.le_refl _) (w3.1 736 (by decide) (by simp)) ⟨w3.2 16 (by simp), w3.2 18 (by simp), w3.2 19 (by simp), w3.2 20 (by simp)⟩, w2, fz.of w3 (by simp [kZ]) (by simp [jZ]) hk, w4⟩
/-- more variables -/
theorem cX.fresh {q : stP} (hc : cX s T G L q) (hh : hp s T G L) {f2 : Nat} (h2 : f2 ≤ 63) : cX (up2 s 725 20 (nI f2)) T G L (q.1, q.2.1, q.2.2.1, q.2.2.2.1, f2) :=
  ⟨hc.1.up (by omega), by rw [up2_nj _ _ _ (by decide)]; exact hc.2.1, by rw [up2_nj _ _ _ (by decide)]; exact hc.2.2.1, up2_same _ _ _ _, h2, pOK.up hc.2.2.2.2.2 hh⟩
/-- a goal of a relation is made, and is to be done first -/
theorem ms_rel {p q : stP} (hs : SS s z T G L h w a p) (hc : cX s T G L q) (hG : G < 1000) (hL : L < 18000) {c : Int32} (h2 : ¬ two2 c) (h3 : ¬ c = 35) {x y d : Nat} (hx1 : x < T) (hy : y < T) (hd : d < T) (hd2 : dol s G L r gs) (hn : nhs s gs ≤ nhs s q.2.1) {P : Option rv → rSg → Prop} (hP : ∀ t, SS t z T (G + 1) (L + 1) h w a p → cX t T (G + 1) (L + 1) (L, G :: gs, q.2.2) → hx T G L s t → fz z s t → P none t) : EvS rSkel 1 120 [.inr (.inr (some 725)), .inl c, .inl (nI x), .inl (nI y), .inl (nI d)] s (fun v t => ∃ n, v = some (.inl n) ∧ EvS rSkel 1 123 [.inr (.inr (some 725)), .inl n, .inl 0, .inl (nI r)] t (fun v t => ∃ n, v = some (.inl n) ∧ P none (up2 t 725 18 n))) := by
  have b1 := hs.1.1
  refine (ms_120S hs hc hG h2 hx1 hy hd).imp ?_
  rintro _ t ⟨rfl, s1, c1, e1, f1, r1⟩
  refine ⟨_, rfl, (ms_123S s1 c1 hL _ _ _).imp ?_⟩
  rintro _ u ⟨rfl, s2, c2, e2, f2, q1, q2, q3⟩
  have e12 : hx T G L s u := e1.trans e2 (Nat.le_refl _) (by omega) (Nat.le_refl _)
  have hdu : dol u (G + 1) (L + 1) r gs := dol_ext (by omega) (by omega) (fun j hj => ⟨(e12.2.2 j hj).1, (e12.2.2 j hj).2.2⟩) hd2
  have hd1 : dol u (G + 1) (L + 1) L (G :: gs) := ⟨by omega, by omega, q1, by omega, r, q3, dol_lt (by omega) hd2, hdu⟩
  have u9 : u 729 G = c := by rw [(e2.2.1 G (by omega)).1, r1]
  have hG9 : G < 2 ^ 31 := by omega
  refine ⟨_, rfl, hP _ (s2.up (by omega)) (c2.do s2.1 hd1 ?_) (e12.trans (hx_up (T := T) (G := G) (L := L)) (Nat.le_refl _) (Nat.le_refl _) (Nat.le_refl _)) ((f1.trans f2).trans (fz_up (by omega)))⟩
  rw [nhs_cons, nh_none (by rw [u9]; exact h3) (by rw [u9]; exact h2), nhs_ext hs.1.2.2.2 hG9 e12.2.1 (dol_mem hd2), nhs_ext hs.1.2.2.2 hG9 e12.2.1 (dol_mem hc.2.2.2.2.2.1)]
  omega
theorem ms_159b (hs : SS s z T G L h w a (d0, g :: gs, k, ks, f)) (hT : T + 2 ≤ 1400) (hG : G + 1 ≤ 1000) (hL : L + 13 ≤ 18000) (hg : g < G) (hd : dol s G L r gs) {x y c : Nat} (h31 : s 731 g = nI y) (hx1 : x < T) (hy : y < T) (hc3 : c < T) {P : Option rv → rSg → Prop} (hP : ∀ t, go2 z h a (d0, g :: gs, k, ks, f) s T G L (T + 2) (G + 1) (L + 13) t → P none t) : apQ (nI (42 * z + (h + 41) % 42)) (nI g) (nI x) (nI c) (nI r) g P s := by
  have b1 := hs.1.1
  have hr : rIn (nI g) 3000 = true := rIn_nI (by omega) (by decide)
  refine (ms_140 hs).imp ?_
  rintro _ t ⟨rfl, s1, c1, e1, f1⟩
  have hf : f ≤ 60 := s1.2.2.2.2.2.2.2.1
  have t20 : t 725 20 = nI f := c1.2.2.2.1
  refine ⟨rfl, hr, ?_⟩
  rw [(e1.2.1 g hg).2.2.1, h31, t20, nI_1, show nI f + 2 = nI (f + 2) from nI_add f 2, show nI f + 3 = nI (f + 3) from nI_add f 3]
  have s2 := s1.up (j := 20) (x := nI (f + 3)) (by omega)
  have c2 := c1.fresh s1.1 (f2 := f + 3) (by omega)
  have d2 : dol (up2 t 725 20 (nI (f + 3))) G L r gs := dol_ext (Nat.le_refl _) (Nat.le_refl _) (fun j hj => by
    rw [up2_nk _ _ _ (by decide), up2_nk _ _ _ (by decide)]
    exact ⟨(e1.2.2 j hj).1, (e1.2.2 j hj).2.2⟩) hd
  have e2 : hx T G L s (up2 t 725 20 (nI (f + 3))) := e1.trans (hx_up (T := T) (G := G) (L := L)) (Nat.le_refl _) (Nat.le_refl _) (Nat.le_refl _)
  have f2 : fz z s (up2 t 725 20 (nI (f + 3))) := f1.trans (fz_up (by omega))
  refine (ms_rel (P := fun _ v => EvS rSkel 1 117 [.inr (.inr (some 725)), .inl (nI f), .inl (nI (f + 1))] v _) s2 c2 (by omega) (by omega) (c := 65) (by unfold two2; decide) (by decide) (by omega) hy (by omega) d2 ?_ (fun v s3 c3 e3 f3 => ?_)).imp (fun _ _ q => q)
  · simp only [nhs_cons]; omega
  refine (ms_117S s3 c3 (by omega) (by omega) (by omega)).imp ?_
  rintro _ v1 ⟨rfl, s4, c4, e4, f4⟩
  have e14 : hx T G L s v1 := (e2.trans e3 (Nat.le_refl _) (Nat.le_refl _) (Nat.le_refl _)).trans e4 (Nat.le_refl _) (by omega) (by omega)
  have f14 := (f2.trans f3).trans f4
  refine ⟨_, rfl, (ms_144 c4.1 (by omega) (by omega) (by omega)).imp ?_⟩
  rintro _ v2 ⟨n, rfl, _, c5, m5⟩
  have s5 := s4.mfb m5
  have c6 := c4.mfb s4.1 m5 c5
  have e15 : hx T G L s v2 := e14.trans (m5.hx (T := T) (G := G) (L := L)) (Nat.le_refl _) (Nat.le_refl _) (Nat.le_refl _)
  have f15 := f14.trans (m5.fz (z := z))
  refine ⟨n, rfl, fun _ => (ms_153 s5 c6 (by omega) 0).imp ?_, fun _ => (ms_117S s5 c6 (by omega) (by omega) (by omega)).imp ?_⟩
  · rintro _ u ⟨rfl, g9⟩
    exact ⟨rfl, hP u ((g9.pre (by omega) (by omega) (by omega) e15 f15).mono (by omega) (by omega) (by omega))⟩
  · rintro _ v3 ⟨rfl, s7, c7, e7, f7⟩
    have e17 : hx T G L s v3 := e15.trans e7 (by omega) (by omega) (by omega)
    refine ⟨_, rfl, (ms_144 c7.1 (by omega) (by omega) (by omega)).imp ?_⟩
    rintro _ v4 ⟨n2, rfl, _, c8, m8⟩
    have s8 := s7.mfb m8
    have c9 := c7.mfb s7.1 m8 c8
    have e18 : hx T G L s v4 := e17.trans (m8.hx (T := T) (G := G) (L := L)) (Nat.le_refl _) (Nat.le_refl _) (Nat.le_refl _)
    have f18 := (f15.trans f7).trans (m8.fz (z := z))
    refine ⟨n2, rfl, fun _ => (ms_153 s8 c9 (by omega) 0).imp ?_, fun _ => (ms_153 s8 c9 (by omega) 1).imp ?_⟩
    all_goals
      rintro _ u ⟨rfl, g9⟩
      exact ⟨rfl, hP u ((g9.pre (by omega) (by omega) (by omega) e18 f18).mono (by omega) (by omega) (by omega))⟩
/-- behind the first of two states, the second -/
theorem go2.b {P : Option rv → rSg → Prop} {p : stP} {s0 t : rSg} {T0 G0 L0 Tm Gm Lm : Nat} (hg : go2 z h a p s T G L Tm Gm Lm t) (k : ∀ T2 G2 L2 w2, SS t z T2 G2 L2 h w2 a p → T ≤ T2 → T2 ≤ Tm → G ≤ G2 → G2 ≤ Gm → L ≤ L2 → L2 ≤ Lm → hx T G L s t → fz z s t → P none t) : P none t := by
  obtain ⟨T2, G2, L2, w2, g1, g2, g3, g4, g5, g6⟩ := hg
  exact k T2 G2 L2 w2 g1 g2.1 g2.2 g3.1 g3.2 g4.1 g4.2 g5 g6
theorem ms_159 (hs : SS s z T G L h w a (d0, g :: gs, k, ks, f)) (hc : cX s T G L (r, gs, k, ks, f)) (hT : T + 2 ≤ 1400) (hG : G + 1 ≤ 1000) (hL : L + 25 ≤ 18000) (hg : g < G) {x y c : Nat} (h30 : s 730 g = nI x) (h31 : s 731 g = nI y) (h32 : s 732 g = nI c) (hx1 : x < T) (hy : y < T) (hc3 : c < T) : EvS rSkel 11 159 [.inr (.inr (some 725)), .inl (nI (42 * z + (h + 41) % 42)), .inl (nI g)] s (fun v t => v = none ∧ go2 z h a (d0, g :: gs, k, ks, f) s T G L (T + 2) (G + 1) (L + 25) t) := by
  have b1 := hs.1.1
  have hr : rIn (nI g) 3000 = true := rIn_nI (by omega) (by decide)
  have second : ∀ t, go2 z h a (d0, g :: gs, k, ks, f) s T G L T G (L + 12) t → apQ (nI (42 * z + (h + 41) % 42)) (nI g) (nI x) (nI c) (nI r) g (fun v t => v = none ∧ go2 z h a (d0, g :: gs, k, ks, f) s T G L (T + 2) (G + 1) (L + 25) t) t := by
    rintro t ⟨T2, G2, L2, w2, g1, g2, g3, g4, g5, g6⟩
    obtain rfl : T2 = T := by omega
    obtain rfl : G2 = G := by omega
    exact ms_159b g1 (by omega) (by omega) (by omega) hg (dol_ext (Nat.le_refl _) g4.1 (fun j hj => ⟨(g5.2.2 j hj).1, (g5.2.2 j hj).2.2⟩) hc.2.2.2.2.2.1) (by rw [(g5.2.1 g hg).2.2.1, h31]) hx1 hy hc3 (fun u hu => ⟨rfl, (hu.pre (Nat.le_refl _) (Nat.le_refl _) g4.1 g5 g6).mono (Nat.le_refl _) (Nat.le_refl _) (by omega)⟩)
  refine w_159 s _ _ ⟨hr, hr, ?_⟩
  rw [nI_clamp (by omega), h30, h32, hc.2.1, show (74 : Int32) = nI 74 from rfl]
  refine (ms_144 hc.1 (by omega) hx1 (by omega)).imp ?_
  rintro _ t ⟨n, rfl, _, c1, m1⟩
  have s1 := hs.mfb m1
  have k1 := hc.mfb hs.1 m1 c1
  refine ⟨n, rfl, fun _ => (ms_153 s1 k1 (by omega) 0).imp ?_, fun _ => ⟨hr, ?_⟩⟩
  · rintro _ u ⟨rfl, g9⟩
    exact ⟨rfl, second u (g9.pre (Nat.le_refl _) (Nat.le_refl _) (Nat.le_refl _) m1.hx m1.fz)⟩
  · rw [((m1.hx (T := T) (G := G) (L := L)).2.1 g hg).2.2.1, h31]
    refine (ms_144 k1.1 (by omega) hy hc3).imp ?_
    rintro _ t2 ⟨n2, rfl, _, c2, m2⟩
    have s2 := s1.mfb m2
    have k2 := k1.mfb s1.1 m2 c2
    have m12 := m1.trans m2
    refine ⟨n2, rfl, fun _ => (ms_153 s2 k2 (by omega) 0).imp ?_, fun _ => (ms_153 s2 k2 (by omega) 1).imp ?_⟩
    all_goals
      rintro _ u ⟨rfl, g9⟩
      exact ⟨rfl, second u (g9.pre (Nat.le_refl _) (Nat.le_refl _) (Nat.le_refl _) m12.hx m12.fz)⟩
end APP
