/-! THE REFERENCE: 'M', any goal, exactly -/
section
variable {tb : Tb} {R : Nat → Nat → Prop} {s : rSg} {z T G L h : Nat} {Q : Qx}
variable {d0 g r k f : Nat} {gs : List Nat} {ks : List (Nat × Nat)} {td : List It} {kx : List Nat} {K : Kx} {nv : Nat} {it0 : It}
theorem fs_160 (hs : SSa tb R s z T G L h Q (d0, g :: gs, k, ks, f) (it0 :: td, kx, nv, K)) (hc : cXa tb R s T G L (r, gs, k, ks, f) (td, kx, nv, K)) (hT : T + 2 ≤ 1400) (hG : G + 1 ≤ 1000) (hL : L + 25 ≤ 18000) (hg : g < G) {x y : Nat} {fx fy' : Tf} (h30 : s 730 g = nI x) (h31 : s 731 g = nI y) (hx1 : x < T) (hy : y < T) (dx : tdm s T x fx) (dy : tdm s T y fy') : EvS rSkel 11 160 [.inr (.inr (some 725)), .inl (nI (42 * z + (h + 41) % 42)), .inl (nI g)] s (fun v t => v = none ∧ ∃ Q2, doM tb Q td kx nv K fx fy' Q2 ∧ goA tb R z h (d0, g :: gs, k, ks, f) (it0 :: td, kx, nv, K) s T G L (T + 2) (G + 1) (L + 25) Q2 t) := by
  have b1 := hs.1.1
  have hr : rIn (nI g) 3000 = true := rIn_nI (by omega) (by decide)
  have hf : f ≤ 60 := hs.2.2.2.1.1.2.2.2.2.1
  have hfv : f = nv := hc.2.1.2.2
  subst hfv
  refine w_160 s _ _ ⟨hr, hr, ?_⟩
  have e20 : s 725 20 = nI f := hc.1.2.2.2.1
  rw [nI_clamp (by omega), h30, h31, e20, nI_1, hc.1.2.1]
  have s0 := hs.up (j := 20) (x := nI (f + 1)) (by omega)
  have c0 := hc.fresh hs.1 (f2 := f + 1) (by omega)
  refine (fs_117S s0 c0 (by omega) (by omega) (by omega)).imp ?_
  rintro _ t ⟨rfl, s1, c1, e1, f1, p1, p2⟩
  have e01 : hx T G L s t := (hx_up (T := T) (G := G) (L := L)).trans e1 (Nat.le_refl _) (Nat.le_refl _) (Nat.le_refl _)
  have f01 : fy z s t := (fy_up (by omega)).trans f1
  have dp : tdm t (T + 1) T (prf fx (vr f)) := tdm_pair (by omega) (by omega) p1 p2 (by omega) (by omega) (e01.t (by omega) dx) (tdm_vr (by omega))
  -- the second state
  have second : ∀ {t3 : rSg} {Q1 : Qx} {L2 : Nat}, tri tb Q (td, kx, f + 1, uni K fy' (prf fx (vr f))) Q1 → SSa tb R t3 z (T + 1) G L2 h Q1 (d0, g :: gs, k, ks, f) (it0 :: td, kx, f, K) → L ≤ L2 → L2 ≤ L + 12 → hx T G L s t3 → fy z s t3 → EvS rSkel 2 140 [.inr (.inr (some 725)), .inl (nI (42 * z + (h + 41) % 42))] t3 (fun v9 t10 => v9 = none ∧ (rIn (nI g) 3000 = true ∧ EvS rSkel 1 120 [.inr (.inr (some 725)), .inl 77, .inl (t10 730 g), .inl ((t10 725 20) + 1), .inl 0] (up2 t10 725 20 ((t10 725 20) + 2)) (fun v12 t13 => ∃ n15, v12 = some (.inl n15) ∧ EvS rSkel 1 123 [.inr (.inr (some 725)), .inl n15, .inl 0, .inl (nI r)] t13 (fun v16 t17 => ∃ n19, v16 = some (.inl n19) ∧ (rIn (nI g) 3000 = true ∧ EvS rSkel 1 117 [.inr (.inr (some 725)), .inl (t10 725 20), .inl ((t10 725 20) + 1)] (up2 t17 725 18 n19) (fun v20 t21 => ∃ n23, v20 = some (.inl n23) ∧ EvS rSkel 7 144 [.inr (.inr (some 725)), .inl (t17 731 g), .inl n23] t21 (fun v24 t25 => ∃ n27, v24 = some (.inl n27) ∧ EvS rSkel 10 153 [.inr (.inr (some 725)), .inl n27] t25 (fun v28 t29 => v28 = none ∧ ((none : Option rv) = none ∧ ∃ Q2, doM tb Q td kx f K fx fy' Q2 ∧ goA tb R z h (d0, g :: gs, k, ks, f) (it0 :: td, kx, f, K) s T G L (T + 2) (G + 1) (L + 25) Q2 t29))))))))) := by
    intro t3 Q1 L2 htri g1 hl1 hl2 e03 f03
    refine (fs_140 g1).imp ?_
    rintro _ t4 ⟨rfl, s4, c4, e4, f4⟩
    have t20 : t4 725 20 = nI f := c4.1.2.2.2.1
    have e04 : hx T G L s t4 := e03.trans e4 (by omega) (Nat.le_refl _) hl1
    refine ⟨rfl, hr, ?_⟩
    rw [(e04.2.1 g hg).2.1, h30, t20, nI_1, show nI f + 2 = nI (f + 2) from nI_add f 2]
    have s5 := s4.up (j := 20) (x := nI (f + 2)) (by omega)
    have c5 := c4.fresh s4.1 (f2 := f + 2) (by omega)
    have e05 : hx T G L s (up2 t4 725 20 (nI (f + 2))) := e04.trans (hx_up (T := T) (G := G) (L := L)) (Nat.le_refl _) (Nat.le_refl _) (Nat.le_refl _)
    have f05 : fy z s (up2 t4 725 20 (nI (f + 2))) := (f03.trans f4).trans (fy_up (by omega))
    have d5 : dol (up2 t4 725 20 (nI (f + 2))) G L2 r gs := dol_ext (Nat.le_refl _) hl1 (fun j hj => ⟨(e05.2.2 j hj).1, (e05.2.2 j hj).2.2⟩) hc.1.2.2.2.2.2.1
    have his : mIts R (up2 t4 725 20 (nI (f + 2))) (T + 1) G gs td := mIts_ext e05 (by omega) (Nat.le_refl _) hc.2.1.1
    refine (fs_120S s5 c5 (by omega) (c := 77) (d := 0) (by unfold two2; decide) (show x < T + 1 by omega) (by omega) (by omega)).imp ?_
    rintro _ t6 ⟨rfl, s6, c6, e6, f6, r6, r7, r8, r9⟩
    refine ⟨_, rfl, (fs_123S s6 c6 (by omega) _ _ _).imp ?_⟩
    rintro _ t7 ⟨rfl, s7, c7, e7, f7, q1, q2, q3⟩
    have e57 : hx (T + 1) G L2 (up2 t4 725 20 (nI (f + 2))) t7 := e6.trans e7 (Nat.le_refl _) (by omega) (Nat.le_refl _)
    have e07 : hx T G L s t7 := e05.trans e57 (by omega) (Nat.le_refl _) hl1
    have eg := e7.2.1 G (by omega)
    have u9 : t7 729 G = 77 := by rw [eg.1, r6]
    have d7 : dol t7 (G + 1) (L2 + 1) L2 (G :: gs) := ⟨by omega, by omega, q1, by omega, r, q3, dol_lt (by omega) d5, dol_ext (by omega) (by omega) (fun j hj => ⟨(e57.2.2 j hj).1, (e57.2.2 j hj).2.2⟩) d5⟩
    have hG9 : G < 2 ^ 31 := by omega
    have hit : mIts R t7 (T + 1) (G + 1) (G :: gs) (.inr (false, fx, vr (f + 1), atm 10) :: td) := ⟨Or.inr (Or.inr ⟨by omega, u9, x, f + 1, fx, vr (f + 1), by rw [eg.2.1, r7], by rw [eg.2.2.1, r8], ⟨by omega, by omega⟩, e07.t (by omega) dx, tdm_vr (by omega), rfl⟩), mIts_ext e57 (Nat.le_refl _) (by omega) his⟩
    have c8 := c7.do s7.1 d7 (by
      rw [nhs_cons, nh_none (by rw [u9]; decide) (by rw [u9]; unfold two2; decide), nhs_ext s5.1.2.2.2 hG9 e57.2.1 (dol_mem d5), nhs_ext s5.1.2.2.2 hG9 e57.2.1 (dol_mem c5.1.2.2.2.2.2.1)]
      simp only [nhs_cons]
      omega) hit
    have s8 := s7.up (j := 18) (x := nI L2) (by omega)
    have e08 : hx T G L s (up2 t7 725 18 (nI L2)) := e07.trans (hx_up (T := T) (G := G) (L := L)) (Nat.le_refl _) (Nat.le_refl _) (Nat.le_refl _)
    have f08 : fy z s (up2 t7 725 18 (nI L2)) := ((f05.trans f6).trans f7).trans (fy_up (by omega))
    refine ⟨_, rfl, hr, (fs_117S s8 c8 (by omega) (by omega) (by omega)).imp ?_⟩
    rintro _ t9 ⟨rfl, s9, c9, e9, f9, p3, p4⟩
    have e09 : hx T G L s t9 := e08.trans e9 (by omega) (by omega) (by omega)
    have dp2 : tdm t9 (T + 1 + 1) (T + 1) (prf (vr f) (vr (f + 1))) := tdm_pair (by omega) (by omega) p3 p4 (by omega) (by omega) (tdm_vr (by omega)) (tdm_vr (by omega))
    rw [(e07.2.1 g hg).2.2.1, h31]
    exact ⟨_, rfl, fs_eq (P := fun v t => v = none ∧ ∃ Q2, doM tb Q td kx f K fx fy' Q2 ∧ goA tb R z h (d0, g :: gs, k, ks, f) (it0 :: td, kx, f, K) s T G L (T + 2) (G + 1) (L + 25) Q2 t) s9 c9 (by omega) (by omega) (by omega) (e09.t (by omega) dy) dp2 (fun u Q2 w1 w2 => ⟨rfl, Q2, ⟨Q1, htri, w1⟩, (w2.pre (by omega) (by omega) (by omega) e09 (f08.trans f9)).mono (by omega) (by omega) (by omega)⟩)⟩
  refine ⟨_, rfl, fs_eq (P := fun _ t3 => EvS rSkel 2 140 [.inr (.inr (some 725)), .inl (nI (42 * z + (h + 41) % 42))] t3 _) s1 c1 (by omega) (by omega) (by omega) (e01.t (by omega) dy) dp (fun t3 Q1 w1 w2 => ?_)⟩
  obtain ⟨T2, G2, L2, g1, g2, g3, g4, g5, g6⟩ := w2
  obtain rfl : T2 = T + 1 := by omega
  obtain rfl : G2 = G := by omega
  exact second w1 g1 g4.1 g4.2 (e01.trans g5 (by omega) (Nat.le_refl _) (Nat.le_refl _)) (f01.trans g6)
/-- any goal is done -/
theorem fs_143 (hs : SSa tb R s z T G L h Q (d0, g :: gs, k, ks, f) (it0 :: td, kx, nv, K)) (hc : cXa tb R s T G L (r, gs, k, ks, f) (td, kx, nv, K)) (hT : T + 2 ≤ 1400) (hG : G + 1 ≤ 1000) (hL : L + 25 ≤ 18000) : EvS rSkel 12 143 [.inr (.inr (some 725)), .inl (nI (42 * z + (h + 41) % 42)), .inl (nI g)] s (fun v t => v = none ∧ ∃ Q2, stp tb Q (it0 :: td, kx, nv, K) Q2 ∧ goA tb R z h (d0, g :: gs, k, ks, f) (it0 :: td, kx, nv, K) s T G L (T + 2) (G + 1) (L + 25) Q2 t) := by
  have b1 := hs.1.1
  have hg : g < G := dol_mem hs.2.2.2.1.1.2.2.2.2.2.1 g List.mem_cons_self
  have hr : rIn (nI g) 3000 = true := rIn_nI (by omega) (by decide)
  obtain ⟨x, y, c, h30, h31, h32, k1, k2⟩ := hs.1.2.2.2 g hg
  have hit : mIt R s T G g it0 := hs.2.2.2.1.2.1.1.1
  refine w_143 s _ _ ⟨hr, ?_⟩
  rw [nI_clamp (by omega), h30, h31, hc.1.2.1, hc.1.2.2.1]
  have inj : ∀ {a b : Nat}, a < G ∨ a < T → b < G ∨ b < T → nI a = nI b → a = b := fun h1 h2 e => (nI_eq (by omega) (by omega)).mp e
  have hxb : x < G ∨ x < T := by
    by_cases q : two2 (s 729 g)
    · have := k1 q; omega
    · have := k2 q; omega
  have hyb : y < G ∨ y < T := by
    by_cases q : two2 (s 729 g)
    · have := k1 q; omega
    · have := k2 q; omega
  rcases hit with ⟨q, hR, rfl⟩ | ⟨_, e9, x2, y2, z2, fx, fy2, fz2, p1, p2, p3, p4, p5, p6, p7, rfl⟩ | ⟨_, e9, x2, y2, fx, fy2, p1, p2, p4, p5, p6, rfl⟩
  · obtain ⟨_, hsg, htb⟩ := hs.2.2.2.2 g q hR
    have fin : ∀ {t : rSg} {Q2 : Qx} {Tm Gm Lm : Nat}, Tm ≤ T + 2 → Gm ≤ G + 1 → Lm ≤ L + 25 → doT tb Q q td kx nv K Q2 → goA tb R z h (d0, g :: gs, k, ks, f) (.inl q :: td, kx, nv, K) s T G L Tm Gm Lm Q2 t → ((none : Option rv) = none ∧ ∃ Q2, stp tb Q (.inl q :: td, kx, nv, K) Q2 ∧ goA tb R z h (d0, g :: gs, k, ks, f) (.inl q :: td, kx, nv, K) s T G L (T + 2) (G + 1) (L + 25) Q2 t) := fun h1 h2 h3 h4 h5 => ⟨rfl, _, h4, h5.mono h1 h2 h3⟩
    have hk9 : (tb q).1 < 1000 := by
      rcases htb with ⟨z, _⟩ | ⟨z, _⟩ | ⟨z, _⟩ | z <;> omega
    have kd : ∀ {a : Nat}, a < 1000 → s 729 g = nI a → (tb q).1 = a := fun h1 e => (nI_eq (by omega) (by omega)).mp (hsg.symm.trans e)
    refine ⟨fun e => ⟨hr, hr, ?_⟩, fun e => ⟨hr, hr, ?_⟩, fun e => ?_, fun e => ⟨hr, hr, ?_⟩, fun e => ?_, fun e => ?_, fun e => ?_, fun e => ?_⟩
    · have hk := kd (a := 35) (by decide) e
      rcases htb with ⟨_, x3, y3, t1, t2, t3, t4, t5⟩ | ⟨z, _⟩ | ⟨z, _⟩ | z
      · obtain rfl := inj hxb (Or.inr t3.1) (h30.symm.trans t1)
        obtain rfl := inj hyb (Or.inr t3.2) (h31.symm.trans t2)
        exact fs_hash (P := fun v t => v = none ∧ ∃ Q2, stp tb Q (.inl q :: td, kx, nv, K) Q2 ∧ goA tb R z h (d0, g :: gs, k, ks, f) (.inl q :: td, kx, nv, K) s T G L (T + 2) (G + 1) (L + 25) Q2 t) hs hc (by omega) e t3.1 t3.2 t4 t5 (fun t Q2 w1 w2 => fin (by omega) (by omega) (by omega) (Or.inr (Or.inl ⟨hk, w1⟩)) w2)
      · omega
      · omega
      · omega
    · have hk := kd (a := 38) (by decide) e
      rcases htb with ⟨z, _⟩ | ⟨z, _⟩ | ⟨_, x3, y3, t1, t2, t3, t4, t5⟩ | z
      · omega
      · omega
      · obtain rfl := inj hxb (Or.inl (by omega)) (h30.symm.trans t1)
        obtain rfl := inj hyb (Or.inl (by omega)) (h31.symm.trans t2)
        exact fs_both (P := fun v t => v = none ∧ ∃ Q2, stp tb Q (.inl q :: td, kx, nv, K) Q2 ∧ goA tb R z h (d0, g :: gs, k, ks, f) (.inl q :: td, kx, nv, K) s T G L (T + 2) (G + 1) (L + 25) Q2 t) hs hc (by omega) (Or.inl e) hg h30 h31 t3.1 t3.2 (Or.inl ⟨_, t4, rfl⟩) (Or.inl ⟨_, t5, rfl⟩) (fun t w2 => fin (by omega) (by omega) (by omega) (Or.inr (Or.inr (Or.inl ⟨hk, rfl⟩))) w2)
      · omega
    · have hk := kd (a := 42) (by decide) e
      refine (fs_124 hs hc).imp ?_
      rintro _ t ⟨rfl, g1, g2, g3⟩
      exact ⟨rfl, fin (Tm := T) (Gm := G) (Lm := L) (by omega) (by omega) (by omega) (Or.inr (Or.inr (Or.inr (Or.inr (Or.inl ⟨hk, rfl⟩))))) ⟨T, G, L, g1, ⟨Nat.le_refl _, Nat.le_refl _⟩, ⟨Nat.le_refl _, Nat.le_refl _⟩, ⟨Nat.le_refl _, Nat.le_refl _⟩, g2, g3⟩⟩
    · have hk := kd (a := 61) (by decide) e
      rcases htb with ⟨_, x3, y3, t1, t2, t3, t4, t5⟩ | ⟨z, _⟩ | ⟨z, _⟩ | z
      · obtain rfl := inj hxb (Or.inr t3.1) (h30.symm.trans t1)
        obtain rfl := inj hyb (Or.inr t3.2) (h31.symm.trans t2)
        exact fs_eq (P := fun v t => v = none ∧ ∃ Q2, stp tb Q (.inl q :: td, kx, nv, K) Q2 ∧ goA tb R z h (d0, g :: gs, k, ks, f) (.inl q :: td, kx, nv, K) s T G L (T + 2) (G + 1) (L + 25) Q2 t) hs hc (by omega) t3.1 t3.2 t4 t5 (fun t Q2 w1 w2 => fin (by omega) (by omega) (by omega) (Or.inl ⟨hk, w1⟩) w2)
      · omega
      · omega
      · omega
    · have hk := kd (a := 65) (by decide) e
      rcases htb with ⟨z, _⟩ | ⟨_, x3, y3, z3, t1, t2, t3, t4, t5, t6, t7⟩ | ⟨z, _⟩ | z
      · omega
      · refine (fs_159 hs hc hT hG hL hg t1 t2 t3 t4.1 t4.2.1 t4.2.2 t5 t6 t7).imp ?_
        rintro _ t ⟨rfl, Q2, w1, w2⟩
        exact ⟨rfl, fin (Nat.le_refl _) (Nat.le_refl _) (Nat.le_refl _) (Or.inr (Or.inr (Or.inr (Or.inr (Or.inr (Or.inr (Or.inl ⟨hk, w1⟩))))))) w2⟩
      · omega
      · omega
    · have hk := kd (a := 77) (by decide) e
      rcases htb with ⟨_, x3, y3, t1, t2, t3, t4, t5⟩ | ⟨z, _⟩ | ⟨z, _⟩ | z
      · refine (fs_160 hs hc hT hG hL hg t1 t2 t3.1 t3.2 t4 t5).imp ?_
        rintro _ t ⟨rfl, Q2, w1, w2⟩
        exact ⟨rfl, fin (Nat.le_refl _) (Nat.le_refl _) (Nat.le_refl _) (Or.inr (Or.inr (Or.inr (Or.inr (Or.inr (Or.inr (Or.inr ⟨hk, w1⟩))))))) w2⟩
      · omega
      · omega
      · omega
    · have hk := kd (a := 124) (by decide) e
      rcases htb with ⟨z, _⟩ | ⟨z, _⟩ | ⟨_, x3, y3, t1, t2, t3, t4, t5⟩ | z
      · omega
      · omega
      · refine (fs_158 (X0 := (.inl q :: td, kx, nv, K)) hs hc (by omega) (Or.inr e) hg t1 t2 t3.1 t3.2 (Or.inl ⟨_, t4, rfl⟩) (Or.inl ⟨_, t5, rfl⟩)).imp ?_
        rintro _ t ⟨rfl, w2⟩
        exact ⟨rfl, fin (by omega) (by omega) (by omega) (Or.inr (Or.inr (Or.inr (Or.inl ⟨hk, rfl⟩)))) w2⟩
      · omega
    · have hk : (tb q).1 = 33 := by
        obtain ⟨z1, z2, z3, z4, z5, z6, z7⟩ := e
        rw [hsg] at z1 z2 z3 z4 z5 z6 z7
        have y1 : (tb q).1 ≠ 35 := fun e => z1 (by rw [e]; rfl)
        have y2 : (tb q).1 ≠ 38 := fun e => z2 (by rw [e]; rfl)
        have y3 : (tb q).1 ≠ 42 := fun e => z3 (by rw [e]; rfl)
        have y4 : (tb q).1 ≠ 61 := fun e => z4 (by rw [e]; rfl)
        have y5 : (tb q).1 ≠ 65 := fun e => z5 (by rw [e]; rfl)
        have y6 : (tb q).1 ≠ 77 := fun e => z6 (by rw [e]; rfl)
        have y7 : (tb q).1 ≠ 124 := fun e => z7 (by rw [e]; rfl)
        rcases htb with ⟨w, _⟩ | ⟨w, _⟩ | ⟨w, _⟩ | w <;> omega
      exact fin (by omega) (by omega) (by omega) (Or.inr (Or.inr (Or.inr (Or.inr (Or.inr (Or.inl ⟨hk, rfl⟩)))))) (goA.rfl' hs)
  · refine ⟨fun e => absurd (e9.symm.trans e) (by decide), fun e => absurd (e9.symm.trans e) (by decide), fun e => absurd (e9.symm.trans e) (by decide), fun e => absurd (e9.symm.trans e) (by decide), fun e => ?_, fun e => absurd (e9.symm.trans e) (by decide), fun e => absurd (e9.symm.trans e) (by decide), fun e => absurd e9 e.2.2.2.2.1⟩
    refine (fs_159 hs hc hT hG hL hg p1 p2 p3 p4.1 p4.2.1 p4.2.2 p5 p6 p7).imp ?_
    rintro _ t ⟨rfl, Q2, w1, w2⟩
    exact ⟨rfl, rfl, Q2, w1, w2⟩
  · refine ⟨fun e => absurd (e9.symm.trans e) (by decide), fun e => absurd (e9.symm.trans e) (by decide), fun e => absurd (e9.symm.trans e) (by decide), fun e => absurd (e9.symm.trans e) (by decide), fun e => absurd (e9.symm.trans e) (by decide), fun e => ?_, fun e => absurd (e9.symm.trans e) (by decide), fun e => absurd e9 e.2.2.2.2.2.1⟩
    refine (fs_160 hs hc hT hG hL hg p1 p2 p4.1 p4.2 p5 p6).imp ?_
    rintro _ t ⟨rfl, Q2, w1, w2⟩
    exact ⟨rfl, rfl, Q2, w1, w2⟩
end
