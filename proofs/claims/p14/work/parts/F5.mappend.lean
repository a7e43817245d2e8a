/-! THE REFERENCE: 'A', 'M', exactly -/
section
variable {tb : Tb} {R : Nat → Nat → Prop} {s : rSg} {z T G L h : Nat} {Q : Qx} {p : stP} {X0 : Sx}
theorem fs_117S {q : stP} {X : Sx} (hs : SSa tb R s z T G L h Q p X0) (hc : cXa tb R s T G L q X) (hT : T < 1400) {x y : Nat} (hx1 : x < T) (hy : y < T) : EvS rSkel 1 117 [.inr (.inr (some 725)), .inl (nI x), .inl (nI y)] s (fun v t => v = some (.inl (nI T)) ∧ SSa tb R t z (T + 1) G L h Q p X0 ∧ cXa tb R t (T + 1) G L q X ∧ hx T G L s t ∧ fy z s t ∧ t 727 T = nI x ∧ t 728 T = nI y) := by
  have hh := hs.1
  refine (ev_m_pair 0 s (nI x) (nI y) hh.2.1.1 (by omega)).imp ?_
  rintro _ _ ⟨rfl, rfl⟩
  have b1 := hh.1
  have k : mK [727, 728] [10] s (up2 (up2 (up2 s 727 T (nI x)) 728 T (nI y)) 725 10 (nI (T + 1))) := ((mK.rfl'.up (by simp) (by decide)).up (by simp) (by decide)).upF (by simp)
  have e7 : ∀ j, up2 (up2 (up2 s 727 T (nI x)) 728 T (nI y)) 725 10 (nI (T + 1)) 727 j = if j = T then nI x else s 727 j := fun j => by simp [up2, upd]
  have e8 : ∀ j, up2 (up2 (up2 s 727 T (nI x)) 728 T (nI y)) 725 10 (nI (T + 1)) 728 j = if j = T then nI y else s 728 j := fun j => by simp [up2, upd]
  have e10 : up2 (up2 (up2 s 727 T (nI x)) 728 T (nI y)) 725 10 (nI (T + 1)) 725 10 = nI (T + 1) := up2_same _ _ _ _
  generalize up2 (up2 (up2 s 727 T (nI x)) 728 T (nI y)) 725 10 (nI (T + 1)) = t at k e7 e8 e10
  have e : hx T G L s t := by
    refine ⟨fun j hj => ⟨by rw [e7, if_neg (by omega)], by rw [e8, if_neg (by omega)]⟩, fun j _ => ⟨?_, ?_, ?_, ?_⟩, fun j _ => ⟨?_, ?_, ?_⟩⟩
    all_goals rw [k.1 _ (by decide) (by simp)]
  have ht : hp t (T + 1) G L := by
    refine ⟨by omega, ⟨e10, by rw [k.2 11 (by simp)]; exact hh.2.1.2.1, by rw [k.2 12 (by simp)]; exact hh.2.1.2.2⟩, fun q h1 h2 => ?_, hh.2.2.2.ext e.2.1 (by omega)⟩
    by_cases hq : q = T
    · subst hq
      exact ⟨x, y, by rw [e7, if_pos rfl], by rw [e8, if_pos rfl], hx1, hy⟩
    · obtain ⟨a2, b2, r1, r2, r3⟩ := hh.2.2.1 q h1 (by omega)
      exact ⟨a2, b2, by rw [e7, if_neg hq]; exact r1, by rw [e8, if_neg hq]; exact r2, r3⟩
  have hk : ∀ k, 739 ≤ k → k ≤ 751 → k ∉ [727, 728] := fun k a b => by simp; omega
  exact ⟨rfl, hs.K ht e (by omega) (Nat.le_refl _) (Nat.le_refl _) k hk (by simp), hc.ext hs.1 ht e (by omega) (Nat.le_refl _) (Nat.le_refl _) (k.1 736 (by decide) (by simp)) ⟨k.2 16 (by simp), k.2 18 (by simp), k.2 19 (by simp), k.2 20 (by simp)⟩, e, fy.of k (by simp [kZ]) (by simp [jZ]) hk, by rw [e7, if_pos rfl], by rw [e8, if_pos rfl]⟩
theorem fs_120S {q : stP} {X : Sx} (hs : SSa tb R s z T G L h Q p X0) (hc : cXa tb R s T G L q X) (hG : G < 1000) {c : Int32} {x y d : Nat} (h2 : ¬ two2 c) (hx1 : x < T) (hy : y < T) (hd : d < T) : EvS rSkel 1 120 [.inr (.inr (some 725)), .inl c, .inl (nI x), .inl (nI y), .inl (nI d)] s (fun v t => v = some (.inl (nI G)) ∧ SSa tb R t z T (G + 1) L h Q p X0 ∧ cXa tb R t T (G + 1) L q X ∧ hx T G L s t ∧ fy z s t ∧ t 729 G = c ∧ t 730 G = nI x ∧ t 731 G = nI y ∧ t 732 G = nI d) := by
  refine (ms_120 hs.1 hG (fun q => absurd q h2) (fun _ => ⟨hx1, hy, hd⟩)).imp ?_
  rintro _ t ⟨rfl, w1, w2, w3, w4⟩
  have hk : ∀ k, 739 ≤ k → k ≤ 751 → k ∉ [729, 730, 731, 732] := fun k a b => by simp; omega
  exact ⟨rfl, hs.K w1 w2 (Nat.le_refl _) (by omega) (Nat.le_refl _) w3 hk (by simp), hc.ext hs.1 w1 w2 (Nat.le_refl _) (by omega) (Nat.le_refl _) (w3.1 736 (by decide) (by simp)) ⟨w3.2 16 (by simp), w3.2 18 (by simp), w3.2 19 (by simp), w3.2 20 (by simp)⟩, w2, fy.of w3 (by simp [kZ]) (by simp [jZ]) hk, w4⟩
theorem cXa.fresh {q : stP} {X : Sx} (hc : cXa tb R s T G L q X) (hh : hp s T G L) {f2 : Nat} (h2 : f2 ≤ 63) : cXa tb R (up2 s 725 20 (nI f2)) T G L (q.1, q.2.1, q.2.2.1, q.2.2.2.1, f2) (X.1, X.2.1, f2, X.2.2.2) :=
  ⟨hc.1.fresh hh h2, mL_up (X := (X.1, X.2.1, f2, X.2.2.2)) ⟨hc.2.1.1, hc.2.1.2.1, rfl⟩, mKv_up hc.2.2⟩
theorem fs_153z {P : Option rv → rSg → Prop} (hP : P none s) : EvS rSkel 10 153 [.inr (.inr (some 725)), .inl 0] s (fun v t => v = none ∧ P none t) := w_153 s 0 ⟨fun _ => ⟨rfl, hP⟩, fun q => absurd rfl q⟩
/-- a goal of a relation is made, and is to be done first -/
theorem fs_rel {q : stP} {X : Sx} {r : Nat} {gs : List Nat} {td : List It} {it : It} (hs : SSa tb R s z T G L h Q p X0) (hc : cXa tb R s T G L q X) (hG : G < 1000) (hL : L < 18000) {c : Int32} (h2 : ¬ two2 c) (h3 : ¬ c = 35) {x y d : Nat} (hx1 : x < T) (hy : y < T) (hd : d < T) (hd2 : dol s G L r gs) (hn : nhs s gs ≤ nhs s q.2.1) (his : mIts R s T G gs td) (hit : ∀ t : rSg, hx T G L s t → t 729 G = c → t 730 G = nI x → t 731 G = nI y → t 732 G = nI d → mIt R t T (G + 1) G it) {P : Option rv → rSg → Prop} (hP : ∀ t, SSa tb R t z T (G + 1) (L + 1) h Q p X0 → cXa tb R t T (G + 1) (L + 1) (L, G :: gs, q.2.2) (it :: td, X.2) → hx T G L s t → fy z s t → P none t) : EvS rSkel 1 120 [.inr (.inr (some 725)), .inl c, .inl (nI x), .inl (nI y), .inl (nI d)] s (fun v t => ∃ n, v = some (.inl n) ∧ EvS rSkel 1 123 [.inr (.inr (some 725)), .inl n, .inl 0, .inl (nI r)] t (fun v t => ∃ n, v = some (.inl n) ∧ P none (up2 t 725 18 n))) := by
  have b1 := hs.1.1
  refine (fs_120S hs hc hG h2 hx1 hy hd).imp ?_
  rintro _ t ⟨rfl, s1, c1, e1, f1, r1, r2, r3, r4⟩
  refine ⟨_, rfl, (fs_123S s1 c1 hL _ _ _).imp ?_⟩
  rintro _ u ⟨rfl, s2, c2, e2, f2, q1, q2, q3⟩
  have e12 : hx T G L s u := e1.trans e2 (Nat.le_refl _) (by omega) (Nat.le_refl _)
  have hdu : dol u (G + 1) (L + 1) r gs := dol_ext (by omega) (by omega) (fun j hj => ⟨(e12.2.2 j hj).1, (e12.2.2 j hj).2.2⟩) hd2
  have hd1 : dol u (G + 1) (L + 1) L (G :: gs) := ⟨by omega, by omega, q1, by omega, r, q3, dol_lt (by omega) hd2, hdu⟩
  have eg := e2.2.1 G (by omega)
  have u9 : u 729 G = c := by rw [eg.1, r1]
  have hG9 : G < 2 ^ 31 := by omega
  refine ⟨_, rfl, hP _ (s2.up (by omega)) (c2.do s2.1 hd1 ?_ ⟨hit u e12 u9 (by rw [eg.2.1, r2]) (by rw [eg.2.2.1, r3]) (by rw [eg.2.2.2, r4]), mIts_ext e12 (Nat.le_refl _) (by omega) his⟩) (e12.trans (hx_up (T := T) (G := G) (L := L)) (Nat.le_refl _) (Nat.le_refl _) (Nat.le_refl _)) ((f1.trans f2).trans (fy_up (by omega)))⟩
  rw [nhs_cons, nh_none (by rw [u9]; exact h3) (by rw [u9]; exact h2), nhs_ext hs.1.2.2.2 hG9 e12.2.1 (dol_mem hd2), nhs_ext hs.1.2.2.2 hG9 e12.2.1 (dol_mem hc.1.2.2.2.2.2.1)]
  omega
variable {d0 g r k f : Nat} {gs : List Nat} {ks : List (Nat × Nat)} {td : List It} {kx : List Nat} {K : Kx} {nv : Nat} {it0 : It}
theorem fs_159b (hs : SSa tb R s z T G L h Q (d0, g :: gs, k, ks, f) (it0 :: td, kx, nv, K)) (hT : T + 2 ≤ 1400) (hG : G + 1 ≤ 1000) (hL : L + 13 ≤ 18000) (hg : g < G) (hd : dol s G L r gs) {x y c : Nat} {fx fy' fc : Tf} (h31 : s 731 g = nI y) (hx1 : x < T) (hy : y < T) (hc3 : c < T) (dx : tdm s T x fx) (dy : tdm s T y fy') (dc : tdm s T c fc) {P : Option rv → rSg → Prop} (hP : ∀ t Q2, tri tb Q (.inr (true, vr (nv + 1), fy', vr (nv + 2)) :: td, kx, nv + 3, uni (uni K fx (prf (vr nv) (vr (nv + 1)))) fc (prf (vr nv) (vr (nv + 2)))) Q2 → goA tb R z h (d0, g :: gs, k, ks, f) (it0 :: td, kx, nv, K) s T G L (T + 2) (G + 1) (L + 13) Q2 t → P none t) : apQ (nI (42 * z + (h + 41) % 42)) (nI g) (nI x) (nI c) (nI r) g P s := by
  have b1 := hs.1.1
  have hr : rIn (nI g) 3000 = true := rIn_nI (by omega) (by decide)
  refine (fs_140 hs).imp ?_
  rintro _ t ⟨rfl, s1, c1, e1, f1⟩
  have hf : f ≤ 60 := s1.2.2.2.1.1.2.2.2.2.1
  have hfv : f = nv := c1.2.1.2.2
  subst hfv
  have t20 : t 725 20 = nI f := c1.1.2.2.2.1
  refine ⟨rfl, hr, ?_⟩
  rw [(e1.2.1 g hg).2.2.1, h31, t20, nI_1, show nI f + 2 = nI (f + 2) from nI_add f 2, show nI f + 3 = nI (f + 3) from nI_add f 3]
  have s2 := s1.up (j := 20) (x := nI (f + 3)) (by omega)
  have c2 := c1.fresh s1.1 (f2 := f + 3) (by omega)
  have e2 : hx T G L s (up2 t 725 20 (nI (f + 3))) := e1.trans (hx_up (T := T) (G := G) (L := L)) (Nat.le_refl _) (Nat.le_refl _) (Nat.le_refl _)
  have d2 : dol (up2 t 725 20 (nI (f + 3))) G L r gs := dol_ext (Nat.le_refl _) (Nat.le_refl _) (fun j hj => ⟨(e2.2.2 j hj).1, (e2.2.2 j hj).2.2⟩) hd
  have f2 : fy z s (up2 t 725 20 (nI (f + 3))) := f1.trans (fy_up (by omega))
  have his : mIts R (up2 t 725 20 (nI (f + 3))) T G gs td := (mIts_ext (hx_up (T := T) (G := G) (L := L)) (Nat.le_refl _) (Nat.le_refl _) c1.2.1.1).2
  refine (fs_rel (P := fun _ v => EvS rSkel 1 117 [.inr (.inr (some 725)), .inl (nI f), .inl (nI (f + 1))] v _) (it := .inr (true, vr (f + 1), fy', vr (f + 2))) s2 c2 (by omega) (by omega) (c := 65) (by unfold two2; decide) (by decide) (by omega) hy (by omega) d2 ?_ his (fun u eu u1 u2 u3 u4 => Or.inr (Or.inl ⟨by omega, u1, f + 1, y, f + 2, vr (f + 1), fy', vr (f + 2), u2, u3, u4, ⟨by omega, hy, by omega⟩, tdm_vr (by omega), eu.t (Nat.le_refl _) (e2.t (Nat.le_refl _) dy), tdm_vr (by omega), rfl⟩)) (fun v s3 c3 e3 f3 => ?_)).imp (fun _ _ q => q)
  · simp only [nhs_cons]; omega
  refine (fs_117S s3 c3 (by omega) (by omega) (by omega)).imp ?_
  rintro _ v1 ⟨rfl, s4, c4, e4, f4, p1, p2⟩
  have e14 : hx T G L s v1 := (e2.trans e3 (Nat.le_refl _) (Nat.le_refl _) (Nat.le_refl _)).trans e4 (Nat.le_refl _) (by omega) (by omega)
  have f14 := (f2.trans f3).trans f4
  have dp : tdm v1 (T + 1) T (prf (vr f) (vr (f + 1))) := tdm_pair (by omega) (by omega) p1 p2 (by omega) (by omega) (tdm_vr (by omega)) (tdm_vr (by omega))
  refine ⟨_, rfl, (fs_144 c4.1.1 (by omega) (by omega) (by omega) c4.2.2 (e14.t (by omega) dx) dp).imp ?_⟩
  rintro _ v2 ⟨n, rfl, c5, m5, hout⟩
  have s5 := s4.mfb m5
  have e15 : hx T G L s v2 := e14.trans (m5.hx (T := T) (G := G) (L := L)) (Nat.le_refl _) (Nat.le_refl _) (Nat.le_refl _)
  have f15 := f14.trans (m5.fy (z := z))
  rcases hout with ⟨rfl, o1, o2⟩ | ⟨rfl, o1⟩
  · have c6 := c4.mfb s4.1 m5 c5 o2
    refine ⟨1, rfl, fun q => absurd q (by decide), fun _ => (fs_117S s5 c6 (by omega) (by omega) (by omega)).imp ?_⟩
    rintro _ v3 ⟨rfl, s7, c7, e7, f7, p3, p4⟩
    have e17 : hx T G L s v3 := e15.trans e7 (by omega) (by omega) (by omega)
    have dp2 : tdm v3 (T + 1 + 1) (T + 1) (prf (vr f) (vr (f + 2))) := tdm_pair (by omega) (by omega) p3 p4 (by omega) (by omega) (tdm_vr (by omega)) (tdm_vr (by omega))
    refine ⟨_, rfl, (fs_144 c7.1.1 (by omega) (by omega) (by omega) c7.2.2 (e17.t (by omega) dc) dp2).imp ?_⟩
    rintro _ v4 ⟨n2, rfl, c8, m8, hout2⟩
    have s8 := s7.mfb m8
    have e18 : hx T G L s v4 := e17.trans (m8.hx (T := T) (G := G) (L := L)) (Nat.le_refl _) (Nat.le_refl _) (Nat.le_refl _)
    have f18 := (f15.trans f7).trans (m8.fy (z := z))
    rcases hout2 with ⟨rfl, o3, o4⟩ | ⟨rfl, o3⟩
    · have c9 := c7.mfb s7.1 m8 c8 o4
      refine ⟨1, rfl, fun q => absurd q (by decide), fun _ => (fs_153 s8 c9 (by omega) (by decide)).imp ?_⟩
      rintro _ u ⟨rfl, Q2, w1, w2⟩
      exact ⟨rfl, hP u Q2 w1 ((w2.pre (by omega) (by omega) (by omega) e18 f18).mono (by omega) (by omega) (by omega))⟩
    · exact ⟨0, rfl, fun _ => fs_153z (hP v4 Q (tri_no o3) (((goA.rfl' s8).pre (by omega) (by omega) (by omega) e18 f18).mono (by omega) (by omega) (by omega))), fun q => absurd rfl q⟩
  · exact ⟨0, rfl, fun _ => fs_153z (hP v2 Q (tri_no (sax_uni o1)) (((goA.rfl' s5).pre (by omega) (by omega) (by omega) e15 f15).mono (by omega) (by omega) (by omega))), fun q => absurd rfl q⟩
theorem fs_159 (hs : SSa tb R s z T G L h Q (d0, g :: gs, k, ks, f) (it0 :: td, kx, nv, K)) (hc : cXa tb R s T G L (r, gs, k, ks, f) (td, kx, nv, K)) (hT : T + 2 ≤ 1400) (hG : G + 1 ≤ 1000) (hL : L + 25 ≤ 18000) (hg : g < G) {x y c : Nat} {fx fy' fc : Tf} (h30 : s 730 g = nI x) (h31 : s 731 g = nI y) (h32 : s 732 g = nI c) (hx1 : x < T) (hy : y < T) (hc3 : c < T) (dx : tdm s T x fx) (dy : tdm s T y fy') (dc : tdm s T c fc) : EvS rSkel 11 159 [.inr (.inr (some 725)), .inl (nI (42 * z + (h + 41) % 42)), .inl (nI g)] s (fun v t => v = none ∧ ∃ Q2, doA tb Q td kx nv K fx fy' fc Q2 ∧ goA tb R z h (d0, g :: gs, k, ks, f) (it0 :: td, kx, nv, K) s T G L (T + 2) (G + 1) (L + 25) Q2 t) := by
  have b1 := hs.1.1
  have hr : rIn (nI g) 3000 = true := rIn_nI (by omega) (by decide)
  have second : ∀ t Q1, tri tb Q (td, kx, nv, uni (uni K fx (atm 10)) fy' fc) Q1 → goA tb R z h (d0, g :: gs, k, ks, f) (it0 :: td, kx, nv, K) s T G L T G (L + 12) Q1 t → apQ (nI (42 * z + (h + 41) % 42)) (nI g) (nI x) (nI c) (nI r) g (fun v t => v = none ∧ ∃ Q2, doA tb Q td kx nv K fx fy' fc Q2 ∧ goA tb R z h (d0, g :: gs, k, ks, f) (it0 :: td, kx, nv, K) s T G L (T + 2) (G + 1) (L + 25) Q2 t) t := by
    rintro t Q1 ht ⟨T2, G2, L2, g1, g2, g3, g4, g5, g6⟩
    obtain rfl : T2 = T := by omega
    obtain rfl : G2 = G := by omega
    exact fs_159b g1 (by omega) (by omega) (by omega) hg (dol_ext (Nat.le_refl _) g4.1 (fun j hj => ⟨(g5.2.2 j hj).1, (g5.2.2 j hj).2.2⟩) hc.1.2.2.2.2.2.1) (by rw [(g5.2.1 g hg).2.2.1, h31]) hx1 hy hc3 (g5.t (Nat.le_refl _) dx) (g5.t (Nat.le_refl _) dy) (g5.t (Nat.le_refl _) dc) (fun u Q2 hu1 hu => ⟨rfl, Q2, ⟨Q1, ht, hu1⟩, (hu.pre (Nat.le_refl _) (Nat.le_refl _) g4.1 g5 g6).mono (Nat.le_refl _) (Nat.le_refl _) (by omega)⟩)
  refine w_159 s _ _ ⟨hr, hr, ?_⟩
  rw [nI_clamp (by omega), h30, h32, hc.1.2.1, show (74 : Int32) = nI 74 from rfl]
  refine (fs_144 hc.1.1 (by omega) hx1 (by omega) hc.2.2 dx (tdm_nil (by omega))).imp ?_
  rintro _ t ⟨n, rfl, c1, m1, hout⟩
  have s1 := hs.mfb m1
  have ez := (((goA.rfl' s1).pre (Nat.le_refl _) (Nat.le_refl _) (Nat.le_refl _) (m1.hx (T := T) (G := G) (L := L)) m1.fy).mono (Nat.le_refl T) (Nat.le_refl G) (show L ≤ L + 12 by omega))
  rcases hout with ⟨rfl, o1, o2⟩ | ⟨rfl, o1⟩
  · have k1 := hc.mfb hs.1 m1 c1 o2
    refine ⟨1, rfl, fun q => absurd q (by decide), fun _ => ⟨hr, ?_⟩⟩
    rw [((m1.hx (T := T) (G := G) (L := L)).2.1 g hg).2.2.1, h31]
    refine (fs_144 k1.1.1 (by omega) hy hc3 k1.2.2 ((m1.hx (T := T) (G := G) (L := L)).t (Nat.le_refl _) dy) ((m1.hx (T := T) (G := G) (L := L)).t (Nat.le_refl _) dc)).imp ?_
    rintro _ t2 ⟨n2, rfl, c2, m2, hout2⟩
    have s2 := s1.mfb m2
    have m12 := m1.trans m2
    rcases hout2 with ⟨rfl, o3, o4⟩ | ⟨rfl, o3⟩
    · have k2 := k1.mfb s1.1 m2 c2 o4
      refine ⟨1, rfl, fun q => absurd q (by decide), fun _ => (fs_153 s2 k2 (by omega) (by decide)).imp ?_⟩
      rintro _ u ⟨rfl, Q1, w1, w2⟩
      exact ⟨rfl, second u Q1 w1 (w2.pre (Nat.le_refl _) (Nat.le_refl _) (Nat.le_refl _) m12.hx m12.fy)⟩
    · exact ⟨0, rfl, fun _ => fs_153z (P := fun _ t => apQ _ _ _ _ _ _ _ t) (second t2 Q (tri_no o3) (((goA.rfl' s2).pre (Nat.le_refl _) (Nat.le_refl _) (Nat.le_refl _) m12.hx m12.fy).mono (Nat.le_refl _) (Nat.le_refl _) (by omega))), fun q => absurd rfl q⟩
  · exact ⟨0, rfl, fun _ => fs_153z (P := fun _ t => apQ _ _ _ _ _ _ _ t) (second t Q (tri_no (sax_uni o1)) ez), fun q => absurd rfl q⟩
end
