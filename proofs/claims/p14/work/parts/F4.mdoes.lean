/-! THE REFERENCE: '#', '&', '|', exactly -/
section
variable {tb : Tb} {R : Nat → Nat → Prop} {s : rSg} {z T G L h : Nat} {Q : Qx} {p : stP} {X0 : Sx}
theorem SSa.up {j : Nat} {x : Int32} (hs : SSa tb R s z T G L h Q p X0) (hj : j = 18 ∨ j = 19 ∨ j = 20) : SSa tb R (up2 s 725 j x) z T G L h Q p X0 := by
  have k : mK [] [18, 19, 20] s (up2 s 725 j x) := mK.rfl'.upF (by rcases hj with rfl | rfl | rfl <;> simp)
  exact hs.K (hs.1.up hj) hx_up (Nat.le_refl _) (Nat.le_refl _) (Nat.le_refl _) k (by simp) (by simp)
theorem fy_up {s : rSg} {z j : Nat} {x : Int32} (hj : j = 18 ∨ j = 19 ∨ j = 20) : fy z s (up2 s 725 j x) := fy.of (mK.rfl'.upF (js := [18, 19, 20]) (ks := []) (by rcases hj with rfl | rfl | rfl <;> simp)) (by simp) (by simp [jZ]) (by simp)
theorem mKv_up {j : Nat} {x : Int32} {K : Kx} (h : mKv s T K) : mKv (up2 s 725 j x) T K := mKv_ag (fun c _ => by rw [mV_ext (up2_nk _ _ _ (by decide)) (up2_nk _ _ _ (by decide)) (up2_nk _ _ _ (by decide))]) h
theorem mL_up {j : Nat} {x : Int32} {q : stP} {X : Sx} (h : mL tb R s T G q X) : mL tb R (up2 s 725 j x) T G q X := mL_ext (hx_up (T := T) (G := G) (L := 0)) (Nat.le_refl _) (Nat.le_refl _) h
/-- another list to do -/
theorem cXa.do {d : Nat} {q : stP} {X : Sx} {gs : List Nat} {td : List It} (hc : cXa tb R s T G L q X) (hh : hp s T G L) (hd : dol s G L d gs) (hn : nhs s gs ≤ nhs s q.2.1) (hi : mIts R s T G gs td) : cXa tb R (up2 s 725 18 (nI d)) T G L (d, gs, q.2.2) (td, X.2) :=
  ⟨hc.1.do hh hd hn, mL_up ⟨hi, hc.2.1.2.1, hc.2.1.2.2⟩, mKv_up hc.2.2⟩
theorem fs_123S {q : stP} {X : Sx} (hs : SSa tb R s z T G L h Q p X0) (hc : cXa tb R s T G L q X) (hL : L < 18000) (x y e : Int32) : EvS rSkel 1 123 [.inr (.inr (some 725)), .inl x, .inl y, .inl e] s (fun v t => v = some (.inl (nI L)) ∧ SSa tb R t z T G (L + 1) h Q p X0 ∧ cXa tb R t T G (L + 1) q X ∧ hx T G L s t ∧ fy z s t ∧ t 733 L = x ∧ t 734 L = y ∧ t 735 L = e) := by
  refine (ms_123 hs.1 hL x y e).imp ?_
  rintro _ t ⟨rfl, w1, w2, w3, w4, w5, w6⟩
  have hk : ∀ k, 739 ≤ k → k ≤ 751 → k ∉ [733, 734, 735] := fun k a b => by simp; omega
  exact ⟨rfl, hs.K w1 w2 (Nat.le_refl _) (Nat.le_refl _) (by omega) w3 hk (by simp), hc.ext hs.1 w1 w2 (Nat.le_refl _) (Nat.le_refl _) (by omega) (w3.1 736 (by decide) (by simp)) ⟨w3.2 16 (by simp), w3.2 18 (by simp), w3.2 19 (by simp), w3.2 20 (by simp)⟩, w2, fy.of w3 (by simp [kZ]) (by simp [jZ]) hk, w4, w5, w6⟩
/-- one goal ahead of the rest: then it waits -/
theorem fs_one {q : stP} {X : Sx} {r : Nat} {gs : List Nat} {td : List It} {it : It} (hs : SSa tb R s z T G L h Q p X0) (hc : cXa tb R s T G L q X) (hL : L + 1 ≤ 18000) {x : Nat} (hx1 : x < G) (hd : dol s G L r gs) (hn : nh s x + nhs s gs ≤ nhs s q.2.1 ∨ nh s x + nhs s gs + q.2.2.2.1.length ≤ 12) (hi : mIt R s T G x it) (his : mIts R s T G gs td) {P : Option rv → rSg → Prop} (hP : ∀ t, goA tb R z h p X0 s T G L T G (L + 1) (enq Q (it :: td, X.2)) t → P none t) : EvS rSkel 1 123 [.inr (.inr (some 725)), .inl (nI x), .inl 0, .inl (nI r)] s (fun v t => ∃ n, v = some (.inl n) ∧ EvS rSkel 2 124 [.inr (.inr (some 725))] (up2 t 725 18 n) (fun v2 t2 => v2 = none ∧ P none t2)) := by
  have b1 := hs.1.1
  have hG9 : G < 2 ^ 31 := by omega
  refine (fs_123S hs hc (by omega) _ _ _).imp ?_
  rintro _ t ⟨rfl, s1, c1, e1, f1, r1, r2, r3⟩
  have hd1 : dol t G (L + 1) L (x :: gs) := ⟨by omega, by omega, r1, by omega, r, r3, dol_lt (by omega) hd, dol_ext (Nat.le_refl _) (by omega) (fun j hj => ⟨(e1.2.2 j hj).1, (e1.2.2 j hj).2.2⟩) hd⟩
  have m0 : ∀ i ∈ x :: gs, i < G := fun i hi => by
    rcases List.mem_cons.mp hi with rfl | hi
    · exact hx1
    · exact dol_mem hd i hi
  have nx : nhs t (x :: gs) = nh s x + nhs s gs := by rw [nhs_ext hs.1.2.2.2 hG9 e1.2.1 m0, nhs_cons]
  have nq : nhs t q.2.1 = nhs s q.2.1 := nhs_ext hs.1.2.2.2 hG9 e1.2.1 (dol_mem hc.1.2.2.2.2.2.1)
  have hit : mIts R t T G (x :: gs) (it :: td) := ⟨mIt_ext e1 (Nat.le_refl _) (Nat.le_refl _) hi, mIts_ext e1 (Nat.le_refl _) (Nat.le_refl _) his⟩
  have c3 : cXa tb R (up2 t 725 18 (nI L)) T G (L + 1) (L, x :: gs, q.2.2) (it :: td, X.2) := by
    refine ⟨?_, mL_up ⟨hit, c1.2.1.2.1, c1.2.1.2.2⟩, mKv_up c1.2.2⟩
    obtain ⟨k1, k2, k3, k4, k5, k6⟩ := c1.1
    refine ⟨k1.up (by omega), up2_same _ _ _ _, by rw [up2_nj _ _ _ (by decide)]; exact k3, by rw [up2_nj _ _ _ (by decide)]; exact k4, k5, pOK.up ⟨hd1, k6.2.1, ?_⟩ s1.1⟩
    have := k6.2.2
    simp only
    omega
  refine ⟨_, rfl, (fs_124 (s1.up (by omega)) c3).imp ?_⟩
  rintro _ v ⟨rfl, g1, g2, g3⟩
  exact ⟨rfl, hP v ⟨T, G, L + 1, g1, ⟨Nat.le_refl _, Nat.le_refl _⟩, ⟨Nat.le_refl _, Nat.le_refl _⟩, ⟨by omega, Nat.le_refl _⟩, (e1.trans (hx_up (T := T) (G := G) (L := L)) (Nat.le_refl _) (Nat.le_refl _) (Nat.le_refl _)).trans g2 (Nat.le_refl _) (Nat.le_refl _) (by omega), (f1.trans (fy_up (by omega))).trans g3⟩⟩
variable {d0 g r k f : Nat} {gs : List Nat} {ks : List (Nat × Nat)} {td : List It} {kx : List Nat} {K : Kx} {nv : Nat}
/-- '#' -/
theorem fs_hash {gi : Nat} (hs : SSa tb R s z T G L h Q (d0, g :: gs, k, ks, f) X0) (hc : cXa tb R s T G L (r, gs, k, ks, f) (td, kx, nv, K)) (hL : L + 13 ≤ 18000) (h9 : s 729 g = 35) {x y : Nat} (hx1 : x < T) (hy : y < T) (dx : tdm s T x (tb1 tb gi)) (dy : tdm s T y (tb2 tb gi)) {P : Option rv → rSg → Prop} (hP : ∀ t Q2, tri tb Q (td, gi :: kx, nv, K) Q2 → goA tb R z h (d0, g :: gs, k, ks, f) X0 s T G L T G (L + 13) Q2 t → P none t) : EvS rSkel 1 123 [.inr (.inr (some 725)), .inl (nI x), .inl (nI y), .inl (nI k)] s (fun v t => ∃ n, v = some (.inl n) ∧ EvS rSkel 10 153 [.inr (.inr (some 725)), .inl 1] (up2 t 725 19 n) (fun v2 t2 => v2 = none ∧ P none t2)) := by
  have n1 : nhs s gs + ks.length + 1 ≤ 12 := by
    have := hs.2.2.2.1.1.2.2.2.2.2.2.2
    simp only [nhs_cons, nh_hash h9] at this
    omega
  refine (fs_123S hs hc (by omega) _ _ _).imp ?_
  rintro _ t ⟨rfl, s1, c1, e1, f1, r1, r2, r3⟩
  obtain ⟨q1, q2, q3, q4, q5, q6⟩ := id c1.1
  have nt : nhs t gs = nhs s gs := nhs_ext hs.1.2.2.2 (by have := hs.1.1; omega) e1.2.1 (dol_mem hc.1.2.2.2.2.2.1)
  have hk : kel t T (L + 1) L ((x, y) :: ks) := ⟨by have := hs.1.1; omega, by omega, r1, r2, hx1, hy, k, r3, kel_lt (by have := hs.1.1; omega) hc.1.2.2.2.2.2.2.1, q6.2.1⟩
  obtain ⟨l1, ⟨is, l2, l3⟩, l4⟩ := c1.2.1
  have c2 : cXa tb R (up2 t 725 19 (nI L)) T G (L + 1) (r, gs, L, (x, y) :: ks, f) (td, gi :: kx, nv, K) := ⟨⟨q1.up (by omega), by rw [up2_nj _ _ _ (by decide)]; exact q2, up2_same _ _ _ _, by rw [up2_nj _ _ _ (by decide)]; exact q4, q5, pOK.up ⟨q6.1, hk, by simp only [List.length_cons]; rw [nt]; omega⟩ s1.1⟩, mL_up ⟨l1, ⟨gi :: is, l2.cons gi, ⟨e1.t (Nat.le_refl _) dx, e1.t (Nat.le_refl _) dy⟩, l3⟩, l4⟩, mKv_up c1.2.2⟩
  refine ⟨_, rfl, (fs_153 (s1.up (by omega)) c2 (by omega) (by decide)).imp ?_⟩
  rintro _ u ⟨rfl, Q2, w1, w2⟩
  exact ⟨rfl, hP u Q2 w1 ((w2.pre (Nat.le_refl _) (Nat.le_refl _) (by omega) (e1.trans (hx_up (T := T) (G := G) (L := L)) (Nat.le_refl _) (Nat.le_refl _) (Nat.le_refl _)) (f1.trans (fy_up (by omega)))).mono (Nat.le_refl _) (Nat.le_refl _) (by omega))⟩
/-- '&' -/
theorem fs_both {ix iy : It} (hs : SSa tb R s z T G L h Q (d0, g :: gs, k, ks, f) X0) (hc : cXa tb R s T G L (r, gs, k, ks, f) (td, kx, nv, K)) (hL : L + 2 ≤ 18000) (h9 : two2 (s 729 g)) (hg : g < G) {x y : Nat} (h30 : s 730 g = nI x) (h31 : s 731 g = nI y) (hx1 : x < g) (hy : y < g) (mx : mIt R s T G x ix) (my : mIt R s T G y iy) {P : Option rv → rSg → Prop} (hP : ∀ t, goA tb R z h (d0, g :: gs, k, ks, f) X0 s T G L T G (L + 2) (enq Q (ix :: iy :: td, kx, nv, K)) t → P none t) : EvS rSkel 1 123 [.inr (.inr (some 725)), .inl (nI y), .inl 0, .inl (nI r)] s (fun v t => ∃ n, v = some (.inl n) ∧ EvS rSkel 1 123 [.inr (.inr (some 725)), .inl (nI x), .inl 0, .inl n] t (fun v t => ∃ n, v = some (.inl n) ∧ EvS rSkel 2 124 [.inr (.inr (some 725))] (up2 t 725 18 n) (fun v2 t2 => v2 = none ∧ P none t2))) := by
  have b1 := hs.1.1
  have hG9 : G < 2 ^ 31 := by omega
  have n12 := hs.2.2.2.1.1.2.2.2.2.2.2.2
  simp only [nhs_cons, nh_two hs.1.2.2.2 hG9 hg h9 h30 h31 hx1 hy] at n12
  refine (fs_123S hs hc (by omega) _ _ _).imp ?_
  rintro _ t ⟨rfl, s1, c1, e1, f1, r1, r2, r3⟩
  have hdr := hc.1.2.2.2.2.2.1
  have hd1 : dol t G (L + 1) L (y :: gs) := ⟨by omega, by omega, r1, by omega, r, r3, dol_lt (by omega) hdr, c1.1.2.2.2.2.2.1⟩
  have m1 : ∀ i ∈ y :: gs, i < G := fun i hi => by
    rcases List.mem_cons.mp hi with rfl | hi
    · omega
    · exact dol_mem hdr i hi
  have ny : nhs t (y :: gs) = nh s y + nhs s gs := by rw [nhs_ext hs.1.2.2.2 hG9 e1.2.1 m1, nhs_cons]
  have nx : nh t x = nh s x := nh_ext hs.1.2.2.2 hG9 e1.2.1 (by omega)
  refine ⟨_, rfl, (fs_one s1 c1 (x := x) (r := L) (gs := y :: gs) (td := iy :: td) (it := ix) (by omega) (by omega) hd1 (Or.inr ?_) (mIt_ext e1 (Nat.le_refl _) (Nat.le_refl _) mx) ⟨mIt_ext e1 (Nat.le_refl _) (Nat.le_refl _) my, c1.2.1.1⟩ (fun u hu => hP u ((hu.pre (Nat.le_refl _) (Nat.le_refl _) (by omega) e1 f1).mono (Nat.le_refl _) (Nat.le_refl _) (by omega)))).imp (fun _ _ q => q)⟩
  rw [nx, ny]
  simp only
  omega
/-- '|' -/
theorem fs_158 {ix iy : It} (hs : SSa tb R s z T G L h Q (d0, g :: gs, k, ks, f) (X0.1, kx, nv, K)) (hc : cXa tb R s T G L (r, gs, k, ks, f) (td, kx, nv, K)) (hL : L + 2 ≤ 18000) (h9 : two2 (s 729 g)) (hg : g < G) {x y : Nat} (h30 : s 730 g = nI x) (h31 : s 731 g = nI y) (hx1 : x < g) (hy : y < g) (mx : mIt R s T G x ix) (my : mIt R s T G y iy) : EvS rSkel 3 158 [.inr (.inr (some 725)), .inl (nI (42 * z + (h + 41) % 42)), .inl (nI g)] s (fun v t => v = none ∧ goA tb R z h (d0, g :: gs, k, ks, f) (X0.1, kx, nv, K) s T G L T G (L + 2) (enq (enq Q (ix :: td, kx, nv, K)) (iy :: td, kx, nv, K)) t) := by
  have b1 := hs.1.1
  have hG9 : G < 2 ^ 31 := by omega
  have hr : rIn (nI g) 3000 = true := rIn_nI (by omega) (by decide)
  have n12 := hs.2.2.2.1.1.2.2.2.2.2.2.2
  simp only [nhs_cons, nh_two hs.1.2.2.2 hG9 hg h9 h30 h31 hx1 hy] at n12
  have hdr : dol s G L r gs := hc.1.2.2.2.2.2.1
  have second : ∀ t, goA tb R z h (d0, g :: gs, k, ks, f) (X0.1, kx, nv, K) s T G L T G (L + 1) (enq Q (ix :: td, kx, nv, K)) t → EvS rSkel 2 140 [.inr (.inr (some 725)), .inl (nI (42 * z + (h + 41) % 42))] t (fun v8 t9 => v8 = none ∧ (rIn (nI g) 3000 = true ∧ EvS rSkel 1 123 [.inr (.inr (some 725)), .inl (t9 731 g), .inl 0, .inl (nI r)] t9 (fun v11 t12 => ∃ n14, v11 = some (.inl n14) ∧ EvS rSkel 2 124 [.inr (.inr (some 725))] (up2 t12 725 18 n14) (fun v15 t16 => v15 = none ∧ ((none : Option rv) = none ∧ goA tb R z h (d0, g :: gs, k, ks, f) (X0.1, kx, nv, K) s T G L T G (L + 2) (enq (enq Q (ix :: td, kx, nv, K)) (iy :: td, kx, nv, K)) t16))))) := by
    rintro t ⟨T2, G2, L2, g1, g2, g3, g4, g5, g6⟩
    obtain rfl : T2 = T := by omega
    obtain rfl : G2 = G := by omega
    refine (fs_140 g1).imp ?_
    rintro _ u ⟨rfl, u1, u2, u3, u4⟩
    have e2 := g5.trans u3 (Nat.le_refl _) (Nat.le_refl _) g4.1
    refine ⟨rfl, hr, ?_⟩
    rw [(e2.2.1 g hg).2.2.1, h31]
    have hdu : dol u G2 L2 r gs := dol_ext (Nat.le_refl _) g4.1 (fun j hj => ⟨(e2.2.2 j hj).1, (e2.2.2 j hj).2.2⟩) hdr
    have nx : nh u y = nh s y := nh_ext hs.1.2.2.2 hG9 e2.2.1 (by omega)
    have ng : nhs u gs = nhs s gs := nhs_ext hs.1.2.2.2 hG9 e2.2.1 (dol_mem hdr)
    exact fs_one (P := fun v t => v = none ∧ goA tb R z h (d0, g :: gs, k, ks, f) (X0.1, kx, nv, K) s T2 G2 L T2 G2 (L + 2) (enq (enq Q (ix :: td, kx, nv, K)) (iy :: td, kx, nv, K)) t) u1 u2 (by omega) (show y < G2 by omega) hdu (Or.inr (by rw [nx, ng]; simp only; omega)) (mIt_ext e2 (Nat.le_refl _) (Nat.le_refl _) my) (mIts_ext e2 (Nat.le_refl _) (Nat.le_refl _) hc.2.1.1) (fun w hw => ⟨rfl, (hw.pre (Nat.le_refl _) (Nat.le_refl _) g4.1 e2 (g6.trans u4)).mono (Nat.le_refl _) (Nat.le_refl _) (by omega)⟩)
  refine w_158 s _ _ ⟨hr, ?_⟩
  rw [nI_clamp (by omega), h30, hc.1.2.1]
  exact fs_one (P := fun _ t => EvS rSkel 2 140 [.inr (.inr (some 725)), .inl (nI (42 * z + (h + 41) % 42))] t (fun v8 t9 => v8 = none ∧ (rIn (nI g) 3000 = true ∧ EvS rSkel 1 123 [.inr (.inr (some 725)), .inl (t9 731 g), .inl 0, .inl (nI r)] t9 (fun v11 t12 => ∃ n14, v11 = some (.inl n14) ∧ EvS rSkel 2 124 [.inr (.inr (some 725))] (up2 t12 725 18 n14) (fun v15 t16 => v15 = none ∧ ((none : Option rv) = none ∧ goA tb R z h (d0, g :: gs, k, ks, f) (X0.1, kx, nv, K) s T G L T G (L + 2) (enq (enq Q (ix :: td, kx, nv, K)) (iy :: td, kx, nv, K)) t16)))))) hs hc (by omega) (show x < G by omega) hdr (Or.inr (by simp only; omega)) mx hc.2.1.1 (fun t ht => second t ht)
end
