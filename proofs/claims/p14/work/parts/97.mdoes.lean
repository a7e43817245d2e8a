/-! THE REFERENCE: each kind of goal -/
theorem cX.mfb {s t : rSg} {T G L : Nat} {q : stP} (hc : cX s T G L q) (hh : hp s T G L) (f : mfb s t) (c : cB t T) : cX t T G L q :=
  ⟨c, by rw [f.2 18 (by decide) (by decide)]; exact hc.2.1, by rw [f.2 19 (by decide) (by decide)]; exact hc.2.2.1, by rw [f.2 20 (by decide) (by decide)]; exact hc.2.2.2.1, hc.2.2.2.2.1, hc.2.2.2.2.2.ext hh f.hx (Nat.le_refl _) (Nat.le_refl _) (Nat.le_refl _)⟩
theorem k739 {k : Nat} {ks : List Nat} (h : ∀ x, x ∈ ks → x < 739) : ∀ k, 739 ≤ k → k ≤ 749 → k ∉ ks := fun k a _ e => by have := h k e; omega
theorem SS.mfb {s t : rSg} {z T G L h w a : Nat} {p : stP} (hs : SS s z T G L h w a p) (f : mfb s t) : SS t z T G L h w a p := hs.K (f.hp hs.1) f.hx (Nat.le_refl _) (Nat.le_refl _) (Nat.le_refl _) f.K (fun k a b => by simp; omega) (by simp)
theorem mfb.fz {z : Nat} {s t : rSg} (f : mfb s t) : fz z s t := fz.of f.K (by simp [kZ]) (by simp [jZ]) (fun k a b => by simp; omega)
/-- a field of the state at hand is set -/
theorem SS.up {s : rSg} {z T G L h w a j : Nat} {p : stP} {x : Int32} (hs : SS s z T G L h w a p) (hj : j = 18 ∨ j = 19 ∨ j = 20) : SS (up2 s 725 j x) z T G L h w a p := by
  have e : hx T G L s (up2 s 725 j x) := hx.of (fun k a b => up2_nk _ _ _ (by omega))
  exact hs.ext (hs.1.keep e ⟨up2_nj _ _ _ (by omega), up2_nj _ _ _ (by omega), up2_nj _ _ _ (by omega)⟩) e (Nat.le_refl _) (Nat.le_refl _) (Nat.le_refl _) (sz.of (fun k a b => up2_nk _ _ _ (by omega))) (up2_nj _ _ _ (by omega))
theorem hp.up {s : rSg} {T G L j : Nat} {x : Int32} (hh : hp s T G L) (hj : j = 18 ∨ j = 19 ∨ j = 20) : hp (up2 s 725 j x) T G L := hh.keep (hx.of (fun k a b => up2_nk _ _ _ (by omega))) ⟨up2_nj _ _ _ (by omega), up2_nj _ _ _ (by omega), up2_nj _ _ _ (by omega)⟩
theorem hx_up {s : rSg} {T G L j : Nat} {x : Int32} : hx T G L s (up2 s 725 j x) := hx.of (fun k a b => up2_nk _ _ _ (by omega))
theorem fz_up {s : rSg} {z j : Nat} {x : Int32} (hj : j = 18 ∨ j = 19 ∨ j = 20) : fz z s (up2 s 725 j x) := fz.of (mK.rfl'.upF (js := [18, 19, 20]) (ks := []) (by rcases hj with rfl | rfl | rfl <;> simp)) (by simp) (by simp [jZ]) (by simp)
theorem cB.up {s : rSg} {T j : Nat} {x : Int32} (hc : cB s T) (hj : j = 18 ∨ j = 19 ∨ j = 20) : cB (up2 s 725 j x) T := hc.ext (up2_nk _ _ _ (by decide)) (up2_nk _ _ _ (by decide)) (up2_nk _ _ _ (by decide)) (up2_nj _ _ _ (by omega))
theorem pOK.up {s : rSg} {T G L j : Nat} {x : Int32} {q : stP} (h : pOK s T G L q) (hh : hp s T G L) : pOK (up2 s 725 j x) T G L q := h.ext hh hx_up (Nat.le_refl _) (Nat.le_refl _) (Nat.le_refl _)
/-- another list to do -/
theorem cX.do {s : rSg} {T G L d : Nat} {q : stP} {gs : List Nat} (hc : cX s T G L q) (hh : hp s T G L) (hd : dol s G L d gs) (hn : nhs s gs ≤ nhs s q.2.1) : cX (up2 s 725 18 (nI d)) T G L (d, gs, q.2.2) := by
  obtain ⟨c1, c2, c3, c4, c5, c6⟩ := hc
  exact ⟨c1.up (by omega), up2_same _ _ _ _, by rw [up2_nj _ _ _ (by decide)]; exact c3, by rw [up2_nj _ _ _ (by decide)]; exact c4, c5, pOK.up ⟨hd, c6.2.1, by have := c6.2.2; simp only; omega⟩ hh⟩
section DOES
variable {s : rSg} {z T G L h w a d0 g r k f : Nat} {gs : List Nat} {ks : List (Nat × Nat)}
/-- a list more, the search as it was -/
theorem ms_123S {p q : stP} (hs : SS s z T G L h w a p) (hc : cX s T G L q) (hL : L < 18000) (x y e : Int32) : EvS rSkel 1 123 [.inr (.inr (some 725)), .inl x, .inl y, .inl e] s (fun v t => v = some (.inl (nI L)) ∧ SS t z T G (L + 1) h w a p ∧ cX t T G (L + 1) q ∧ hx T G L s t ∧ fz z s t ∧ t 733 L = x ∧ t 734 L = y ∧ t 735 L = e) := by
  refine (ms_123 hs.1 hL x y e).imp ?_
  rintro _ t ⟨rfl, w1, w2, w3, w4, w5, w6⟩
  have hk : ∀ k, 739 ≤ k → k ≤ 749 → k ∉ [733, 734, 735] := fun k a b => by simp; omega
  exact ⟨rfl, hs.K w1 w2 (Nat.le_refl _) (Nat.le_refl _) (by omega) w3 hk (by simp), hc.ext hs.1 w1 w2 (Nat.le_refl _) (Nat.le_refl _) (by omega) (w3.1 736 (by decide) (by simp)) ⟨w3.2 16 (by simp), w3.2 18 (by simp), w3.2 19 (by simp), w3.2 20 (by simp)⟩, w2, fz.of w3 (by simp [kZ]) (by simp [jZ]) hk, w4, w5, w6⟩
/-- '=' -/
theorem ms_eq {p q : stP} (hs : SS s z T G L h w a p) (hc : cX s T G L q) (hL : L + 12 ≤ 18000) {x y : Nat} (hx1 : x < T) (hy : y < T) {P : Option rv → rSg → Prop} (hP : ∀ t, go2 z h a p s T G L T G (L + 12) t → P none t) : EvS rSkel 7 144 [.inr (.inr (some 725)), .inl (nI x), .inl (nI y)] s (fun v t => ∃ n, v = some (.inl n) ∧ EvS rSkel 10 153 [.inr (.inr (some 725)), .inl n] t (fun v2 t2 => v2 = none ∧ P none t2)) := by
  refine (ms_144 hc.1 (by have := hs.1.1; omega) hx1 hy).imp ?_
  rintro _ t ⟨n, rfl, _, c, m⟩
  refine ⟨n, rfl, (ms_153 (hs.mfb m) (hc.mfb hs.1 m c) hL n).imp ?_⟩
  rintro _ u ⟨rfl, g⟩
  exact ⟨rfl, hP u (g.pre (Nat.le_refl _) (Nat.le_refl _) (Nat.le_refl _) m.hx m.fz)⟩
/-- '#' -/
theorem ms_hash (hs : SS s z T G L h w a (d0, g :: gs, k, ks, f)) (hc : cX s T G L (r, gs, k, ks, f)) (hL : L + 13 ≤ 18000) (h9 : s 729 g = 35) {x y : Nat} (hx1 : x < T) (hy : y < T) {P : Option rv → rSg → Prop} (hP : ∀ t, go2 z h a (d0, g :: gs, k, ks, f) s T G L T G (L + 13) t → P none t) : EvS rSkel 1 123 [.inr (.inr (some 725)), .inl (nI x), .inl (nI y), .inl (nI k)] s (fun v t => ∃ n, v = some (.inl n) ∧ EvS rSkel 10 153 [.inr (.inr (some 725)), .inl 1] (up2 t 725 19 n) (fun v2 t2 => v2 = none ∧ P none t2)) := by
  have n1 : nhs s gs + ks.length + 1 ≤ 12 := by
    have := hs.2.2.2.2.2.2.2.2.2.2
    simp only [nhs_cons, nh_hash h9] at this
    omega
  refine (ms_123S hs hc (by omega) _ _ _).imp ?_
  rintro _ t ⟨rfl, s1, c1, e1, f1, r1, r2, r3⟩
  have nt : nhs t gs = nhs s gs := nhs_ext hs.1.2.2.2 (by have := hs.1.1; omega) e1.2.1 (dol_mem hc.2.2.2.2.2.1)
  have hk : kel t T (L + 1) L ((x, y) :: ks) := ⟨by have := hs.1.1; omega, by omega, r1, r2, hx1, hy, k, r3, kel_lt (by have := hs.1.1; omega) hc.2.2.2.2.2.2.1, c1.2.2.2.2.2.2.1⟩
  have c2 : cX (up2 t 725 19 (nI L)) T G (L + 1) (r, gs, L, (x, y) :: ks, f) := ⟨c1.1.up (by omega), by rw [up2_nj _ _ _ (by decide)]; exact c1.2.1, up2_same _ _ _ _, by rw [up2_nj _ _ _ (by decide)]; exact c1.2.2.2.1, c1.2.2.2.2.1, pOK.up ⟨c1.2.2.2.2.2.1, hk, by simp only [List.length_cons]; rw [nt]; omega⟩ s1.1⟩
  refine ⟨_, rfl, (ms_153 (s1.up (by omega)) c2 (by omega) 1).imp ?_⟩
  rintro _ u ⟨rfl, g⟩
  exact ⟨rfl, hP u (g.pre (Nat.le_refl _) (Nat.le_refl _) (by omega) (e1.trans (hx_up (T := T) (G := G) (L := L)) (Nat.le_refl _) (Nat.le_refl _) (Nat.le_refl _)) (f1.trans (fz_up (by omega))))⟩
/-- '&' -/
theorem ms_both (hs : SS s z T G L h w a (d0, g :: gs, k, ks, f)) (hc : cX s T G L (r, gs, k, ks, f)) (hL : L + 2 ≤ 18000) (h9 : two2 (s 729 g)) (hg : g < G) {x y : Nat} (h30 : s 730 g = nI x) (h31 : s 731 g = nI y) (hx1 : x < g) (hy : y < g) {P : Option rv → rSg → Prop} (hP : ∀ t, go2 z h a (d0, g :: gs, k, ks, f) s T G L T G (L + 2) t → P none t) : EvS rSkel 1 123 [.inr (.inr (some 725)), .inl (nI y), .inl 0, .inl (nI r)] s (fun v t => ∃ n, v = some (.inl n) ∧ EvS rSkel 1 123 [.inr (.inr (some 725)), .inl (nI x), .inl 0, .inl n] t (fun v t => ∃ n, v = some (.inl n) ∧ EvS rSkel 2 124 [.inr (.inr (some 725))] (up2 t 725 18 n) (fun v2 t2 => v2 = none ∧ P none t2))) := by
  have b1 := hs.1.1
  have hG9 : G < 2 ^ 31 := by omega
  refine (ms_123S hs hc (by omega) _ _ _).imp ?_
  rintro _ t ⟨rfl, s1, c1, e1, f1, r1, r2, r3⟩
  refine ⟨_, rfl, (ms_123S s1 c1 (by omega) _ _ _).imp ?_⟩
  rintro _ u ⟨rfl, s2, c2, e2, f2, q1, q2, q3⟩
  have hd1 : dol t G (L + 1) L (y :: gs) := ⟨by omega, by omega, r1, by omega, r, r3, dol_lt (by omega) hc.2.2.2.2.2.1, c1.2.2.2.2.2.1⟩
  have hd2 : dol u G (L + 1 + 1) (L + 1) (x :: y :: gs) := ⟨by omega, by omega, q1, by omega, L, q3, by omega, dol_ext (Nat.le_refl _) (by omega) (fun j hj => ⟨(e2.2.2 j hj).1, (e2.2.2 j hj).2.2⟩) hd1⟩
  have nn : nhs s (x :: y :: gs) = nhs s (g :: gs) := by rw [nhs_cons, nhs_cons, nhs_cons, nh_two hs.1.2.2.2 hG9 hg h9 h30 h31 hx1 hy]; omega
  have e12 := e1.trans e2 (Nat.le_refl _) (Nat.le_refl _) (show L ≤ L + 1 by omega)
  have nu : nhs u (x :: y :: gs) = nhs s (x :: y :: gs) := nhs_ext hs.1.2.2.2 hG9 e12.2.1 (fun i hi => by
    rcases List.mem_cons.mp hi with rfl | hi
    · omega
    · rcases List.mem_cons.mp hi with rfl | hi
      · omega
      · exact dol_mem hc.2.2.2.2.2.1 i hi)
  have n12 := hs.2.2.2.2.2.2.2.2.2.2
  simp only at n12
  have c3 : cX (up2 u 725 18 (nI (L + 1))) T G (L + 1 + 1) (L + 1, x :: y :: gs, k, ks, f) := ⟨c2.1.up (by omega), up2_same _ _ _ _, by rw [up2_nj _ _ _ (by decide)]; exact c2.2.2.1, by rw [up2_nj _ _ _ (by decide)]; exact c2.2.2.2.1, c2.2.2.2.2.1, pOK.up ⟨hd2, c2.2.2.2.2.2.2.1, by simp only; rw [nu, nn]; exact n12⟩ s2.1⟩
  refine ⟨_, rfl, (ms_124 (s2.up (by omega)) c3).imp ?_⟩
  rintro _ v ⟨rfl, g2⟩
  exact ⟨rfl, hP v ((g2.pre (Nat.le_refl _) (Nat.le_refl _) (by omega) (e12.trans (hx_up (T := T) (G := G) (L := L)) (Nat.le_refl _) (Nat.le_refl _) (Nat.le_refl _)) ((f1.trans f2).trans (fz_up (by omega)))).mono (Nat.le_refl _) (Nat.le_refl _) (by omega))⟩
/-- one goal in the place of another, ahead of the rest: then it waits -/
theorem ms_one {p q : stP} (hs : SS s z T G L h w a p) (hc : cX s T G L q) (hL : L + 1 ≤ 18000) {x : Nat} (hx1 : x < G) (hd : dol s G L r gs) (hn : nh s x + nhs s gs ≤ nhs s q.2.1) {P : Option rv → rSg → Prop} (hP : ∀ t, go2 z h a p s T G L T G (L + 1) t → P none t) : EvS rSkel 1 123 [.inr (.inr (some 725)), .inl (nI x), .inl 0, .inl (nI r)] s (fun v t => ∃ n, v = some (.inl n) ∧ EvS rSkel 2 124 [.inr (.inr (some 725))] (up2 t 725 18 n) (fun v2 t2 => v2 = none ∧ P none t2)) := by
  have b1 := hs.1.1
  have hG9 : G < 2 ^ 31 := by omega
  refine (ms_123S hs hc (by omega) _ _ _).imp ?_
  rintro _ t ⟨rfl, s1, c1, e1, f1, r1, r2, r3⟩
  have hd1 : dol t G (L + 1) L (x :: gs) := ⟨by omega, by omega, r1, by omega, r, r3, dol_lt (by omega) hd, dol_ext (Nat.le_refl _) (by omega) (fun j hj => ⟨(e1.2.2 j hj).1, (e1.2.2 j hj).2.2⟩) hd⟩
  have m0 : ∀ i ∈ x :: gs, i < G := fun i hi => by
    rcases List.mem_cons.mp hi with rfl | hi
    · exact hx1
    · exact dol_mem hd i hi
  have c3 := c1.do s1.1 hd1 (by
    rw [nhs_ext hs.1.2.2.2 hG9 e1.2.1 m0, nhs_ext hs.1.2.2.2 hG9 e1.2.1 (dol_mem hc.2.2.2.2.2.1), nhs_cons]
    exact hn)
  refine ⟨_, rfl, (ms_124 (s1.up (by omega)) c3).imp ?_⟩
  rintro _ v ⟨rfl, g2⟩
  exact ⟨rfl, hP v ((g2.pre (Nat.le_refl _) (Nat.le_refl _) (by omega) (e1.trans (hx_up (T := T) (G := G) (L := L)) (Nat.le_refl _) (Nat.le_refl _) (Nat.le_refl _)) (f1.trans (fz_up (by omega)))))⟩
/-- '|' -/
theorem ms_158 (hs : SS s z T G L h w a (d0, g :: gs, k, ks, f)) (hc : cX s T G L (r, gs, k, ks, f)) (hL : L + 2 ≤ 18000) (h9 : two2 (s 729 g)) (hg : g < G) {x y : Nat} (h30 : s 730 g = nI x) (h31 : s 731 g = nI y) (hx1 : x < g) (hy : y < g) : EvS rSkel 3 158 [.inr (.inr (some 725)), .inl (nI (42 * z + (h + 41) % 42)), .inl (nI g)] s (fun v t => v = none ∧ go2 z h a (d0, g :: gs, k, ks, f) s T G L T G (L + 2) t) := by
  have b1 := hs.1.1
  have hG9 : G < 2 ^ 31 := by omega
  have hr : rIn (nI g) 3000 = true := rIn_nI (by omega) (by decide)
  have n2 := nh_two hs.1.2.2.2 hG9 hg h9 h30 h31 hx1 hy
  refine w_158 s _ _ ⟨hr, ?_⟩
  rw [nI_clamp (by omega), h30, hc.2.1]
  have n12 := hs.2.2.2.2.2.2.2.2.2.2
  simp only [nhs_cons] at n12
  have c0 : cX s T G L (r, gs, k, ks, f) := hc
  -- the first goal's state: its place in the list counts as the whole goal's
  have cg : pOK s T G L (d0, g :: gs, k, ks, f) := hs.2.2.2.2.2.2.2.2
  refine (ms_123S hs hc (by omega) _ _ _).imp ?_
  rintro _ t ⟨rfl, s1, c1, e1, f1, r1, r2, r3⟩
  have hd1 : dol t G (L + 1) L (x :: gs) := ⟨by omega, by omega, r1, by omega, r, r3, dol_lt (by omega) hc.2.2.2.2.2.1, c1.2.2.2.2.2.1⟩
  have m0 : ∀ i ∈ x :: gs, i < G := fun i hi => by
    rcases List.mem_cons.mp hi with rfl | hi
    · omega
    · exact dol_mem hc.2.2.2.2.2.1 i hi
  have nx : nhs t (x :: gs) = nh s x + nhs s gs := by rw [nhs_ext hs.1.2.2.2 hG9 e1.2.1 m0, nhs_cons]
  have c3 : cX (up2 t 725 18 (nI L)) T G (L + 1) (L, x :: gs, k, ks, f) := ⟨c1.1.up (by omega), up2_same _ _ _ _, by rw [up2_nj _ _ _ (by decide)]; exact c1.2.2.1, by rw [up2_nj _ _ _ (by decide)]; exact c1.2.2.2.1, c1.2.2.2.2.1, pOK.up ⟨hd1, c1.2.2.2.2.2.2.1, by simp only; rw [nx]; omega⟩ s1.1⟩
  refine ⟨_, rfl, (ms_124 (s1.up (by omega)) c3).imp ?_⟩
  rintro _ u ⟨rfl, T2, G2, L2, w2, g1, g2, g3, g4, g5, g6⟩
  obtain rfl : T2 = T := by omega
  obtain rfl : G2 = G := by omega
  obtain rfl : L2 = L + 1 := by omega
  have eu : hx T2 G2 L s u := (e1.trans (hx_up (T := T2) (G := G2) (L := L)) (Nat.le_refl _) (Nat.le_refl _) (Nat.le_refl _)).trans g5 (Nat.le_refl _) (Nat.le_refl _) (by omega)
  have fu : fz z s u := (f1.trans (fz_up (by omega))).trans g6
  refine ⟨rfl, (ms_140 g1).imp ?_⟩
  rintro _ v ⟨rfl, v1, v2, v3, v4⟩
  have ev : hx T2 G2 L s v := eu.trans v3 (Nat.le_refl _) (Nat.le_refl _) (by omega)
  refine ⟨rfl, hr, ?_⟩
  rw [(ev.2.1 g hg).2.2.1, h31]
  refine ms_one (gs := gs) (x := y) (r := r) (P := fun v t => v = none ∧ go2 z h a (d0, g :: gs, k, ks, f) s T2 G2 L T2 G2 (L + 2) t) v1 v2 (by omega) (by omega) (dol_ext (Nat.le_refl _) (by omega) (fun j hj => ⟨(ev.2.2 j hj).1, (ev.2.2 j hj).2.2⟩) hc.2.2.2.2.2.1) ?_ (fun t2 g => ⟨rfl, (g.pre (Nat.le_refl _) (Nat.le_refl _) (by omega) ev (fu.trans v4)).mono (Nat.le_refl _) (Nat.le_refl _) (by omega)⟩)
  simp only [nhs_cons]
  rw [nh_ext hs.1.2.2.2 hG9 ev.2.1 (show y < G2 by omega), nh_ext hs.1.2.2.2 hG9 ev.2.1 hg]
  omega
end DOES
