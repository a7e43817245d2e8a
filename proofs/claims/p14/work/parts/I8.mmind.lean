/-! THE REFERENCE IS ASKED: searches in mind, exactly -/
def miX (s : rSg) (T G L : Nat) (t : rSg) : Prop := hx T G L s t ∧ sy 0 s t ∧ (t 725 54 = nI T ∧ t 725 55 = nI G ∧ t 725 56 = nI L) ∧ mK kM jM s t
theorem mx_183 {s : rSg} {T G L : Nat} (hh : hp s T G L) : EvS rSkel 1 183 [.inr (.inr (some 725))] s (fun v t => v = none ∧ hp t T G L ∧ miX s T G L t ∧ t 725 21 = s 725 21 ∧ t 725 47 = s 725 47) := by
  refine w_183 s ⟨rfl, ?_⟩
  rw [hh.2.1.1, hh.2.1.2.1, hh.2.1.2.2]
  have k : mK [] [54, 55, 56] s (up2 (up2 (up2 s 725 54 (nI T)) 725 55 (nI G)) 725 56 (nI L)) := ((mK.rfl'.upF (by simp)).upF (by simp)).upF (by simp)
  have e4 : up2 (up2 (up2 s 725 54 (nI T)) 725 55 (nI G)) 725 56 (nI L) 725 54 = nI T := by rw [up2_nj _ _ _ (by decide), up2_nj _ _ _ (by decide), up2_same]
  have e5 : up2 (up2 (up2 s 725 54 (nI T)) 725 55 (nI G)) 725 56 (nI L) 725 55 = nI G := by rw [up2_nj _ _ _ (by decide), up2_same]
  have e6 : up2 (up2 (up2 s 725 54 (nI T)) 725 55 (nI G)) 725 56 (nI L) 725 56 = nI L := up2_same _ _ _ _
  generalize up2 (up2 (up2 s 725 54 (nI T)) 725 55 (nI G)) 725 56 (nI L) = t at k e4 e5 e6
  have e : hx T G L s t := k.hx (fun k a b => by simp)
  exact ⟨hh.keep e ⟨k.2 10 (by simp), k.2 11 (by simp), k.2 12 (by simp)⟩, ⟨e, k.sy (fun k a b => by simp), ⟨e4, e5, e6⟩, k.mono (by simp) (by simp [jM])⟩, k.2 21 (by simp), k.2 47 (by simp)⟩
/-- forgets: all is as it was -/
theorem mx_184f {s t : rSg} {A : Ab} {im : Option Ab} {T G L h g : Nat} (hb : MJb s A im T G L h g) (hm : miX s T G L t) : EvS rSkel 1 184 [.inr (.inr (some 725))] t (fun v u => v = none ∧ mk0 A im s u ∧ (∀ q, q ≠ 725 → u q = t q) ∧ ∀ j, j ∉ [10, 11, 12, 21] → u 725 j = t 725 j) := by
  obtain ⟨r1, r2, r3, r4, r5, r6, r7⟩ := id hb
  obtain ⟨m1, m2, ⟨m4, m5, m6⟩, m7⟩ := hm
  refine w_184 t ⟨rfl, ?_⟩
  rw [m4, m5, m6]
  have k : mK [] [10, 11, 12, 21] t (up2 (up2 (up2 (up2 t 725 21 0) 725 10 (nI T)) 725 11 (nI G)) 725 12 (nI L)) := (((mK.rfl'.upF (by simp)).upF (by simp)).upF (by simp)).upF (by simp)
  have e0 : up2 (up2 (up2 (up2 t 725 21 0) 725 10 (nI T)) 725 11 (nI G)) 725 12 (nI L) 725 10 = nI T := by rw [up2_nj _ _ _ (by decide), up2_nj _ _ _ (by decide), up2_same]
  have e1 : up2 (up2 (up2 (up2 t 725 21 0) 725 10 (nI T)) 725 11 (nI G)) 725 12 (nI L) 725 11 = nI G := by rw [up2_nj _ _ _ (by decide), up2_same]
  have e2 : up2 (up2 (up2 (up2 t 725 21 0) 725 10 (nI T)) 725 11 (nI G)) 725 12 (nI L) 725 12 = nI L := up2_same _ _ _ _
  have e21 : up2 (up2 (up2 (up2 t 725 21 0) 725 10 (nI T)) 725 11 (nI G)) 725 12 (nI L) 725 21 = nI 0 := by rw [up2_nj _ _ _ (by decide), up2_nj _ _ _ (by decide), up2_nj _ _ _ (by decide), up2_same]; rfl
  generalize up2 (up2 (up2 (up2 t 725 21 0) 725 10 (nI T)) 725 11 (nI G)) 725 12 (nI L) = u at k e0 e1 e2 e21
  have eu : hx T G L s u := m1.trans (k.hx (T := T) (G := G) (L := L) (fun k a b => by simp)) (Nat.le_refl _) (Nat.le_refl _) (Nat.le_refl _)
  have hu : hp u T G L := ⟨r1.1.1, ⟨e0, e1, e2⟩, r1.1.2.2.1.ext eu.1, r1.1.2.2.2.ext eu.2.1 (Nat.le_refl _)⟩
  have zu : sy 0 s u := m2.trans (k.sy (fun k a b => by simp))
  have uf : ∀ j, j ∉ jM → j ∉ [10, 11, 12, 21] → u 725 j = s 725 j := fun j a b => by rw [k.2 j b, m7.2 j a]
  have uc : ∀ q, q ≠ 725 → q ∉ kM → u q = s q := fun q a b => by rw [k.1 q a (by simp), m7.1 q a b]
  refine ⟨⟨⟨T, G, L, h, g, ⟨hu, ⟨e21, by decide⟩, r1.2.2.1.ext r1.1 hu eu (Nat.le_refl _) (Nat.le_refl _) (Nat.le_refl _) zu, mTab_ext eu (Nat.le_refl _) (Nat.le_refl _) r1.2.2.2⟩, r2, ⟨by rw [uf 47 (by simp [jM, jZ]) (by simp)]; exact r3.1, r3.2.1, r3.2.2.1, ?_⟩, by rw [uf 40 (by simp [jM, jZ]) (by simp), uc 753 (by decide) (by simp [kM, kZ])]; exact r4, r5, fun z => by rw [uf 48 (by simp [jM, jZ]) (by simp)]; exact r6 z, fun B z => by rw [uf 48 (by simp [jM, jZ]) (by simp), uf 41 (by simp [jM, jZ]) (by simp), uf 42 (by simp [jM, jZ]) (by simp), uc 754 (by decide) (by simp [kM, kZ])]; exact r7 B z⟩, fun q hq => uc q (by omega) (fun e => by have := kM_ge q e; omega), ⟨uc 752 (by decide) (by simp [kM, kZ]), uc 759 (by decide) (by simp [kM, kZ])⟩, ⟨uf 39 (by simp [jM, jZ]) (by simp), uf 58 (by simp [jM, jZ]) (by simp)⟩, uc 726 (by decide) (by simp [kM, kZ])⟩, fun q hq => k.1 q hq (by simp), fun j hj => k.2 j hj⟩
  rw [nh_ext r1.1.2.2.2 (by have := r1.1.1; omega) eu.2.1 r3.2.2.1]
  exact r3.2.2.2
theorem mx_184 {s t : rSg} {A : Ab} {im : Option Ab} {T G L h g : Nat} (hb : MJb s A im T G L h g) (hm : miX s T G L t) : EvS rSkel 1 184 [.inr (.inr (some 725))] t (fun v u => v = none ∧ mk0 A im s u ∧ ∀ q, q ≠ 725 → u q = t q) := (mx_184f hb hm).imp (fun v u q => ⟨q.1, q.2.1, q.2.2.1⟩)
theorem miX.fy {s t u : rSg} {T G L T2 G2 L2 : Nat} (hm : miX s T G L t) (hT : T ≤ T2) (hG : G ≤ G2) (hL : L ≤ L2) (e : hx T2 G2 L2 t u) (f : fy 1 t u) : miX s T G L u :=
  ⟨hm.1.trans e hT hG hL, hm.2.1.trans (f.2 0 (by decide) (by decide)), ⟨by rw [f.1.2 54 (by simp [jZ])]; exact hm.2.2.1.1, by rw [f.1.2 55 (by simp [jZ])]; exact hm.2.2.1.2.1, by rw [f.1.2 56 (by simp [jZ])]; exact hm.2.2.1.2.2⟩, hm.2.2.2.trans (f.1.mono (fun q h => List.mem_append_left _ h) (fun q h => List.mem_append_left _ h))⟩
theorem miX.K {s t u : rSg} {T G L T2 G2 L2 : Nat} (hm : miX s T G L t) (hT : T ≤ T2) (hG : G ≤ G2) (hL : L ≤ L2) (e : hx T2 G2 L2 t u) {ks js : List Nat} (k : mK ks js t u) (hk : ∀ q, q ∈ ks → q ∈ kM) (hk2 : ∀ q, 739 ≤ q → q ≤ 751 → q ∉ ks) (hj : ∀ q, q ∈ js → q ∈ jM) (hj2 : 54 ∉ js ∧ 55 ∉ js ∧ 56 ∉ js) : miX s T G L u :=
  ⟨hm.1.trans e hT hG hL, hm.2.1.trans (k.sy hk2), ⟨by rw [k.2 54 hj2.1]; exact hm.2.2.1.1, by rw [k.2 55 hj2.2.1]; exact hm.2.2.1.2.1, by rw [k.2 56 hj2.2.2]; exact hm.2.2.1.2.2⟩, hm.2.2.2.trans (k.mono hk hj)⟩
/-- a search is begun in mind -/
theorem mx_121 {tb : Tb} {R : Nat → Nat → Prop} {q : Nat} {s t : rSg} {T G L T2 G2 L2 g : Nat} (hm : miX s T G L t) (hT : T ≤ T2) (hG : G ≤ G2) (hL : L ≤ L2) (hh : hp t T2 G2 L2) (htab : mTab tb R t T2 G2) (hR : R g q) (hL9 : L2 < 18000) (hg : g < G2) (hn : nh t g ≤ 12) {P : Option rv → rSg → Prop} (hP : ∀ u, miX s T G L u → RSa tb R u 1 T2 G2 (L2 + 1) 0 (bgn q) → P none u) : EvS rSkel 3 121 [.inr (.inr (some 725)), .inl (nI g)] (up2 t 725 21 1) P := by
  have e1 : hx T2 G2 L2 t (up2 t 725 21 1) := hx_up
  have h1 : hp (up2 t 725 21 1) T2 G2 L2 := hh.keep e1 ⟨up2_nj _ _ _ (by decide), up2_nj _ _ _ (by decide), up2_nj _ _ _ (by decide)⟩
  have m1 : miX s T G L (up2 t 725 21 1) := hm.K hT hG hL e1 (ks := []) (js := [21]) (mK.rfl'.upF (by simp)) (by simp) (by simp) (by simp [jM]) (by simp)
  refine (fs_121 (z := 1) h1 (mTab_ext e1 (Nat.le_refl _) (Nat.le_refl _) htab) hR (up2_same _ _ _ _) (by decide) hL9 hg (by rw [nh_ext hh.2.2.2 (by have := hh.1; omega) e1.2.1 hg]; exact hn)).imp ?_
  rintro _ u ⟨rfl, r1, r2, r3⟩
  exact hP u (m1.fy hT hG hL r2 r3) r1
/-- searches -/
theorem mx_188 {tb : Tb} {R : Nat → Nat → Prop} {q : Nat} {s t : rSg} {T G L T2 G2 L2 g : Nat} (hm : miX s T G L t) (hT : T ≤ T2) (hG : G ≤ G2) (hL : L ≤ L2) (hh : hp t T2 G2 L2) (htab : mTab tb R t T2 G2) (hR : R g q) (hb : T2 + 240 ≤ 1400 ∧ G2 + 120 ≤ 1000 ∧ L2 + 3001 ≤ 18000) (hg : g < G2) (hn : nh t g ≤ 12) : EvS rSkel 15 188 [.inr (.inr (some 725)), .inl (nI g)] t (fun v u => v = none ∧ miX s T G L u ∧ ∃ Q2 T3 G3 L3 h, gos tb 30 120 (bgn q) Q2 ∧ RSa tb R u 1 T3 G3 L3 h Q2) := by
  refine w_188 t _ (mx_121 hm hT hG hL hh htab hR (by omega) hg hn (fun u m1 r1 => ⟨rfl, ?_⟩))
  refine (fs_137 r1 (show (bgn q).2.2.2.2 ≤ 40 by show 1 ≤ 40; decide) (N := 120) (by decide) (by omega) (by omega) (by omega)).imp ?_
  rintro _ v ⟨rfl, Q2, m, hm9, g1, g2, g3, T3, G3, L3, h3, y1, y2, y3, y4, y5, y6⟩
  exact ⟨rfl, rfl, m1.fy hT hG (by omega) y5 y6, Q2, T3, G3, L3, h3, g1, y1⟩
/-- the goals of left -/
def RL (nG G g q : Nat) : Prop := Rb nG nG g q ∨ (g = G ∧ q = nG) ∨ (g = G + 1 ∧ q = nG + 1)
theorem RL_tab {tb : Tb} {s : rSg} {T G nG g v a : Nat} (hT : 75 ≤ T) (hgG : g < G) (hg : g + 1 = nG) (hv : v < 6) (ha : a < 10) (h : mTab tb (Rb nG nG) s T (G + 2)) (k1 : s 729 G = 61) (k2 : s 730 G = nI v) (k3 : s 731 G = nI (64 + a)) (k4 : s 729 (G + 1) = 38) (k5 : s 730 (G + 1) = nI G) (k6 : s 731 (G + 1) = nI g) : mTab (tbL tb nG v a) (RL nG G) s T (G + 2) := by
  rintro x q (hR | ⟨rfl, rfl⟩ | ⟨rfl, rfl⟩)
  · obtain ⟨h1, h2, h3⟩ := h x q hR
    have e : tbL tb nG v a q = tb q := tbL_old (by have := hR.1; omega)
    simp only [tb1, tb2, tb3, tbA, tbB, e]
    refine ⟨h1, h2, ?_⟩
    rcases h3 with h3 | h3 | ⟨k, x, y, p1, p2, p3, p4, p5⟩ | h3
    · exact Or.inl h3
    · exact Or.inr (Or.inl h3)
    · exact Or.inr (Or.inr (Or.inl ⟨k, x, y, p1, p2, p3, Or.inl p4, Or.inl p5⟩))
    · exact Or.inr (Or.inr (Or.inr h3))
  · simp only [tb1, tb2, tb3, tbA, tbB, tbL_1]
    exact ⟨by omega, k1, Or.inl ⟨by simp, v, 64 + a, k2, k3, ⟨by omega, by omega⟩, tdm_vr (by omega), tdm_atm (by omega) hT⟩⟩
  · simp only [tb1, tb2, tb3, tbA, tbB, tbL_2]
    exact ⟨by omega, k4, Or.inr (Or.inr (Or.inl ⟨by simp, G, g, k5, k6, ⟨by omega, by omega⟩, Or.inr (Or.inl ⟨rfl, rfl⟩), Or.inl ⟨by omega, by omega⟩⟩))⟩
theorem mx_187 {s t : rSg} {A : Ab} {im : Option Ab} {T G L h g : Nat} (hb : MJb s A im T G L h g) (hm : miX s T G L t) (hh : hp t T G L) (h47 : t 725 47 = nI g) {x y : Nat} (hx1 : x < 6) (hy : y < 10) : EvS rSkel 16 187 [.inr (.inr (some 725)), .inl (nI x), .inl (nI y)] t (fun v u => v = none ∧ miX s T G L u ∧ ∃ Q2 T3 G3 L3 h, gos (tbL A.tb A.nG x y) 30 120 (bgn (A.nG + 1)) Q2 ∧ RSa (tbL A.tb A.nG x y) (RL A.nG G) u 1 T3 G3 L3 h Q2) := by
  obtain ⟨r1, r2, r3, r4, r5, _⟩ := id hb
  have b1 := hh.1
  have b5 := r5.1
  refine w_187 t _ _ ?_
  rw [show (64 : Int32) + nI y = nI (64 + y) from by rw [show (64 : Int32) = nI 64 from rfl, nI_add], show (0 : Int32) = nI 0 from rfl]
  refine (ms_120 hh (by omega) (c := 61) (a := x) (b := 64 + y) (d := 0) (fun q => absurd q (by unfold two2; decide)) (fun _ => by omega)).imp ?_
  rintro _ u ⟨rfl, w1, w2, w3, w4, w5, w6, w7⟩
  rw [w3.2 47 (by simp), h47]
  refine ⟨_, rfl, (ms_120 w1 (by omega) (c := 38) (a := G) (b := g) (d := 0) (fun _ => by omega) (fun q => absurd (by unfold two2; decide) q)).imp ?_⟩
  rintro _ v ⟨rfl, q1, q2, q3, q4, q5, q6, q7⟩
  have m1 := hm.K (Nat.le_refl _) (Nat.le_refl _) (Nat.le_refl _) w2 w3 (by simp [kM, kZ]) (fun k a b => by simp; omega) (by simp [jM, jZ]) (by simp)
  have m2 := m1.K (Nat.le_refl _) (show G ≤ G + 1 by omega) (Nat.le_refl _) q2 q3 (by simp [kM, kZ]) (fun k a b => by simp; omega) (by simp [jM, jZ]) (by simp)
  have ng : nh v (G + 1) ≤ 12 := by
    rw [nh_two q1.2.2.2 (by omega) (by omega) (Or.inl q4) q5 q6 (by omega) (by omega)]
    have e1 : nh v G = 0 := by
      rw [nh_ext w1.2.2.2 (by omega) q2.2.1 (show G < G + 1 by omega)]
      exact nh_none (by rw [w4]; decide) (by rw [w4]; unfold two2; decide)
    have e2 : nh v g = nh s g := by rw [nh_ext r1.1.2.2.2 (by omega) m2.1.2.1 r3.2.2.1]
    omega
  have gG := q2.2.1 G (by omega)
  have tab : mTab (tbL A.tb A.nG x y) (RL A.nG G) v T (G + 2) := RL_tab (by omega) r3.2.2.1 r3.2.1 hx1 hy (mTab_ext m2.1 (Nat.le_refl _) (by omega) r1.2.2.2) (by rw [gG.1]; exact w4) (by rw [gG.2.1]; exact w5) (by rw [gG.2.2.1]; exact w6) q4 q5 q6
  refine ⟨_, rfl, (mx_188 m2 (Nat.le_refl _) (by omega) (Nat.le_refl _) q1 tab (Or.inr (Or.inr ⟨rfl, rfl⟩)) (by omega) (by omega) ng).imp ?_⟩
  rintro _ z ⟨rfl, z1, z2⟩
  exact ⟨rfl, rfl, z1, z2⟩
theorem mx_186 {s : rSg} {A : Ab} {im : Option Ab} (h : MJ s A im) {x y : Nat} (hx1 : x < 6) (hy : y < 10) : EvS rSkel 17 186 [.inr (.inr (some 725)), .inl (nI x), .inl (nI y)] s (fun v t => ∃ Q2, gos (tbL A.tb A.nG x y) 30 120 (bgn (A.nG + 1)) Q2 ∧ Q2.2.1.length ≤ 30 ∧ v = some (.inl (nI Q2.2.1.length)) ∧ mk0 A im s t) := by
  obtain ⟨T, G, L, hd, g, hb⟩ := h
  refine w_186 s _ _ ((mx_183 hb.1.1).imp ?_)
  rintro _ t ⟨rfl, t1, t2, t3, t4⟩
  refine ⟨rfl, (mx_187 hb t2 t1 (by rw [t4]; exact hb.2.2.1.1) hx1 hy).imp ?_⟩
  rintro _ u ⟨rfl, u1, Q2, T3, G3, L3, h3, u2, u3⟩
  refine ⟨rfl, (mx_184 hb u1).imp ?_⟩
  rintro _ v ⟨rfl, v1, v2⟩
  refine ⟨rfl, Q2, u2, u3.2.2.1.2.2.1.2, ?_, v1⟩
  rw [v2 748 (by decide), u3.2.2.1.2.2.1.1]
theorem mx_185 {s : rSg} {A : Ab} {im : Option Ab} (h : MJ s A im) (x y : Int32) : EvS rSkel 18 185 [.inr (.inr (some 725)), .inl x, .inl y] s (mP (sLeft A x y) A im s) := by
  refine w_185 s x y (mx_165 s x (fun v hv e => ⟨_, rfl, fun _ => ms_127 s y 0 9 (fun h1 h2 => ⟨_, rfl, fun _ => ?_, fun q => absurd rfl q⟩) (fun h1 h2 => ⟨_, rfl, fun q => absurd q (by decide), fun _ => mx_no (mk0.rfl' h) (by decide) (Or.inl ⟨v, hv, e, Or.inr (Or.inr ⟨Int32.not_le.mp h2, rfl, rfl⟩)⟩)⟩) (fun h1 => ⟨_, rfl, fun q => absurd q (by decide), fun _ => mx_no (mk0.rfl' h) (by decide) (Or.inl ⟨v, hv, e, Or.inr (Or.inl ⟨Int32.not_le.mp h1, rfl, rfl⟩)⟩)⟩), fun q => absurd (by decide) q⟩) (fun hn => ⟨_, rfl, fun q => absurd rfl q, fun _ => mx_no (mk0.rfl' h) (by decide) (Or.inr ⟨hn, rfl, rfl⟩)⟩))
  obtain ⟨a, ha, rfl⟩ := nn_of (Int32.not_lt.mpr h1)
  have a2 := (nI_leI ha (b := 9) (by decide)).mp h2
  rw [e]
  refine (mx_186 h hv (by omega)).imp ?_
  rintro _ t ⟨Q2, q1, q2, rfl, q3⟩
  exact ⟨_, rfl, q3.is (Or.inl ⟨v, hv, rfl, Or.inl ⟨a, by omega, by omega, rfl, Q2, q1, rfl, rfl⟩⟩)⟩
/-- thirty answers, and the first alone -/
theorem br_30 {A : Ab} {v a : Nat} {Q2 : Qx} (h : gos (tbL A.tb A.nG v a) 30 120 (bgn (A.nG + 1)) Q2) : br A v a ↔ Q2.2.1 ≠ [] := by
  obtain ⟨Q1, h1⟩ := gos_down h
  rw [br_iff h1]
  rcases gos_first rfl h1 h with ⟨g1, g2⟩ | ⟨x, l, g1, g2⟩
  · rw [g1, g2]
  · rw [g1, g2]; simp
theorem mx_189b {s : rSg} {A : Ab} {im : Option Ab} {v : Nat} (hv : v < 6) : ∀ (m y : Nat) (t : rSg), y + m = 10 → mk0 A im s t → (∀ b, b < y → ¬ br A v b) → g_189_15 (nI v) (nI y) t (mP (sLeast A (nI v)) A im s) := by
  intro m
  induction m with
  | zero =>
    intro y t hy k he
    obtain rfl : y = 10 := by omega
    exact w_189_15 t _ _ ⟨fun _ => k.is (Or.inl ⟨v, hv, rfl, Or.inr ⟨he, rfl, rfl⟩⟩), fun q => absurd (by decide) q⟩
  | succ m ih =>
    intro y t hy k he
    refine w_189_15 t _ _ ⟨fun q => absurd ((nI_leI (a := 10) (by decide) (by omega)).mp q) (by omega), fun _ => (mx_186 k.1 hv (by omega)).imp ?_⟩
    rintro _ u ⟨Q2, q1, q2, rfl, q3⟩
    refine ⟨_, rfl, fun z => ?_, fun z => ?_⟩
    · have z := (nI_leI (b := 0) (by omega) (by decide)).mp z
      have e : ¬ br A v y := fun w => (br_30 q1).mp w (List.length_eq_zero_iff.mp (by omega))
      rw [nI_1]
      refine ih (y + 1) u (by omega) (k.trans q3) (fun b hb => ?_)
      by_cases q : b = y
      · subst q; exact e
      · exact he b (by omega)
    · exact (k.trans q3).is (Or.inl ⟨v, hv, rfl, Or.inl ⟨y, by omega, (br_30 q1).mpr (fun e => z (by rw [e]; decide)), he, rfl, rfl⟩⟩)
theorem mx_189 {s : rSg} {A : Ab} {im : Option Ab} (h : MJ s A im) (x : Int32) : EvS rSkel 18 189 [.inr (.inr (some 725)), .inl x] s (mP (sLeast A x) A im s) := by
  refine w_189 s x (mx_165 s x (fun v hv e => ⟨_, rfl, fun _ => ?_, fun q => absurd (by decide) q⟩) (fun hn => ⟨_, rfl, fun q => absurd rfl q, fun _ => mx_no (mk0.rfl' h) (by decide) (Or.inr ⟨hn, rfl, rfl⟩)⟩))
  rw [e]
  exact mx_189b hv 10 0 s rfl (mk0.rfl' h) (fun b hb => absurd hb (by omega))
/-! which -/
def nmM (t : rSg) (ns : List Int32) : Prop := t 725 58 = nI ns.length ∧ ns.length ≤ 32 ∧ ∀ j x, ns[j]? = some x → t 759 j = x
theorem mx_196b {t : rSg} {ns tx : List Int32} (hn : nmM t ns) (ht : tx5 t tx) {P : Option rv → rSg → Prop} (h1 : ns <+: tx → P (some (.inl 1)) t) (h0 : ¬ ns <+: tx → P (some (.inl 0)) t) : ∀ (n y : Nat) (b : Int32), y + n = ns.length → ((b = 0 ∧ ¬ ns <+: tx) ∨ (b = 1 ∧ ns.length ≤ tx.length ∧ ∀ k, k < y → k < ns.length ∧ ns[k]? = tx[k]?)) → g_196_19 b (nI y) t P := by
  have l2 := hn.2.1
  intro n
  induction n with
  | zero =>
    intro y b hy hb
    refine w_196_19 t _ _ ⟨fun _ => ?_, fun q => absurd (by rw [hn.1]; exact nI_le (by omega) (by omega)) q⟩
    rcases hb with ⟨rfl, hb⟩ | ⟨rfl, hb, he⟩
    · exact ⟨by decide, h0 hb⟩
    · refine ⟨by decide, h1 ((alk_pre ns tx).mpr ?_)⟩
      rw [alk_at ns tx y he (Or.inl (by omega))]
      omega
  | succ n ih =>
    intro y b hy hb
    refine w_196_19 t _ _ ⟨fun q => ?_, fun _ => ⟨fun q => ?_, fun q => ?_⟩⟩
    · rw [hn.1] at q; have := (nI_leI (by omega) (by omega)).mp q; omega
    · rcases hb with ⟨rfl, hb⟩ | ⟨rfl, hb, he⟩
      · exact ⟨by decide, h0 hb⟩
      · exact absurd q (by decide)
    · rcases hb with ⟨rfl, hb⟩ | ⟨rfl, hb, he⟩
      · exact absurd rfl q
      · have la : y < ns.length := by omega
        have lb : y < tx.length := by omega
        have t2 := ht.2.1
        rw [nI_clamp (by omega), hn.2.2 y _ (List.getElem?_eq_getElem la), ht.2.2 y _ (List.getElem?_eq_getElem lb), nI_1]
        refine ⟨rIn_nI (by omega) (by decide), rIn_nI (by omega) (by decide), fun e => ih (y + 1) 0 (by omega) (Or.inl ⟨rfl, fun z => e ?_⟩), fun e => ih (y + 1) 1 (by omega) (Or.inr ⟨rfl, hb, fun k hk => ?_⟩)⟩
        · have := List.IsPrefix.getElem z la
          exact this.symm
        · by_cases q : k = y
          · subst q; exact ⟨la, by rw [List.getElem?_eq_getElem la, List.getElem?_eq_getElem lb, Classical.not_not.mp e]⟩
          · exact he k (by omega)
theorem mx_196 {t : rSg} {ns tx : List Int32} (hn : nmM t ns) (ht : tx5 t tx) {P : Option rv → rSg → Prop} (h1 : ns <+: tx → P (some (.inl 1)) t) (h0 : ¬ ns <+: tx → P (some (.inl 0)) t) : EvS rSkel 1 196 [.inr (.inr (some 725))] t P := by
  have l2 := hn.2.1
  have t2 := ht.2.1
  refine w_196 t ⟨fun q => mx_196b hn ht h1 h0 ns.length 0 0 (by omega) (Or.inl ⟨rfl, fun z => ?_⟩), fun q => mx_196b hn ht h1 h0 ns.length 0 1 (by omega) (Or.inr ⟨rfl, ?_, fun k hk => absurd hk (by omega)⟩)⟩
  · rw [hn.1, ht.1] at q
    have := (nI_ltI (by omega) (by omega)).mp q
    have := z.length_le
    omega
  · rw [hn.1, ht.1] at q
    exact Nat.le_of_not_lt (fun z => q ((nI_ltI (by omega) (by omega)).mpr z))
theorem mx_195 {s : rSg} {A : Ab} {im : Option Ab} (h : MJ s A im) {ns : List Int32} (hn : nmM s ns) {x y : Nat} (hx1 : x < 6) (hy : y < 10) : EvS rSkel 17 195 [.inr (.inr (some 725)), .inl (nI x), .inl (nI y)] s (fun v t => mk0 A im s t ∧ ((v = some (.inl 1) ∧ wh A ns x y) ∨ (v = some (.inl 0) ∧ ¬ wh A ns x y))) := by
  obtain ⟨T, G, L, hd, g, hb⟩ := h
  refine w_195 s _ _ ((mx_183 hb.1.1).imp ?_)
  rintro _ t ⟨rfl, t1, t2, t3, t4⟩
  refine ⟨rfl, (mx_187 hb t2 t1 (by rw [t4]; exact hb.2.2.1.1) hx1 hy).imp ?_⟩
  rintro _ u ⟨rfl, u1, Q2, T3, G3, L3, h3, u2, u3⟩
  have l30 := u3.2.2.1.2.2.1
  obtain ⟨Q1, g1⟩ := gos_down u2
  have gf := gos_first rfl g1 u2
  refine ⟨rfl, fun z => ?_, fun z => ?_⟩
  · rw [l30.1] at z
    have z := (nI_leI (b := 0) (by omega) (by decide)).mp z
    refine (mx_184 hb u1).imp ?_
    rintro _ v ⟨rfl, v1, v2⟩
    refine ⟨rfl, v1, Or.inr ⟨rfl, ?_⟩⟩
    rintro ⟨Q3, n, X, tx, h3, h4, _⟩
    rw [gos_uniq h3 g1] at h4
    rcases gf with ⟨e1, e2⟩ | ⟨p, l, e1, e2⟩
    · rw [e1] at h4; cases h4
    · rw [e2] at z; simp at z
  · rw [l30.1] at z
    rcases gf with ⟨e1, e2⟩ | ⟨⟨n, X⟩, l, e1, e2⟩
    · exact absurd (by rw [e2]; decide) z
    have hX : Q2.2.1[0]? = some (n, X) := by rw [e2]; rfl
    have hX1 : Q1.2.1[0]? = some (n, X) := by rw [e1]; rfl
    have ha := u3.2.2.1.2.2.2.2.2.2.2 0 n X hX
    refine (ms_166 (i := 0) (v := 0) u3.rs (by rw [e2]; simp) (by decide)).imp ?_
    rintro _ w ⟨rfl, kw, tx, f1, f2⟩
    have hT := fTx_isT ha (by decide) f1
    have hn2 : nmM w ns := ⟨by rw [kw.2 58 (by decide), u1.2.2.2.2 58 (by simp [jM, jZ])]; exact hn.1, hn.2.1, fun j x hj => by rw [kw.1 759 (by decide) (by decide), u1.2.2.2.1 759 (by decide) (by simp [kM, kZ])]; exact hn.2.2 j x hj⟩
    have mw : miX s T G L w := u1.K (T2 := T) (G2 := G) (L2 := L) (Nat.le_refl _) (Nat.le_refl _) (Nat.le_refl _) (kw.hx (fun k a b => by simp [kF]; omega)) kw (by decide) (fun k a b => by simp [kF]; omega) (by decide) (by decide)
    refine ⟨rfl, mx_196 hn2 f2 (fun e => ⟨_, rfl, (mx_184 hb mw).imp ?_⟩) (fun e => ⟨_, rfl, (mx_184 hb mw).imp ?_⟩)⟩
    · rintro _ v ⟨rfl, v1, v2⟩
      exact ⟨rfl, by decide, v1, Or.inl ⟨rfl, (wh_iff g1 hX1 hT).mpr e⟩⟩
    · rintro _ v ⟨rfl, v1, v2⟩
      exact ⟨rfl, by decide, v1, Or.inr ⟨rfl, fun q => e ((wh_iff g1 hX1 hT).mp q)⟩⟩
theorem mx_194b {s : rSg} {A : Ab} {im : Option Ab} {ns : List Int32} (hn : nmM s ns) {v : Nat} (hv : v < 6) : ∀ (m y : Nat) (b : Int32) (t : rSg), y + m = 10 → mk0 A im s t → wb A ns v y b → g_194_17 (nI v) b (nI y) t (mP (sWhich A ns (nI v)) A im s) := by
  intro m
  induction m with
  | zero =>
    intro y b t hy k he
    obtain rfl : y = 10 := by omega
    exact w_194_17 t _ _ _ ⟨fun _ => k.is (Or.inl ⟨v, hv, rfl, b, he, rfl, rfl⟩), fun q => absurd (by decide) q⟩
  | succ m ih =>
    intro y b t hy k he
    have hn2 : nmM t ns := ⟨by rw [k.2.2.2.1.2]; exact hn.1, hn.2.1, fun j x hj => by rw [k.2.2.1.2]; exact hn.2.2 j x hj⟩
    refine w_194_17 t _ _ _ ⟨fun q => absurd ((nI_leI (a := 10) (by decide) (by omega)).mp q) (by omega), fun _ => (mx_195 k.1 hn2 hv (by omega)).imp ?_⟩
    rintro _ u ⟨q1, ⟨rfl, q2⟩ | ⟨rfl, q2⟩⟩
    · rw [nI_1]
      exact ⟨_, rfl, fun q => absurd q (by decide), fun _ => ih (y + 1) _ u (by omega) (k.trans q1) ⟨b, he, Or.inl ⟨q2, rfl⟩⟩⟩
    · rw [nI_1]
      exact ⟨_, rfl, fun _ => ih (y + 1) _ u (by omega) (k.trans q1) ⟨b, he, Or.inr ⟨q2, Int32.or_zero⟩⟩, fun q => absurd rfl q⟩
theorem mx_194 {s : rSg} {A : Ab} {im : Option Ab} (h : MJ s A im) {ns : List Int32} (hn : nmM s ns) (x : Int32) : EvS rSkel 18 194 [.inr (.inr (some 725)), .inl x] s (mP (sWhich A ns x) A im s) := by
  refine w_194 s x (mx_165 s x (fun v hv e => ⟨_, rfl, fun _ => ?_, fun q => absurd (by decide) q⟩) (fun hn => ⟨_, rfl, fun q => absurd rfl q, fun _ => mx_no (mk0.rfl' h) (by decide) (Or.inr ⟨hn, rfl, rfl⟩)⟩))
  rw [e]
  exact mx_194b hn hv 10 0 0 s rfl (mk0.rfl' h) rfl
