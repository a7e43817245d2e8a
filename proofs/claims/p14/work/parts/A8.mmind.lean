/-! THE REFERENCE: searches in mind -/
def MIb (s : rSg) (T G L h w a st g : Nat) : Prop := RS s 0 T G L h w a ∧ (s 749 0 = nI st ∧ st ≤ 300) ∧ (T ≤ 115 + 2 * st ∧ G ≤ 24 + st ∧ L ≤ 2 + 25 * st) ∧ (s 725 47 = nI g ∧ g < G ∧ nh s g ≤ 12) ∧ (∃ n, s 725 39 = nI n ∧ n ≤ 96) ∧ (∃ m, s 725 58 = nI m ∧ m ≤ 32) ∧ (∃ n, s 725 40 = nI n ∧ txOK (s 753) n) ∧ (s 725 48 = 0 ∨ ∃ n si, s 725 41 = nI n ∧ txOK (s 754) n ∧ s 725 42 = nI si ∧ si ≤ 300)
theorem MI.b {s : rSg} (h : MI s) : ∃ T G L h w a st g, MIb s T G L h w a st g := h
theorem MIb.i {s : rSg} {T G L h w a st g : Nat} (hb : MIb s T G L h w a st g) : MI s := ⟨T, G, L, h, w, a, st, g, hb⟩
def kM : List Nat := kZ ++ [756, 757, 758]
def jM : List Nat := jZ ++ [21, 51, 52, 54, 55, 56, 59]
/-- while something is in mind -/
def mid (s : rSg) (T G L : Nat) (t : rSg) : Prop := hx T G L s t ∧ sz 0 s t ∧ (t 725 54 = nI T ∧ t 725 55 = nI G ∧ t 725 56 = nI L) ∧ mK kM jM s t
theorem kM_ge : ∀ k, k ∈ kM → 725 ≤ k := by decide
/-- minds -/
theorem ms_183 {s : rSg} {T G L : Nat} (hh : hp s T G L) : EvS rSkel 1 183 [.inr (.inr (some 725))] s (fun v t => v = none ∧ hp t T G L ∧ mid s T G L t ∧ t 725 21 = s 725 21 ∧ t 725 47 = s 725 47) := by
  refine w_183 s ⟨rfl, ?_⟩
  rw [hh.2.1.1, hh.2.1.2.1, hh.2.1.2.2]
  have k : mK [] [54, 55, 56] s (up2 (up2 (up2 s 725 54 (nI T)) 725 55 (nI G)) 725 56 (nI L)) := ((mK.rfl'.upF (by simp)).upF (by simp)).upF (by simp)
  have e4 : up2 (up2 (up2 s 725 54 (nI T)) 725 55 (nI G)) 725 56 (nI L) 725 54 = nI T := by rw [up2_nj _ _ _ (by decide), up2_nj _ _ _ (by decide), up2_same]
  have e5 : up2 (up2 (up2 s 725 54 (nI T)) 725 55 (nI G)) 725 56 (nI L) 725 55 = nI G := by rw [up2_nj _ _ _ (by decide), up2_same]
  have e6 : up2 (up2 (up2 s 725 54 (nI T)) 725 55 (nI G)) 725 56 (nI L) 725 56 = nI L := up2_same _ _ _ _
  generalize up2 (up2 (up2 s 725 54 (nI T)) 725 55 (nI G)) 725 56 (nI L) = t at k e4 e5 e6
  have e : hx T G L s t := k.hx (fun k a b => by simp)
  exact ⟨hh.keep e ⟨k.2 10 (by simp), k.2 11 (by simp), k.2 12 (by simp)⟩, ⟨e, k.sz (fun k a b => by simp), ⟨e4, e5, e6⟩, k.mono (by simp) (by simp [jM])⟩, k.2 21 (by simp), k.2 47 (by simp)⟩
/-- forgets: all is as it was -/
theorem ms_184 {s t : rSg} {T G L h w a st g : Nat} (hb : MIb s T G L h w a st g) (hm : mid s T G L t) : EvS rSkel 1 184 [.inr (.inr (some 725))] t (fun v u => v = none ∧ aft s u ∧ (∀ q, q ≠ 725 → u q = t q) ∧ (∀ j, j ∉ [10, 11, 12, 21] → u 725 j = t 725 j)) := by
  obtain ⟨r1, r2, r3, r4, r5, r6, r7, r8⟩ := id hb
  obtain ⟨m1, m2, ⟨m4, m5, m6⟩, m7⟩ := hm
  refine w_184 t ⟨rfl, ?_⟩
  rw [m4, m5, m6]
  have k : mK [] [10, 11, 12, 21] t (up2 (up2 (up2 (up2 t 725 21 0) 725 10 (nI T)) 725 11 (nI G)) 725 12 (nI L)) := (((mK.rfl'.upF (by simp)).upF (by simp)).upF (by simp)).upF (by simp)
  have e0 : up2 (up2 (up2 (up2 t 725 21 0) 725 10 (nI T)) 725 11 (nI G)) 725 12 (nI L) 725 10 = nI T := by rw [up2_nj _ _ _ (by decide), up2_nj _ _ _ (by decide), up2_same]
  have e1 : up2 (up2 (up2 (up2 t 725 21 0) 725 10 (nI T)) 725 11 (nI G)) 725 12 (nI L) 725 11 = nI G := by rw [up2_nj _ _ _ (by decide), up2_same]
  have e2 : up2 (up2 (up2 (up2 t 725 21 0) 725 10 (nI T)) 725 11 (nI G)) 725 12 (nI L) 725 12 = nI L := up2_same _ _ _ _
  have e21 : up2 (up2 (up2 (up2 t 725 21 0) 725 10 (nI T)) 725 11 (nI G)) 725 12 (nI L) 725 21 = nI 0 := by rw [up2_nj _ _ _ (by decide), up2_nj _ _ _ (by decide), up2_nj _ _ _ (by decide), up2_same]; rfl
  generalize up2 (up2 (up2 (up2 t 725 21 0) 725 10 (nI T)) 725 11 (nI G)) 725 12 (nI L) = u at k e0 e1 e2 e21
  have eu : hx T G L s u := m1.trans (k.hx (T := T) (G := G) (L := L) (fun k a b => by simp)) (Nat.le_refl _) (Nat.le_refl _) (Nat.le_refl _)
  have hu : hp u T G L := ⟨r1.1.1, ⟨e0, e1, e2⟩, r1.1.2.2.1.ext eu.1, r1.1.2.2.2.ext eu.2.1 (Nat.le_refl _)⟩
  have zu : sz 0 s u := m2.trans (k.sz (fun k a b => by simp))
  have uf : ∀ j, j ∉ jM → j ∉ [10, 11, 12, 21] → u 725 j = s 725 j := fun j a b => by rw [k.2 j b, m7.2 j a]
  have uc : ∀ q, q ≠ 725 → q ∉ kM → u q = s q := fun q a b => by rw [k.1 q a (by simp), m7.1 q a b]
  refine ⟨⟨⟨T, G, L, h, w, a, st, g, ⟨hu, ⟨e21, by decide⟩, r1.2.2.ext r1.1 hu eu (Nat.le_refl _) (Nat.le_refl _) (Nat.le_refl _) zu⟩, ⟨by rw [zu.2.2.2.2.2.2]; exact r2.1, r2.2⟩, r3, ⟨by rw [uf 47 (by simp [jM, jZ]) (by simp)]; exact r4.1, r4.2.1, ?_⟩, by rw [uf 39 (by simp [jM, jZ]) (by simp)]; exact r5, by rw [uf 58 (by simp [jM, jZ]) (by simp)]; exact r6, by rw [uf 40 (by simp [jM, jZ]) (by simp), uc 753 (by decide) (by simp [kM, kZ])]; exact r7, by rw [uf 48 (by simp [jM, jZ]) (by simp), uf 41 (by simp [jM, jZ]) (by simp), uf 42 (by simp [jM, jZ]) (by simp), uc 754 (by decide) (by simp [kM, kZ])]; exact r8⟩, fun q hq => uc q (by omega) (fun e => by have := kM_ge q e; omega), uc 752 (by decide) (by simp [kM, kZ]), uf 39 (by simp [jM, jZ]) (by simp)⟩, fun q hq => k.1 q hq (by simp), fun j hj => k.2 j hj⟩
  rw [nh_ext r1.1.2.2.2 (by have := r1.1.1; omega) eu.2.1 r4.2.1]
  exact r4.2.2
theorem mid.fq {s t u : rSg} {T G L T2 G2 L2 : Nat} (hm : mid s T G L t) (hT : T ≤ T2) (hG : G ≤ G2) (hL : L ≤ L2) (e : hx T2 G2 L2 t u) (f : fq 1 t u) : mid s T G L u :=
  ⟨hm.1.trans e hT hG hL, hm.2.1.trans (f.2 0 (by decide) (by decide)), ⟨by rw [f.1.2 54 (by simp [jZ])]; exact hm.2.2.1.1, by rw [f.1.2 55 (by simp [jZ])]; exact hm.2.2.1.2.1, by rw [f.1.2 56 (by simp [jZ])]; exact hm.2.2.1.2.2⟩, hm.2.2.2.trans (f.1.mono (fun q h => List.mem_append_left _ h) (fun q h => List.mem_append_left _ h))⟩
/-- a search is begun in mind -/
theorem ms_121m {s t : rSg} {T G L T2 G2 L2 g : Nat} (hm : mid s T G L t) (hT : T ≤ T2) (hG : G ≤ G2) (hL : L ≤ L2) (hh : hp t T2 G2 L2) (hL9 : L2 < 18000) (hg : g < G2) (hn : nh t g ≤ 12) {P : Option rv → rSg → Prop} (hP : ∀ u, mid s T G L u → RS u 1 T2 G2 (L2 + 1) 0 1 0 → u 749 1 = nI 0 → (∀ j, j ∉ jZ ++ [21] → u 725 j = t 725 j) → P none u) : EvS rSkel 3 121 [.inr (.inr (some 725)), .inl (nI g)] (up2 t 725 21 1) P := by
  have e1 : hx T2 G2 L2 t (up2 t 725 21 1) := hx_up
  have h1 : hp (up2 t 725 21 1) T2 G2 L2 := hh.keep e1 ⟨up2_nj _ _ _ (by decide), up2_nj _ _ _ (by decide), up2_nj _ _ _ (by decide)⟩
  have m1 : mid s T G L (up2 t 725 21 1) := ⟨hm.1.trans e1 hT hG hL, hm.2.1.trans (sz.of (fun k a b => up2_nk _ _ _ (by omega))), ⟨by rw [up2_nj _ _ _ (by decide)]; exact hm.2.2.1.1, by rw [up2_nj _ _ _ (by decide)]; exact hm.2.2.1.2.1, by rw [up2_nj _ _ _ (by decide)]; exact hm.2.2.1.2.2⟩, hm.2.2.2.upF (by simp [jM])⟩
  refine (ms_121 (z := 1) h1 (up2_same _ _ _ _) (by decide) hL9 hg (by rw [nh_ext hh.2.2.2 (by have := hh.1; omega) e1.2.1 hg]; exact hn)).imp ?_
  rintro _ u ⟨rfl, r1, r2, r3, r4⟩
  refine hP u (m1.fq hT hG hL r3 r4) r1 r2 (fun j hj => ?_)
  rw [r4.1.2 j (fun e => hj (List.mem_append_left _ e)), up2_nj _ _ _ (fun e => hj (by simp [e]))]
/-- searches -/
theorem ms_188 {s t : rSg} {T G L T2 G2 L2 g : Nat} (hm : mid s T G L t) (hT : T ≤ T2) (hG : G ≤ G2) (hL : L ≤ L2) (hh : hp t T2 G2 L2) (hb : T2 + 240 ≤ 1400 ∧ G2 + 120 ≤ 1000 ∧ L2 + 3001 ≤ 18000) (hg : g < G2) (hn : nh t g ≤ 12) : EvS rSkel 15 188 [.inr (.inr (some 725)), .inl (nI g)] t (fun v u => v = none ∧ mid s T G L u ∧ ∃ T3 G3 L3 h w a, RS u 1 T3 G3 L3 h w a ∧ T ≤ T3 ∧ G ≤ G3 ∧ L ≤ L3) := by
  refine w_188 t _ (ms_121m hm hT hG hL hh (by omega) hg hn (fun u m1 r1 r2 _ => ⟨rfl, ?_⟩))
  refine (ms_137 r1 r2 (N := 120) (by decide) (by omega) (by omega) (by omega)).imp ?_
  rintro _ v ⟨rfl, m, hm9, ⟨T3, G3, L3, h3, w3, a3, y1, y2, y3, y4, y5, y6⟩, _⟩
  exact ⟨rfl, rfl, m1.fq hT hG (by omega) y5 y6, T3, G3, L3, h3, w3, a3, y1, by omega, by omega, by omega⟩
theorem mid.K {s t u : rSg} {T G L T2 G2 L2 : Nat} (hm : mid s T G L t) (hT : T ≤ T2) (hG : G ≤ G2) (hL : L ≤ L2) (e : hx T2 G2 L2 t u) {ks js : List Nat} (k : mK ks js t u) (hk : ∀ q, q ∈ ks → q ∈ kM) (hk2 : ∀ q, 739 ≤ q → q ≤ 749 → q ∉ ks) (hj : ∀ q, q ∈ js → q ∈ jM) (hj2 : 54 ∉ js ∧ 55 ∉ js ∧ 56 ∉ js) : mid s T G L u :=
  ⟨hm.1.trans e hT hG hL, hm.2.1.trans (k.sz hk2), ⟨by rw [k.2 54 hj2.1]; exact hm.2.2.1.1, by rw [k.2 55 hj2.2.1]; exact hm.2.2.1.2.1, by rw [k.2 56 hj2.2.2]; exact hm.2.2.1.2.2⟩, hm.2.2.2.trans (k.mono hk hj)⟩
/-- searchesLeft -/
theorem ms_187 {s t : rSg} {T G L h w a st g : Nat} (hb : MIb s T G L h w a st g) (hm : mid s T G L t) (hh : hp t T G L) (h47 : t 725 47 = nI g) {x y : Nat} (hx1 : x < 6) (hy : y < 10) : EvS rSkel 16 187 [.inr (.inr (some 725)), .inl (nI x), .inl (nI y)] t (fun v u => v = none ∧ mid s T G L u ∧ ∃ T3 G3 L3 h w a, RS u 1 T3 G3 L3 h w a ∧ T ≤ T3 ∧ G ≤ G3 ∧ L ≤ L3) := by
  obtain ⟨r1, r2, r3, r4, _⟩ := id hb
  have b1 := hh.1
  refine w_187 t _ _ ?_
  rw [show (64 : Int32) + nI y = nI (64 + y) from by rw [show (64 : Int32) = nI 64 from rfl, nI_add], show (0 : Int32) = nI 0 from rfl]
  refine (ms_120 hh (by omega) (c := 61) (a := x) (b := 64 + y) (d := 0) (fun q => absurd q (by unfold two2; decide)) (fun _ => by omega)).imp ?_
  rintro _ u ⟨rfl, w1, w2, w3, w4, w5, w6, w7⟩
  rw [w3.2 47 (by simp), h47]
  refine ⟨_, rfl, (ms_120 w1 (by omega) (c := 38) (a := G) (b := g) (d := 0) (fun _ => by omega) (fun q => absurd (by unfold two2; decide) q)).imp ?_⟩
  rintro _ v ⟨rfl, q1, q2, q3, q4, q5, q6, q7⟩
  have m1 := hm.K (Nat.le_refl _) (Nat.le_refl _) (Nat.le_refl _) w2 w3 (by simp [kM, kZ]) (fun k a b => by simp; omega) (by simp [jM, jZ]) (by simp)
  have m2 := m1.K (Nat.le_refl _) (show G ≤ G + 1 by omega) (Nat.le_refl _) q2 q3 (by simp [kM, kZ]) (fun k a b => by simp; omega) (by simp [jM, jZ]) (by simp)
  have hG9 : G + 1 + 1 < 2 ^ 31 := by omega
  have ng : nh v (G + 1) ≤ 12 := by
    rw [nh_two q1.2.2.2 hG9 (by omega) (Or.inl q4) q5 q6 (by omega) (by omega)]
    have e1 : nh v G = 0 := by
      rw [nh_ext w1.2.2.2 (by omega) q2.2.1 (show G < G + 1 by omega)]
      exact nh_none (by rw [w4]; decide) (by rw [w4]; unfold two2; decide)
    have e2 : nh v g = nh s g := by rw [nh_ext r1.1.2.2.2 (by omega) m2.1.2.1 r4.2.1]
    omega
  refine ⟨_, rfl, (ms_188 m2 (Nat.le_refl _) (by omega) (Nat.le_refl _) q1 (by omega) (by omega) ng).imp ?_⟩
  rintro _ z ⟨rfl, z1, z2⟩
  exact ⟨rfl, rfl, z1, z2⟩
/-- leftBy -/
theorem ms_186 {s : rSg} (h : MI s) {x y : Nat} (hx1 : x < 6) (hy : y < 10) : EvS rSkel 17 186 [.inr (.inr (some 725)), .inl (nI x), .inl (nI y)] s (fun v t => ∃ n : Int32, v = some (.inl n) ∧ aft s t) := by
  obtain ⟨T, G, L, hd, w, a, st, g, hb⟩ := h.b
  refine w_186 s _ _ ((ms_183 hb.1.1).imp ?_)
  rintro _ t ⟨rfl, t1, t2, t3, t4⟩
  refine ⟨rfl, (ms_187 hb t2 t1 (by rw [t4]; exact hb.2.2.2.1.1) hx1 hy).imp ?_⟩
  rintro _ u ⟨rfl, u1, _⟩
  refine ⟨rfl, (ms_184 hb u1).imp ?_⟩
  rintro _ v ⟨rfl, v1, _⟩
  exact ⟨rfl, _, rfl, v1⟩
theorem aft.trans {s t u : rSg} (h1 : aft s t) (h2 : aft t u) : aft s u := ⟨h2.1, h1.2.1.trans h2.2.1, h2.2.2.1.trans h1.2.2.1, h2.2.2.2.trans h1.2.2.2⟩
theorem mi_left {s : rSg} (h : MI s) (x y : Int32) : EvS rSkel 18 185 [.inr (.inr (some 725)), .inl x, .inl y] s (fun v t => iRet v ∧ aft s t) := by
  refine w_185 s x y (ms_165 s x (fun i hi e => ⟨_, rfl, fun _ => ms_127 s y 0 9 (fun h1 h2 => ⟨_, rfl, fun _ => ?_, fun q => absurd rfl q⟩) (fun _ _ => ⟨_, rfl, fun q => absurd q (by decide), fun _ => mi_no h (by decide)⟩) (fun _ => ⟨_, rfl, fun q => absurd q (by decide), fun _ => mi_no h (by decide)⟩), fun q => absurd (by decide) q⟩) ⟨_, rfl, fun q => absurd rfl q, fun _ => mi_no h (by decide)⟩)
  obtain ⟨j, hj, rfl⟩ := nn_of (Int32.not_lt.mpr h1)
  rw [e]
  refine (ms_186 h hi (by have := (nI_leI hj (b := 9) (by decide)).mp h2; omega)).imp ?_
  rintro _ t ⟨n, rfl, ht⟩
  exact ⟨n, rfl, ⟨_, rfl⟩, ht⟩
theorem ms_189b {s : rSg} {x : Nat} (hx1 : x < 6) : ∀ (m y : Nat) (t : rSg), y + m = 10 → aft s t → g_189_15 (nI x) (nI y) t (fun v u => iRet v ∧ aft s u) := by
  intro m
  induction m with
  | zero =>
    intro y t hy ht
    obtain rfl : y = 10 := by omega
    exact w_189_15 t _ _ ⟨fun _ => ⟨⟨_, rfl⟩, ht⟩, fun q => absurd (by decide) q⟩
  | succ m ih =>
    intro y t hy ht
    refine w_189_15 t _ _ ⟨fun q => absurd ((nI_leI (a := 10) (by decide) (by omega)).mp q) (by omega), fun _ => (ms_186 ht.1 hx1 (by omega)).imp ?_⟩
    rintro _ u ⟨n, rfl, hu⟩
    rw [nI_1]
    exact ⟨n, rfl, fun _ => ih (y + 1) u (by omega) (ht.trans hu), fun _ => ⟨⟨_, rfl⟩, ht.trans hu⟩⟩
theorem mi_least {s : rSg} (h : MI s) (x : Int32) : EvS rSkel 18 189 [.inr (.inr (some 725)), .inl x] s (fun v t => iRet v ∧ aft s t) := by
  refine w_189 s x (ms_165 s x (fun i hi e => ⟨_, rfl, fun _ => ?_, fun q => absurd (by decide) q⟩) ⟨_, rfl, fun q => absurd rfl q, fun _ => mi_no h (by decide)⟩)
  rw [e]
  exact ms_189b hi 10 0 s rfl (mi_same h)
/-- turned -/
theorem mi_turned {s : rSg} (h : MI s) (x : Int32) : EvS rSkel 16 190 [.inr (.inr (some 725)), .inl x] s (fun v t => iRet v ∧ aft s t) := by
  obtain ⟨T, G, L, hd, w, a, st, g, hb⟩ := h.b
  obtain ⟨r1, r2, r3, r4, _⟩ := id hb
  have b1 := r1.1.1
  have rg : rIn (nI g) 3000 = true := rIn_nI (by omega) (by decide)
  obtain ⟨p, q, d, g0, g1, g2, g3, _⟩ := r1.1.2.2.2 g r4.2.1
  have main : two2 (s 729 g) → EvS rSkel 1 183 [.inr (.inr (some 725))] s (fun v8 t9 => v8 = none ∧ (rIn (t9 725 47) 3000 = true ∧ rIn (t9 725 47) 3000 = true ∧ rIn (t9 725 47) 3000 = true ∧ EvS rSkel 1 120 [.inr (.inr (some 725)), .inl (t9 729 ((t9 725 47).toNatClampNeg)), .inl (t9 731 ((t9 725 47).toNatClampNeg)), .inl (t9 730 ((t9 725 47).toNatClampNeg)), .inl 0] t9 (fun v11 t12 => ∃ n14, v11 = some (.inl n14) ∧ EvS rSkel 15 188 [.inr (.inr (some 725)), .inl n14] t12 (fun v15 t16 => v15 = none ∧ EvS rSkel 1 184 [.inr (.inr (some 725))] t16 (fun v18 t19 => v18 = none ∧ (¬ x = 0 → (¬ (t19 748 1) = 0 → iRet (some (.inl (t19 744 30))) ∧ aft s t19) ∧ (¬ (¬ (t19 748 1) = 0) → iRet (some (.inl ((-9)))) ∧ aft s t19)) ∧ (¬ (¬ x = 0) → iRet (some (.inl (t19 748 1))) ∧ aft s t19)))))) := by
    intro h2
    obtain ⟨la, lb⟩ := g3 h2
    refine (ms_183 r1.1).imp ?_
    rintro _ t ⟨rfl, t1, t2, t3, t4⟩
    have t47 : t 725 47 = nI g := by rw [t4]; exact r4.1
    have eg := t2.1.2.1 g r4.2.1
    rw [t47, nI_clamp (by omega), eg.1, eg.2.1, eg.2.2.1, g0, g1, show (0 : Int32) = nI 0 from rfl]
    refine ⟨rfl, rg, rg, rg, (ms_120 t1 (by omega) (c := s 729 g) (a := q) (b := p) (d := 0) (fun _ => by omega) (fun z => absurd h2 z)).imp ?_⟩
    rintro _ u ⟨rfl, w1, w2, w3, w4, w5, w6, w7⟩
    have m1 := t2.K (Nat.le_refl _) (Nat.le_refl _) (Nat.le_refl _) w2 w3 (by simp [kM, kZ]) (fun k a b => by simp; omega) (by simp [jM, jZ]) (by simp)
    have ng : nh u G ≤ 12 := by
      rw [nh_two w1.2.2.2 (by omega) (by omega) (by rw [w4]; exact h2) w5 w6 (by omega) (by omega), nh_ext r1.1.2.2.2 (by omega) m1.1.2.1 (show p < G by omega), nh_ext r1.1.2.2.2 (by omega) m1.1.2.1 (show q < G by omega)]
      have := nh_two r1.1.2.2.2 (by omega) r4.2.1 h2 g0 g1 la lb
      omega
    refine ⟨_, rfl, (ms_188 m1 (Nat.le_refl _) (by omega) (Nat.le_refl _) w1 (by omega) (by omega) ng).imp ?_⟩
    rintro _ v ⟨rfl, v1, _⟩
    refine ⟨rfl, (ms_184 hb v1).imp ?_⟩
    rintro _ y ⟨rfl, y1, _⟩
    exact ⟨rfl, fun _ => ⟨fun _ => ⟨⟨_, rfl⟩, y1⟩, fun _ => ⟨⟨_, rfl⟩, y1⟩⟩, fun _ => ⟨⟨_, rfl⟩, y1⟩⟩
  refine w_190 s x (ms_119 s x 0 1 (fun _ => ⟨_, rfl, fun _ => ?_, fun q => absurd (by decide) q⟩) (fun _ => ⟨_, rfl, fun q => absurd rfl q, fun _ => mi_no h (by decide)⟩))
  rw [r4.1, nI_clamp (by omega)]
  exact ⟨rg, fun e => main (Or.inl e), fun _ => ⟨rg, fun e => main (Or.inr e), fun _ => mi_no h (by decide)⟩⟩
/-- need -/
theorem ms_182b {s : rSg} {T G L h w a st g : Nat} (hb : MIb s T G L h w a st g) (x : Int32) : ∀ (m y : Nat) (t : rSg) (s1 : rSg), y + m = 300 → mid s T G L s1 → go3 1 s1 T G (L + 1) (T + 2 * y) (G + y) (L + 1 + 25 * y) t → mid s T G L t → t 749 1 = nI y → g_182_35 x t (fun v u => iRet v ∧ aft s u) := by
  have b1 := hb.1.1.1
  have b3 := hb.2.2.1
  have b2 := hb.2.1.2
  have out : ∀ {t : rSg} {z : Int32}, mid s T G L t → EvS rSkel 1 184 [.inr (.inr (some 725))] t (fun v19 t20 => v19 = none ∧ iRet (some (.inl z)) ∧ aft s t20) := fun hm => (ms_184 hb hm).imp (fun v u q => ⟨q.1, ⟨_, rfl⟩, q.2.1⟩)
  intro m
  induction m with
  | zero =>
    intro y t s1 hy m0 hg hm h9
    obtain rfl : y = 300 := by omega
    refine w_182_35 t x ⟨fun _ => ⟨fun _ => out hm, fun _ => out hm⟩, fun _ => ⟨fun _ => ⟨fun _ => out hm, fun _ => out hm⟩, fun q => absurd (by rw [h9]; decide) q⟩⟩
  | succ m ih =>
    intro y t s1 hy m0 hg hm h9
    refine w_182_35 t x ⟨fun _ => ⟨fun _ => out hm, fun _ => out hm⟩, fun _ => ⟨fun _ => ⟨fun _ => out hm, fun _ => out hm⟩, fun _ => ?_⟩⟩
    obtain ⟨T2, G2, L2, h2, w2, a2, g1, _⟩ := id hg
    refine (ms_138 g1).imp ?_
    rintro _ t ⟨rfl, rfl⟩
    refine ⟨_, rfl, fun _ => ⟨fun _ => out hm, fun _ => out hm⟩, fun q => ?_⟩
    have hd : 0 < w2 ∧ a2 < 30 := by
      have a9 := g1.2.2.2.2.1.2
      by_cases e : w2 = 0 ∨ a2 = 30
      · exact absurd (by rw [if_pos e]; decide) q
      · omega
    refine ms_more (N := 300) hg (by omega) (by omega) (by omega) (by omega) (fun T3 G3 L3 h3 w3 a3 g3 => by
      obtain ⟨e1, e2⟩ := g1.uniq g3
      omega) (fun u hu h10 => ⟨rfl, ?_⟩)
    obtain ⟨T3, G3, L3, h3, w3, a3, y1, y2, y3, y4, y5, y6⟩ := id hu
    exact ih (y + 1) u s1 (by omega) m0 hu (m0.fq (Nat.le_refl _) (Nat.le_refl _) (by omega) y5 y6) (by rw [h10, h9, nI_1])
theorem mi_need {s : rSg} (h : MI s) (x : Int32) : EvS rSkel 14 182 [.inr (.inr (some 725)), .inl x] s (fun v t => iRet v ∧ aft s t) := by
  obtain ⟨T, G, L, hd, w, a, st, g, hb⟩ := h.b
  have b3 := hb.2.2.1
  have b2 := hb.2.1.2
  have b1 := hb.1.1.1
  refine w_182 s x (ms_127 s x 1 10 (fun _ _ => ⟨_, rfl, fun _ => (ms_183 hb.1.1).imp ?_, fun q => absurd rfl q⟩) (fun _ _ => ⟨_, rfl, fun q => absurd q (by decide), fun _ => mi_no h (by decide)⟩) (fun _ => ⟨_, rfl, fun q => absurd q (by decide), fun _ => mi_no h (by decide)⟩))
  rintro _ t ⟨rfl, t1, t2, t3, t4⟩
  have r4 := hb.2.2.2.1
  have nt : nh t g ≤ 12 := by rw [nh_ext hb.1.1.2.2.2 (by omega) t2.1.2.1 r4.2.1]; exact r4.2.2
  rw [t4, r4.1]
  exact ⟨rfl, ms_121m t2 (Nat.le_refl _) (Nat.le_refl _) (Nat.le_refl _) t1 (by omega) r4.2.1 nt (fun u m1 q1 q2 _ => ⟨rfl, ms_182b hb x 300 0 u u (by omega) m1 (go3.rfl' q1) m1 q2⟩)⟩
