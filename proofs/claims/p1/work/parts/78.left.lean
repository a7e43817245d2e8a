/-! IN MIND: left, least -/
theorem c_addGoal {s g : Nat} (hs : isScr s) (sg : rSg) (h : sg s 3 = nI g) (hg : g < 326) (x : Int32) : EvS rSkel 1 21 [.inr (.inr (some s)), .inl x] sg (fun v t => v = some (.inl (nI g)) ∧ t = up2 (up2 sg (s + 1) g x) s 3 (nI (g + 1))) := by
  refine w_21 sg s hs x ⟨fun q => absurd q (by rw [h]; exact nI_pos (by omega)), fun _ => ⟨fun _ => ?_, fun q => absurd (by rw [h]; exact (nI_ltI (b := 326) (by omega) (by decide)).mpr hg) q⟩⟩
  rw [h, nI_1, show nI (g + 1) - 1 = nI g from nI_pred g, nI_clamp (by omega)]
  exact ⟨rIn_nI hg (by decide), rfl, rfl⟩
theorem c_setPart {s g k : Nat} (hs : isScr s) (sg : rSg) (hg : g < 326) (hk : k < 3) (x : Int32) : EvS rSkel 1 22 [.inr (.inr (some s)), .inl (nI g), .inl (nI k), .inl x] sg (fun v t => v = none ∧ t = up2 sg (s + 2) (3 * g + k) x) := by
  have e : (3 : Int32) * nI g + nI k = nI (3 * g + k) := by rw [show (3 : Int32) = nI 3 from rfl, pk_mul, nI_add]
  refine w_22 sg s hs _ _ x ⟨fun q => absurd q (nI_pos (by omega)), fun _ => ⟨fun q => absurd ((nI_leI (a := 326) (by decide) (by omega)).mp q) (by omega), fun _ => ⟨fun q => absurd q (nI_pos (by omega)), fun _ => ⟨fun q => absurd ((nI_leI (a := 3) (by decide) (by omega)).mp q) (by omega), fun _ => ?_⟩⟩⟩⟩
  rw [e, nI_clamp (by omega)]
  exact ⟨rIn_nI (by omega) (by decide), rfl, rfl⟩
theorem c_with {s : rSg} (h : cTold s) {x a : Nat} (hx : x < 6) (ha : a < 10) {P : Option rv → rSg → Prop} (k : ∀ t : rSg, (∀ q, q < 230 ∨ 453 < q → t q = s q) → cQ t 230 0 0 6 1 (fun _ => nI 2) → t 232 0 = 42 → t 232 1 = 61 → t 232 2 = 38 → t 233 3 = nI x → t 233 4 = nI (128 + a) → t 233 6 = nI 1 → t 233 7 = nI 0 → (∀ j, j < 6 → t 237 j = -1) → (∀ j, j < 64 → t 449 j = -1) → P none t) : EvS rSkel 4 97 [.inr (.inr (some 0)), .inl (nI x), .inl (nI a)] s P := by
  refine w_97 s (nI x) (nI a) (c_retell h (fun t t0 t3 t4 t5 t8 tk => ⟨rfl, (c_addGoal scr231 t t3 (by decide) 61).imp ?_⟩))
  rintro _ _ ⟨rfl, rfl⟩
  refine ⟨_, rfl, (c_setPart scr231 _ (g := 1) (k := 0) (by decide) (by decide) (nI x)).imp ?_⟩
  rintro _ _ ⟨rfl, rfl⟩
  refine ⟨rfl, ?_⟩
  rw [show (128 : Int32) + nI a = nI (128 + a) from nI_add 128 a]
  refine (c_setPart scr231 _ (g := 1) (k := 1) (by decide) (by decide) (nI (128 + a))).imp ?_
  rintro _ _ ⟨rfl, rfl⟩
  generalize eA : up2 (up2 (up2 (up2 t (231 + 1) 1 61) 231 3 (nI (1 + 1))) (231 + 2) (3 * 1 + 0) (nI x)) (231 + 2) (3 * 1 + 1) (nI (128 + a)) = A
  have a3 : A 231 3 = nI 2 := by rw [← eA, up2_nk _ _ _ (by decide), up2_nk _ _ _ (by decide), up2_same]
  refine ⟨rfl, (c_addGoal scr231 A a3 (by decide) 38).imp ?_⟩
  rintro _ _ ⟨rfl, rfl⟩
  refine ⟨_, rfl, (c_setPart scr231 _ (g := 2) (k := 0) (by decide) (by decide) (nI 1)).imp ?_⟩
  rintro _ _ ⟨rfl, rfl⟩
  generalize eB : up2 (up2 (up2 A (231 + 1) 2 38) 231 3 (nI (2 + 1))) (231 + 2) (3 * 2 + 0) (nI 1) = B
  have b5 : B 231 5 = nI 0 := by rw [← eB, up2_nk _ _ _ (by decide), up2_nj _ _ _ (by decide), up2_nk _ _ _ (by decide), ← eA, up2_nk _ _ _ (by decide), up2_nk _ _ _ (by decide), up2_nj _ _ _ (by decide), up2_nk _ _ _ (by decide), t5]
  refine ⟨rfl, ?_⟩
  rw [b5]
  refine (c_setPart scr231 B (g := 2) (k := 1) (by decide) (by decide) (nI 0)).imp ?_
  rintro _ _ ⟨rfl, rfl⟩
  refine ⟨rfl, w_25 _ 231 scr231 _ _ ⟨rfl, ?_⟩⟩
  generalize eC : up2 B (231 + 2) (3 * 2 + 1) (nI 0) = C
  generalize eD : up2 (up2 (up2 (up2 C 231 5 (nI 2)) 231 6 (C 231 3)) 231 7 (C 231 4)) 231 8 (C 231 8) = D
  have d0 : ∀ q, q ≠ 231 → D q = C q := fun q h => by rw [← eD, up2_nk _ _ _ h, up2_nk _ _ _ h, up2_nk _ _ _ h, up2_nk _ _ _ h]
  have d5 : D 231 5 = nI 2 := by rw [← eD, up2_nj _ _ _ (by decide), up2_nj _ _ _ (by decide), up2_nj _ _ _ (by decide), up2_same]
  have c0 : ∀ q, q < 231 ∨ 233 < q → C q = t q := fun q h => by rw [← eC, up2_nk _ _ _ (by omega), ← eB, up2_nk _ _ _ (by omega), up2_nk _ _ _ (by omega), up2_nk _ _ _ (by omega), ← eA, up2_nk _ _ _ (by omega), up2_nk _ _ _ (by omega), up2_nk _ _ _ (by omega), up2_nk _ _ _ (by omega)]
  have k2 : ∀ j, C 232 j = if j = 2 then 38 else if j = 1 then 61 else t 232 j := fun j => by
    rw [← eC, up2_nk _ _ _ (by decide), ← eB, up2_nk _ _ _ (by decide), up2_nk _ _ _ (by decide)]
    by_cases h2 : j = 2
    · rw [if_pos h2, h2]; exact up2_same _ _ _ _
    · rw [if_neg h2, up2_nj _ _ _ h2, ← eA, up2_nk _ _ _ (by decide), up2_nk _ _ _ (by decide), up2_nk _ _ _ (by decide)]
      by_cases h1 : j = 1
      · rw [if_pos h1, h1]; exact up2_same _ _ _ _
      · rw [if_neg h1, up2_nj _ _ _ h1]
  have k37 : C 233 7 = nI 0 := by rw [← eC]; exact up2_same _ _ _ _
  have k36 : C 233 6 = nI 1 := by rw [← eC, up2_nj _ _ _ (by decide), ← eB]; exact up2_same _ _ _ _
  have k34 : C 233 4 = nI (128 + a) := by rw [← eC, up2_nj _ _ _ (by decide), ← eB, up2_nj _ _ _ (by decide), up2_nk _ _ _ (by decide), up2_nk _ _ _ (by decide), ← eA]; exact up2_same _ _ _ _
  have k33 : C 233 3 = nI x := by rw [← eC, up2_nj _ _ _ (by decide), ← eB, up2_nj _ _ _ (by decide), up2_nk _ _ _ (by decide), up2_nk _ _ _ (by decide), ← eA, up2_nj _ _ _ (by decide)]; exact up2_same _ _ _ _
  refine c_begun d5 (fun u u0 uq ub un => ⟨rfl, k u (fun q hq => ?_) uq ?_ ?_ ?_ ?_ ?_ ?_ ?_ ub un⟩)
  · rw [u0 q (by omega), d0 q (by omega), c0 q (by omega), t0 q (by omega)]
  · rw [u0 232 (by omega), d0 232 (by decide), k2, if_neg (by decide), if_neg (by decide), tk]
  · rw [u0 232 (by omega), d0 232 (by decide), k2, if_neg (by decide), if_pos rfl]
  · rw [u0 232 (by omega), d0 232 (by decide), k2, if_pos rfl]
  · rw [u0 233 (by omega), d0 233 (by decide), k33]
  · rw [u0 233 (by omega), d0 233 (by decide), k34]
  · rw [u0 233 (by omega), d0 233 (by decide), k36]
  · rw [u0 233 (by omega), d0 233 (by decide), k37]
/-- with '=' ahead: one answer -/
theorem c_left {s : rSg} (h : cTold s) {l : Nat} (hsn : cSn s l) (hl : l + 300 < 2 ^ 31) {x a y2 : Nat} (hx : x < 6) (ha : a < 10) (hy2 : 1 ≤ y2) (hy29 : y2 < 2 ^ 31) {P : Option rv → rSg → Prop} (k : ∀ (t : rSg) (l2 : Nat), (∀ q, (q = 0 ∨ 5 < q) → q < 230 ∨ 453 < q → t q = s q) → cSn t l2 → l2 ≤ l + 66 → t 230 10 = nI 1 → P none t) : EvS rSkel 4 97 [.inr (.inr (some 0)), .inl (nI x), .inl (nI a)] s (fun v t => v = none ∧ EvS rSkel 7 36 [.inr (.inr (some 230)), .inl (nI 120), .inl (nI y2)] t P) := by
  refine c_with h hx ha (fun t t0 tq k0 k1 k2 p3 p4 p6 p7 tb tn => ⟨rfl, w_36 t 230 sea230 _ _ ?_⟩)
  refine cs_and seaA230 tq (by decide) (by decide) (by decide) (g := 2) (x := 1) (y := 0) rfl (by decide) k2 p6 p7 (by decide) (y3 := 0) (by decide) hy2 hy29 (fun u ua uq => ?_)
  have u1 : ∀ q, q < 230 ∨ 453 < q ∨ (230 < q ∧ q < 236) → u q = t q := fun q hq => ua.1 q (by omega)
  refine cs_eq seaA230 uq (by decide) (by decide) (g := 1) (x := x) (a := a) (l := l) (by rfl) (by decide) (by rw [u1 _ (by omega)]; exact k1) (by rw [u1 _ (by omega)]; exact p3) hx (by rw [u1 _ (by omega)]; exact p4) ha (fun j hj => ?_) (fun j h6 hj => ?_) ?_ hl (by decide) (y3 := 1) (by decide) hy2 hy29 (fun w l2 w0 wsn wl wq => ?_)
  · rw [ua.2.1 j hj]; exact tb j hj
  · rw [ua.2.2 j h6]; exact tn j hj
  · exact cSn_ext (by rw [u1 1 (by omega), t0 1 (by omega)]) (by rw [u1 5 (by omega), t0 5 (by omega)]) hsn
  refine cs_star seaA230 wq (by decide) (by decide) (by decide) (g := 0) (by rfl) (by decide) (by rw [w0 _ (by omega) (by omega), u1 _ (by omega)]; exact k0) (by decide) (y3 := 2) (by decide) hy2 hy29 (fun v va vq => ?_)
  refine cs_ans seaA230 vq (by decide) (by decide) (by decide) (y3 := 3) (by decide) hy2 hy29 (fun r f0 f8 f9 f10 f17 _ _ => cs_end seaA230 f8 (k r l2 (fun q h1 h2 => ?_) ?_ wl f10))
  · rw [f0 q (by omega), va.1 q (by omega), w0 q h1 (by omega), u1 q (by omega), t0 q h2]
  · exact cSn_ext (by rw [f0 1 (by omega), va.1 1 (by omega)]) (by rw [f0 5 (by omega), va.1 5 (by omega)]) wsn
/-! the reference -/
theorem m_left {s : rSg} (h11 : s 725 11 = nI 1) (h12 : s 725 12 = nI 2) (h47 : s 725 47 = nI 0) (h29 : s 729 0 = 42) {x a : Nat} (hx : x < 6) (ha : a < 10) {P : Option rv → rSg → Prop} (k : ∀ t : rSg, mKp s t → t 725 21 = nI 1 → t 748 1 = nI 1 → (∃ W : rSg, mSt W 75 ∧ ∀ j, j < 64 → t 743 (64 * 30 + j) = W 736 j) → P none t) : EvS rSkel 16 187 [.inr (.inr (some 725)), .inl (nI x), .inl (nI a)] s P := by
  refine w_187 s (nI x) (nI a) ?_
  rw [show (64 : Int32) + nI a = nI (64 + a) from nI_add 64 a]
  refine (ev_m_goalOf 0 s (t := 1) 61 (nI x) (nI (64 + a)) 0 h11 (by decide)).imp ?_
  rintro _ _ ⟨rfl, rfl⟩
  generalize eA : up2 (up2 (up2 (up2 (up2 s 729 1 61) 730 1 (nI x)) 731 1 (nI (64 + a))) 732 1 0) 725 11 (nI (1 + 1)) = A
  have a47 : A 725 47 = nI 0 := by rw [← eA, up2_nj _ _ _ (by decide), up2_nk _ _ _ (by decide), up2_nk _ _ _ (by decide), up2_nk _ _ _ (by decide), up2_nk _ _ _ (by decide), h47]
  have akp : mKp s A := by
    rw [← eA]
    exact ((((mKp.rfl'.up (by unfold kpt; omega)).up (by unfold kpt; omega)).up (by unfold kpt; omega)).up (by unfold kpt; omega)).up (by unfold kpt; omega)
  refine ⟨_, rfl, ?_⟩
  rw [a47]
  refine (ev_m_goalOf 0 A (t := 2) 38 (nI 1) (nI 0) 0 (by rw [← eA, up2_same]) (by decide)).imp ?_
  rintro _ _ ⟨rfl, rfl⟩
  generalize eB : up2 (up2 (up2 (up2 (up2 A 729 2 38) 730 2 (nI 1)) 731 2 (nI 0)) 732 2 0) 725 11 (nI (2 + 1)) = B
  have bkp : mKp A B := by
    rw [← eB]
    exact ((((mKp.rfl'.up (by unfold kpt; omega)).up (by unfold kpt; omega)).up (by unfold kpt; omega)).up (by unfold kpt; omega)).up (by unfold kpt; omega)
  have b12 : B 725 12 = nI 2 := by rw [← eB, up2_nj _ _ _ (by decide), up2_nk _ _ _ (by decide), up2_nk _ _ _ (by decide), up2_nk _ _ _ (by decide), up2_nk _ _ _ (by decide), ← eA, up2_nj _ _ _ (by decide), up2_nk _ _ _ (by decide), up2_nk _ _ _ (by decide), up2_nk _ _ _ (by decide), up2_nk _ _ _ (by decide), h12]
  have s2 : B 729 2 = 38 := by rw [← eB, up2_nk _ _ _ (by decide), up2_nk _ _ _ (by decide), up2_nk _ _ _ (by decide), up2_nk _ _ _ (by decide), up2_same]
  have s1 : B 729 1 = 61 := by rw [← eB, up2_nk _ _ _ (by decide), up2_nk _ _ _ (by decide), up2_nk _ _ _ (by decide), up2_nk _ _ _ (by decide), up2_nj _ _ _ (by decide), ← eA, up2_nk _ _ _ (by decide), up2_nk _ _ _ (by decide), up2_nk _ _ _ (by decide), up2_nk _ _ _ (by decide), up2_same]
  have s0 : B 729 0 = 42 := by rw [← eB, up2_nk _ _ _ (by decide), up2_nk _ _ _ (by decide), up2_nk _ _ _ (by decide), up2_nk _ _ _ (by decide), up2_nj _ _ _ (by decide), ← eA, up2_nk _ _ _ (by decide), up2_nk _ _ _ (by decide), up2_nk _ _ _ (by decide), up2_nk _ _ _ (by decide), up2_nj _ _ _ (by decide), h29]
  have o2 : B 730 2 = nI 1 := by rw [← eB, up2_nk _ _ _ (by decide), up2_nk _ _ _ (by decide), up2_nk _ _ _ (by decide), up2_same]
  have o1 : B 730 1 = nI x := by rw [← eB, up2_nk _ _ _ (by decide), up2_nk _ _ _ (by decide), up2_nk _ _ _ (by decide), up2_nj _ _ _ (by decide), up2_nk _ _ _ (by decide), ← eA, up2_nk _ _ _ (by decide), up2_nk _ _ _ (by decide), up2_nk _ _ _ (by decide), up2_same]
  have w2 : B 731 2 = nI 0 := by rw [← eB, up2_nk _ _ _ (by decide), up2_nk _ _ _ (by decide), up2_same]
  have w1 : B 731 1 = nI (64 + a) := by rw [← eB, up2_nk _ _ _ (by decide), up2_nk _ _ _ (by decide), up2_nj _ _ _ (by decide), up2_nk _ _ _ (by decide), up2_nk _ _ _ (by decide), ← eA, up2_nk _ _ _ (by decide), up2_nk _ _ _ (by decide), up2_same]
  refine ⟨_, rfl, w_188 B (nI 2) ?_⟩
  refine m_begin1 (n := 2) (nI 2) (up2_same _ _ _ _) (by rw [up2_nj _ _ _ (by decide)]; exact b12) (by decide) (by decide) (fun t tq t1 t2 t3 t4 t5 t6 t7 => ⟨rfl, w_137 t _ ?_⟩)
  have t5' : ∀ q, 725 < q → q < 733 → t q = B q := fun q h1 h2 => by rw [t5 q (by omega) (by omega), up2_nk _ _ _ (by omega)]
  have kpB : mKp B (up2 B 725 21 1) := mKp.rfl'.up (by unfold kpt; omega)
  refine mg_go (z := 1) (by decide) tq.1 tq.2.2.2.1 tq.2.2.2.2.1 (y1 := 120) (y2 := 0) (by decide) (by decide) (ms_and (by decide) tq (by decide) (by decide) (by decide) (g := 2) (l2 := 0) (n := 3) (x := 1) (y := 0) t1 (by decide) t2 (by rw [t5' 729 (by decide) (by decide)]; exact s2) (by rw [t5' 730 (by decide) (by decide)]; exact o2) (by rw [t5' 731 (by decide) (by decide)]; exact w2) t3 (by decide) (by decide) (fun u ua u1 u2 u3 u4 u5 u6 uq => ⟨rfl, ?_⟩))
  have u5' : ∀ q, 725 < q → q < 733 → u q = B q := fun q h1 h2 => by rw [ua.1 q (by omega), t5' q h1 h2]
  refine mg_go (z := 1) (by decide) uq.1 uq.2.2.2.1 uq.2.2.2.2.1 (y2 := 1) (by decide) (by decide) (ms_eq (by decide) uq (by decide) (by decide) (by decide) (g := 1) (l2 := 3) (x := x) (a := a) u3 (by decide) u4 (by rw [u5' 729 (by decide) (by decide)]; exact s1) (by rw [u5' 730 (by decide) (by decide)]; exact o1) hx (by rw [u5' 731 (by decide) (by decide)]; exact w1) ha (fun j hj => by rw [u6 j hj]; exact t6 j hj) (fun v va v1 v2 v3 vq => ⟨rfl, ?_⟩))
  obtain ⟨W, hW, hv3⟩ := v3
  have v5' : ∀ q, 725 < q → q < 733 → v q = B q := fun q h1 h2 => by rw [va.1 q (by omega), u5' q h1 h2]
  refine mg_go (z := 1) (by decide) vq.1 vq.2.2.2.1 vq.2.2.2.2.1 (y2 := 2) (by decide) (by decide) (ms_star (by decide) vq (by decide) (by decide) (by decide) (g := 0) (l2 := 0) (by rw [v1 733 (by decide) (by decide)]; exact u1) (by decide) (by rw [v1 735 (by decide) (by decide)]; exact u2) (by rw [v5' 729 (by decide) (by decide)]; exact s0) (fun w wa w1 w2 w3 wq => ⟨rfl, ?_⟩))
  refine mg_go (z := 1) (by decide) wq.1 wq.2.2.2.1 wq.2.2.2.2.1 (y2 := 3) (by decide) (by decide) (ms_ans (by decide) wq (by decide) (fun r g0 g1 g2 g3 g4 g5 g6 g7 => ⟨rfl, ?_⟩))
  have r21 : r 725 21 = nI 1 := by rw [g1 21 (by decide) (by decide) (by decide) (by decide)]; exact wq.1
  refine mg_end (z := 1) (by decide) r21 g3 g4 ⟨rfl, rfl, k r ?_ r21 g4 ⟨W, hW, fun j hj => ?_⟩⟩
  · exact (((((((akp.trans bkp).trans kpB).trans t4).trans (ua.2.2 rfl)).trans (va.2.2 rfl)).trans (wa.2.2 rfl)).trans (g2 rfl))
  · rw [g7 j hj, w3 j hj]
    exact hv3 j hj
/-- mind, forget: all is as before -/
def mMin (s : rSg) : rSg := up2 (up2 (up2 s 725 54 (s 725 10)) 725 55 (s 725 11)) 725 56 (s 725 12)
theorem mMin_f (s : rSg) : (∀ q, q ≠ 725 → mMin s q = s q) ∧ (∀ j, j < 54 ∨ 56 < j → mMin s 725 j = s 725 j) ∧ mMin s 725 54 = s 725 10 ∧ mMin s 725 55 = s 725 11 ∧ mMin s 725 56 = s 725 12 := by
  refine ⟨fun q h => ?_, fun j h => ?_, ?_, ?_, ?_⟩
  · unfold mMin; rw [up2_nk _ _ _ h, up2_nk _ _ _ h, up2_nk _ _ _ h]
  · unfold mMin; rw [up2_nj _ _ _ (by omega), up2_nj _ _ _ (by omega), up2_nj _ _ _ (by omega)]
  · unfold mMin; rw [up2_nj _ _ _ (by decide), up2_nj _ _ _ (by decide), up2_same]
  · unfold mMin; rw [up2_nj _ _ _ (by decide), up2_same]
  · unfold mMin; rw [up2_same]
theorem m_forget {s t : rSg} (h : mdF s) (hk : mKp (mMin s) t) : mdF (up2 (up2 (up2 (up2 t 725 21 0) 725 10 (t 725 54)) 725 11 (t 725 55)) 725 12 (t 725 56)) := by
  obtain ⟨f0, f1, f54, f55, f56⟩ := mMin_f s
  have kk : ∀ q j, kpt q j → (q ≠ 725 ∨ j < 54 ∨ 56 < j) → t q j = s q j := fun q j hq hj => by
    rw [hk q j hq]
    by_cases e : q = 725
    · subst e; exact f1 j (by omega)
    · rw [f0 q e]
  have k54 : t 725 54 = s 725 10 := by rw [hk 725 54 (by unfold kpt; omega), f54]
  have k55 : t 725 55 = s 725 11 := by rw [hk 725 55 (by unfold kpt; omega), f55]
  have k56 : t 725 56 = s 725 12 := by rw [hk 725 56 (by unfold kpt; omega), f56]
  rw [k54, k55, k56]
  generalize eZ : up2 (up2 (up2 (up2 t 725 21 0) 725 10 (s 725 10)) 725 11 (s 725 11)) 725 12 (s 725 12) = Z
  have z0 : ∀ q, q ≠ 725 → Z q = t q := fun q h => by rw [← eZ, up2_nk _ _ _ h, up2_nk _ _ _ h, up2_nk _ _ _ h, up2_nk _ _ _ h]
  have z1 : ∀ j, 21 < j → Z 725 j = t 725 j := fun j h => by rw [← eZ, up2_nj _ _ _ (by omega), up2_nj _ _ _ (by omega), up2_nj _ _ _ (by omega), up2_nj _ _ _ (by omega)]
  have zz : ∀ q j, kpt q j → (q ≠ 725 ∨ j < 54 ∨ 56 < j) → Z q j = s q j := fun q j hq hj => by
    by_cases e : q = 725
    · subst e; rw [z1 j (by unfold kpt at hq; omega)]; exact kk 725 j hq hj
    · rw [z0 q e]; exact kk q j hq hj
  have z21 : Z 725 21 = 0 := by rw [← eZ, up2_nj _ _ _ (by decide), up2_nj _ _ _ (by decide), up2_nj _ _ _ (by decide), up2_same]
  have z10 : Z 725 10 = s 725 10 := by rw [← eZ, up2_nj _ _ _ (by decide), up2_nj _ _ _ (by decide), up2_same]
  have z11 : Z 725 11 = s 725 11 := by rw [← eZ, up2_nj _ _ _ (by decide), up2_same]
  have z12 : Z 725 12 = s 725 12 := by rw [← eZ, up2_same]
  unfold mdF at *
  obtain ⟨d1, d2, d3, d4, d5, d6, d7, d8, d9, d10, d11, d12, d13, d14, d15, d16, d17, d18, d19, d20, d21, d22, d23, d24⟩ := h
  refine ⟨fun j => ?_, ?_, ?_, ?_, ?_, z21, ?_, ?_, ?_, ?_, ?_, ?_, ?_, ?_, ?_, fun j hj => ?_, by rw [z12]; exact d17, by rw [z11]; exact d18, by rw [z10]; exact d19, ?_, ?_, ?_, ?_, ?_⟩
  · rw [zz 726 j (by unfold kpt; omega) (by omega)]; exact d1 j
  · rw [zz _ _ (by unfold kpt; omega) (by omega)]; exact d2
  · rw [zz _ _ (by unfold kpt; omega) (by omega)]; exact d3
  · rw [zz _ _ (by unfold kpt; omega) (by omega)]; exact d4
  · rw [zz _ _ (by unfold kpt; omega) (by omega)]; exact d5
  · rw [zz _ _ (by unfold kpt; omega) (by omega)]; exact d7
  · rw [zz _ _ (by unfold kpt; omega) (by omega)]; exact d8
  · rw [zz _ _ (by unfold kpt; omega) (by omega)]; exact d9
  · rw [zz _ _ (by unfold kpt; omega) (by omega)]; exact d10
  · rw [zz _ _ (by unfold kpt; omega) (by omega)]; exact d11
  · rw [zz _ _ (by unfold kpt; omega) (by omega)]; exact d12
  · rw [zz _ _ (by unfold kpt; omega) (by omega)]; exact d13
  · rw [zz _ _ (by unfold kpt; omega) (by omega)]; exact d14
  · rw [zz _ _ (by unfold kpt; omega) (by omega)]; exact d15
  · rw [zz _ _ (by unfold kpt; omega) (by omega)]; exact d16 j hj
  · rw [zz _ _ (by unfold kpt; omega) (by omega)]; exact d20
  · rw [zz _ _ (by unfold kpt; omega) (by omega)]; exact d21
  · rw [zz _ _ (by unfold kpt; omega) (by omega)]; exact d22
  · rw [zz _ _ (by unfold kpt; omega) (by omega)]; exact d23
  · rw [zz _ _ (by unfold kpt; omega) (by omega)]; exact d24
theorem m_minds {s : rSg} (h : mdF s) : mMin s 725 11 = nI 1 ∧ mMin s 725 12 = nI 2 ∧ mMin s 725 47 = nI 0 ∧ mMin s 729 0 = 42 := by
  obtain ⟨f0, f1, _⟩ := mMin_f s
  exact ⟨by rw [f1 11 (by decide)]; exact h.2.2.2.2.2.2.2.2.2.2.2.2.2.2.2.2.2.1, by rw [f1 12 (by decide)]; exact h.2.2.2.2.2.2.2.2.2.2.2.2.2.2.2.2.1, by rw [f1 47 (by decide)]; exact h.2.2.2.2.2.2.2.2.2.2.2.2.2.2.2.2.2.2.2.2.2.1, by rw [f0 729 (by decide)]; exact h.2.2.2.2.2.2.2.2.2.2.2.2.2.2.2.2.2.2.2.2.2.2.1⟩
theorem m_leftBy {s : rSg} (h : mdF s) {x a : Nat} (hx : x < 6) (ha : a < 10) : EvS rSkel 17 186 [.inr (.inr (some 725)), .inl (nI x), .inl (nI a)] s (fun v t => v = some (.inl 1) ∧ mdF t) := by
  obtain ⟨m11, m12, m47, m29⟩ := m_minds h
  refine w_186 s (nI x) (nI a) (w_183 s ⟨rfl, m_left (s := mMin s) m11 m12 m47 m29 hx ha (fun t tk t21 t48 _ => ⟨rfl, w_184 t ⟨rfl, ?_, m_forget h tk⟩⟩)⟩)
  rw [up2_nk _ _ _ (by decide), up2_nk _ _ _ (by decide), up2_nk _ _ _ (by decide), up2_nk _ _ _ (by decide), t48]
  rfl
theorem cSn_of {s : rSg} (h : clF s) : cSn s 0 := ⟨h.2.2.2.1, fun j _ => ⟨0, Nat.le_refl _, h.2.2.2.2.1 j⟩⟩
theorem o_left {s : rSg} (hc : clF s) (hm : mdF s) (a b : Int32) : opI s 96 185 [.inl a, .inl b] := by
  rcases named_01 a with h0 | ⟨h1, x, hx, rfl⟩
  · refine op2 hm (d := 8) (d2 := 18) (r := -1) (by decide) (by decide) (w_96 s a b ((c_named s a).imp ?_)) (fun s2 h => w_185 s2 a b ((m_named s2 a).imp ?_))
    · rintro _ _ ⟨rfl, rfl⟩
      exact ⟨_, rfl, fun q => absurd h0 q, fun _ => c_ref fr.rfl' (-1)⟩
    · rintro _ _ ⟨rfl, rfl⟩
      exact ⟨_, rfl, fun q => absurd h0 q, fun _ => m_ref (by decide) _⟩
  · have n1 : ¬ named (nI x) = 0 := by rw [h1]; decide
    by_cases b0 : 0 ≤ b
    · by_cases b10 : b < 10
      · obtain ⟨n, hn, rfl⟩ := nn_of (x := b) (Int32.not_lt.mpr b0)
        have n10 : n < 10 := (nI_ltI (b := 10) hn (by decide)).mp b10
        refine op2 hm (d := 8) (d2 := 18) (r := 1) (by decide) (by decide) (w_96 s (nI x) (nI n) ((c_named s (nI x)).imp ?_)) (fun s2 h => w_185 s2 (nI x) (nI n) ((m_named s2 (nI x)).imp ?_))
        · rintro _ s ⟨rfl, rfl⟩
          refine ⟨_, rfl, fun _ => ⟨fun _ => ⟨fun _ => ?_, fun q => absurd b10 q⟩, fun q => absurd b0 q⟩, fun q => absurd n1 q⟩
          refine (c_left (cTold_of hc) (cSn_of hc) (by decide) (x := x) (a := n) (y2 := 30) hx n10 (by decide) (by decide) (fun t l2 t0 _ _ t10 => ?_))
          exact ⟨rfl, by rw [t10]; rfl, fun q hq => t0 q (by omega) (by omega)⟩
        · rintro _ s2 ⟨rfl, rfl⟩
          refine ⟨_, rfl, fun _ => (ev_m_bound 0 s2 (nI n) 0 9).imp ?_, fun q => absurd n1 q⟩
          rintro _ s2 ⟨rfl, rfl⟩
          have e9 : nI n ≤ (9 : Int32) := (nI_leI (b := 9) hn (by decide)).mpr (by omega)
          rw [if_pos b0, if_pos e9]
          refine ⟨_, rfl, fun _ => (m_leftBy h hx n10).imp ?_, fun q => absurd rfl q⟩
          rintro _ t ⟨rfl, _⟩
          exact ⟨_, rfl, rfl⟩
      · refine op2 hm (d := 8) (d2 := 18) (r := -6) (by decide) (by decide) (w_96 s (nI x) b ((c_named s (nI x)).imp ?_)) (fun s2 h => w_185 s2 (nI x) b ((m_named s2 (nI x)).imp ?_))
        · rintro _ _ ⟨rfl, rfl⟩
          exact ⟨_, rfl, fun _ => ⟨fun _ => ⟨fun q => absurd q b10, fun _ => c_ref fr.rfl' (-6)⟩, fun q => absurd b0 q⟩, fun q => absurd n1 q⟩
        · rintro _ s2 ⟨rfl, rfl⟩
          refine ⟨_, rfl, fun _ => (ev_m_bound 0 s2 b 0 9).imp ?_, fun q => absurd n1 q⟩
          rintro _ s2 ⟨rfl, rfl⟩
          have e9 : ¬ b ≤ (9 : Int32) := by
            obtain ⟨n, hn, rfl⟩ := nn_of (x := b) (Int32.not_lt.mpr b0)
            intro q
            exact b10 ((nI_ltI (b := 10) hn (by decide)).mpr (by have := (nI_leI (b := 9) hn (by decide)).mp q; omega))
          rw [if_pos b0, if_neg e9]
          exact ⟨_, rfl, fun q => absurd q (by decide), fun _ => m_ref (by decide) _⟩
    · refine op2 hm (d := 8) (d2 := 18) (r := -4) (by decide) (by decide) (w_96 s (nI x) b ((c_named s (nI x)).imp ?_)) (fun s2 h => w_185 s2 (nI x) b ((m_named s2 (nI x)).imp ?_))
      · rintro _ _ ⟨rfl, rfl⟩
        exact ⟨_, rfl, fun _ => ⟨fun q => absurd q b0, fun _ => c_ref fr.rfl' (-4)⟩, fun q => absurd n1 q⟩
      · rintro _ s2 ⟨rfl, rfl⟩
        refine ⟨_, rfl, fun _ => (ev_m_bound 0 s2 b 0 9).imp ?_, fun q => absurd n1 q⟩
        rintro _ s2 ⟨rfl, rfl⟩
        rw [if_neg b0]
        exact ⟨_, rfl, fun q => absurd q (by decide), fun _ => m_ref (by decide) _⟩
theorem o_least {s : rSg} (hc : clF s) (hm : mdF s) (a : Int32) : opI s 98 189 [.inl a] := by
  rcases named_01 a with h0 | ⟨h1, x, hx, rfl⟩
  · refine op2 hm (d := 8) (d2 := 18) (r := -1) (by decide) (by decide) (w_98 s a ((c_named s a).imp ?_)) (fun s2 h => w_189 s2 a ((m_named s2 a).imp ?_))
    · rintro _ _ ⟨rfl, rfl⟩
      exact ⟨_, rfl, fun q => absurd h0 q, fun _ => c_ref fr.rfl' (-1)⟩
    · rintro _ _ ⟨rfl, rfl⟩
      exact ⟨_, rfl, fun q => absurd h0 q, fun _ => m_ref (by decide) _⟩
  · have n1 : ¬ named (nI x) = 0 := by rw [h1]; decide
    refine op2 hm (d := 8) (d2 := 18) (r := 0) (by decide) (by decide) (w_98 s (nI x) ((c_named s (nI x)).imp ?_)) (fun s2 h => w_189 s2 (nI x) ((m_named s2 (nI x)).imp ?_))
    · rintro _ s ⟨rfl, rfl⟩
      refine ⟨_, rfl, fun _ => w_98_15 s (nI x) 0 ⟨fun q => absurd q (by decide), fun _ => ?_⟩, fun q => absurd n1 q⟩
      refine (c_left (cTold_of hc) (cSn_of hc) (by decide) (x := x) (a := 0) (y2 := 1) hx (by decide) (by decide) (by decide) (fun t l2 t0 _ _ t10 => ?_))
      exact ⟨rfl, fun q => absurd q (by rw [t10]; decide), fun _ => ⟨rfl, fun q hq => t0 q (by omega) (by omega)⟩⟩
    · rintro _ s2 ⟨rfl, rfl⟩
      refine ⟨_, rfl, fun _ => w_189_15 s2 (nI x) 0 ⟨fun q => absurd q (by decide), fun _ => (m_leftBy h hx (a := 0) (by decide)).imp ?_⟩, fun q => absurd n1 q⟩
      rintro _ t ⟨rfl, _⟩
      exact ⟨_, rfl, fun q => absurd q (by decide), fun _ => rfl⟩
