/-! THE REFERENCE: links to the abstract search; KEPT ones looked at, exactly -/
def mTab (tb : Tb) (R : Nat → Nat → Prop) (s : rSg) (T G : Nat) : Prop := ∀ g q, R g q → g < G ∧ s 729 g = nI (tb q).1 ∧
  ((((tb q).1 = 61 ∨ (tb q).1 = 35 ∨ (tb q).1 = 77) ∧ ∃ x y, s 730 g = nI x ∧ s 731 g = nI y ∧ (x < T ∧ y < T) ∧ tdm s T x (tb1 tb q) ∧ tdm s T y (tb2 tb q)) ∨
   ((tb q).1 = 65 ∧ ∃ x y z, s 730 g = nI x ∧ s 731 g = nI y ∧ s 732 g = nI z ∧ (x < T ∧ y < T ∧ z < T) ∧ tdm s T x (tb1 tb q) ∧ tdm s T y (tb2 tb q) ∧ tdm s T z (tb3 tb q)) ∨
   (((tb q).1 = 38 ∨ (tb q).1 = 124) ∧ ∃ x y, s 730 g = nI x ∧ s 731 g = nI y ∧ (x < g ∧ y < g) ∧ R x (tbA tb q) ∧ R y (tbB tb q)) ∨ (tb q).1 = 42 ∨ (tb q).1 = 33)
def mIt (R : Nat → Nat → Prop) (s : rSg) (T G g : Nat) (it : It) : Prop := (∃ q, R g q ∧ it = .inl q) ∨ (g < G ∧ s 729 g = nI 65 ∧ ∃ x y z fx fy fz, s 730 g = nI x ∧ s 731 g = nI y ∧ s 732 g = nI z ∧ (x < T ∧ y < T ∧ z < T) ∧ tdm s T x fx ∧ tdm s T y fy ∧ tdm s T z fz ∧ it = .inr (true, fx, fy, fz)) ∨ (g < G ∧ s 729 g = nI 77 ∧ ∃ x y fx fy, s 730 g = nI x ∧ s 731 g = nI y ∧ (x < T ∧ y < T) ∧ tdm s T x fx ∧ tdm s T y fy ∧ it = .inr (false, fx, fy, atm 10))
def mIts (R : Nat → Nat → Prop) (s : rSg) (T G : Nat) : List Nat → List It → Prop
  | [], [] => True
  | g :: gs, it :: its => mIt R s T G g it ∧ mIts R s T G gs its
  | _, _ => False
def mK2 (tb : Tb) (s : rSg) (T : Nat) : List (Nat × Nat) → List Nat → Prop
  | [], [] => True
  | p :: ps, g :: gs => (tdm s T p.1 (tb1 tb g) ∧ tdm s T p.2 (tb2 tb g)) ∧ mK2 tb s T ps gs
  | _, _ => False
theorem hx.t {T G L : Nat} {s t : rSg} (e : hx T G L s t) {T2 a : Nat} {f : Tf} (hT : T ≤ T2) (h : tdm s T a f) : tdm t T2 a f := tdm_ext hT e.1 h
theorem mTab_ext {tb : Tb} {R : Nat → Nat → Prop} {s t : rSg} {T G L T2 G2 : Nat} (e : hx T G L s t) (hT : T ≤ T2) (hG : G ≤ G2) (h : mTab tb R s T G) : mTab tb R t T2 G2 := by
  intro g q hr
  obtain ⟨h1, h2, h3⟩ := h g q hr
  have eg := e.2.1 g h1
  refine ⟨by omega, by rw [eg.1]; exact h2, ?_⟩
  rw [eg.2.1, eg.2.2.1, eg.2.2.2]
  rcases h3 with ⟨k, x, y, p1, p2, p3, p4, p5⟩ | ⟨k, x, y, z, p1, p2, p3, p4, p5, p6, p7⟩ | ⟨k, x, y, p1, p2, p3, p4, p5⟩ | k
  · exact Or.inl ⟨k, x, y, p1, p2, by omega, e.t hT p4, e.t hT p5⟩
  · exact Or.inr (Or.inl ⟨k, x, y, z, p1, p2, p3, by omega, e.t hT p5, e.t hT p6, e.t hT p7⟩)
  · exact Or.inr (Or.inr (Or.inl ⟨k, x, y, p1, p2, p3, p4, p5⟩))
  · exact Or.inr (Or.inr (Or.inr k))
theorem mIt_ext {R : Nat → Nat → Prop} {s t : rSg} {T G L T2 G2 g : Nat} {it : It} (e : hx T G L s t) (hT : T ≤ T2) (hG : G ≤ G2) (h : mIt R s T G g it) : mIt R t T2 G2 g it := by
  rcases h with h | ⟨h1, h2, x, y, z, fx, fy, fz, p1, p2, p3, p4, p5, p6, p7, p8⟩ | ⟨h1, h2, x, y, fx, fy, p1, p2, p4, p5, p6, p8⟩
  · exact Or.inl h
  · have eg := e.2.1 g h1
    exact Or.inr (Or.inl ⟨by omega, by rw [eg.1]; exact h2, x, y, z, fx, fy, fz, by rw [eg.2.1]; exact p1, by rw [eg.2.2.1]; exact p2, by rw [eg.2.2.2]; exact p3, by omega, e.t hT p5, e.t hT p6, e.t hT p7, p8⟩)
  · have eg := e.2.1 g h1
    exact Or.inr (Or.inr ⟨by omega, by rw [eg.1]; exact h2, x, y, fx, fy, by rw [eg.2.1]; exact p1, by rw [eg.2.2.1]; exact p2, by omega, e.t hT p5, e.t hT p6, p8⟩)
theorem mIts_ext {R : Nat → Nat → Prop} {s t : rSg} {T G L T2 G2 : Nat} (e : hx T G L s t) (hT : T ≤ T2) (hG : G ≤ G2) : ∀ {gs : List Nat} {its : List It}, mIts R s T G gs its → mIts R t T2 G2 gs its
  | [], [], _ => trivial
  | g :: gs, it :: its, h => ⟨mIt_ext e hT hG h.1, mIts_ext e hT hG h.2⟩
  | [], _ :: _, h => h.elim
  | _ :: _, [], h => h.elim
theorem mK2_ext {tb : Tb} {s t : rSg} {T G L T2 : Nat} (e : hx T G L s t) (hT : T ≤ T2) : ∀ {ps : List (Nat × Nat)} {gs : List Nat}, mK2 tb s T ps gs → mK2 tb t T2 ps gs
  | [], [], _ => trivial
  | p :: ps, g :: gs, h => ⟨⟨e.t hT h.1.1, e.t hT h.1.2⟩, mK2_ext e hT h.2⟩
  | [], _ :: _, h => h.elim
  | _ :: _, [], h => h.elim
theorem mK2_len {tb : Tb} {s : rSg} {T : Nat} : ∀ {ps : List (Nat × Nat)} {gs : List Nat}, mK2 tb s T ps gs → ps.length = gs.length
  | [], [], _ => rfl
  | p :: ps, g :: gs, h => by simp [mK2_len h.2]
  | [], _ :: _, h => h.elim
  | _ :: _, [], h => h.elim
theorem mIts_len {R : Nat → Nat → Prop} {s : rSg} {T G : Nat} : ∀ {gs : List Nat} {its : List It}, mIts R s T G gs its → gs.length = its.length
  | [], [], _ => rfl
  | g :: gs, it :: its, h => by simp [mIts_len h.2]
  | [], _ :: _, h => h.elim
  | _ :: _, [], h => h.elim
/-- a test for what can still be the same -/
def satB (tb : Tb) (K : Kx) (p : Nat → Bool) : Prop := ∀ g, p g = true ↔ sax (uni K (tb1 tb g) (tb2 tb g))
theorem satB_ex (tb : Tb) (K : Kx) : ∃ p, satB tb K p := by
  classical
  exact ⟨fun g => decide (sax (uni K (tb1 tb g) (tb2 tb g))), fun g => by simp⟩
theorem flt_filter {tb : Tb} {K : Kx} {p : Nat → Bool} (hp : satB tb K p) : ∀ (gs : List Nat), flt tb K gs (gs.filter p)
  | [] => rfl
  | g :: gs => by
    have ih := flt_filter hp gs
    cases h : p g with
    | true => exact Or.inl ⟨(hp g).mp h, gs.filter p, by rw [List.filter_cons, if_pos h], ih⟩
    | false =>
      refine Or.inr ⟨fun q => (by rw [(hp g).mpr q] at h; cases h), ?_⟩
      rw [List.filter_cons, if_neg (by rw [h]; decide)]
      exact ih
/-- what is so when kept ones have been looked at -/
def afX (tb : Tb) (K : Kx) (s0 : rSg) (T G L0 N : Nat) (ids : List Nat) (t : rSg) : Prop := ∃ L k ks, hp t T G L ∧ L0 ≤ L ∧ L ≤ N ∧ cB t T ∧ hx T G L0 s0 t ∧ mK [733, 734, 735, 736, 737, 738] [12, 16, 17, 19] s0 t ∧ t 725 19 = nI k ∧ kel t T L k ks ∧ mKv t T K ∧ mK2 tb t T ks ids
theorem fs_157b {tb : Tb} {K : Kx} {p : Nat → Bool} (hpb : satB tb K p) {T G L0 N : Nat} {s0 : rSg} {P : Option rv → rSg → Prop} (hN : N ≤ 18000) : ∀ (ks : List (Nat × Nat)) (is js : List Nat) (l k1 : Nat) (k1s : List (Nat × Nat)) (L : Nat) (t : rSg), (∀ t, afX tb K s0 T G L0 N (List.reverseAux (is.filter p) js) t → P none t) → hp t T G L → cB t T → L0 ≤ L → L + ks.length ≤ N → hx T G L0 s0 t → mK [733, 734, 735, 736, 737, 738] [12, 16, 17, 19] s0 t → kel t T L l ks → kel t T L k1 k1s → mKv t T K → mK2 tb t T ks is → mK2 tb t T k1s js → ¬ kSame tb K is → g_157_7 (nI k1) (nI l) t P := by
  intro ks
  induction ks with
  | nil =>
    intro is js l k1 k1s L t hP hh hc h0 hl he hk h1 h2 hK m1 m2 hns
    obtain rfl : l = 0 := h1
    cases is with
    | cons _ _ => exact m1.elim
    | nil =>
      have e0 : ∀ {T G L : Nat}, hx T G L t (up2 t 725 19 (nI k1)) := hx.of (fun k a b => up2_nk _ _ _ (by omega))
      refine w_157_7 t _ _ ⟨fun _ => hP _ ⟨L, k1, k1s, ?_, h0, by simpa using hl, ?_, ?_, hk.upF (by simp), up2_same _ _ _ _, kel_ext (Nat.le_refl _) (Nat.le_refl _) (fun j _ => ?_) h2, mKv_ag (fun c _ => by rw [mV_ext (up2_nk _ _ _ (by decide)) (up2_nk _ _ _ (by decide)) (up2_nk _ _ _ (by decide))]) hK, mK2_ext (e0 (T := T) (G := G) (L := L)) (Nat.le_refl _) m2⟩, fun q => absurd (by decide) q⟩
      · exact hh.keep e0 ⟨up2_nj _ _ _ (by decide), up2_nj _ _ _ (by decide), up2_nj _ _ _ (by decide)⟩
      · exact hc.ext (up2_nk _ _ _ (by decide)) (up2_nk _ _ _ (by decide)) (up2_nk _ _ _ (by decide)) (up2_nj _ _ _ (by decide))
      · exact he.trans (e0 (T := T) (G := G) (L := L0)) (Nat.le_refl _) (Nat.le_refl _) (Nat.le_refl _)
      · rw [up2_nk _ _ _ (by decide), up2_nk _ _ _ (by decide), up2_nk _ _ _ (by decide)]; exact ⟨rfl, rfl, rfl⟩
  | cons c ks ih =>
    intro is js l k1 k1s L t hP hh hc h0 hl he hk h1 h2 hK m1 m2 hns
    cases is with
    | nil => exact m1.elim
    | cons id is =>
      obtain ⟨g1, g2, g3, g4, g5, g6, r, g7, g8, g9⟩ := h1
      have b1 := hh.1
      have hr : rIn (nI l) 20000 = true := rIn_nI (by omega) (by decide)
      simp only [List.length_cons] at hl
      refine w_157_7 t _ _ ⟨fun q => absurd ((nI_leI (b := 0) (by omega) (by decide)).mp q) (by omega), fun _ => (fs_155 hh hc hK g2 g3 g4 g5 g6 m1.1.1 m1.1.2).imp ?_⟩
      rintro _ u ⟨x, rfl, k1', k2, k3, hx3⟩
      have hu : hp u T G L := k2.hp hh
      have eu := k2.hx (T := T) (G := G) (L := L)
      have ku : mK [733, 734, 735, 736, 737, 738] [12, 16, 17, 19] s0 u := hk.trans (k2.K.mono (by simp) (by simp))
      have xu : hx T G L0 s0 u := he.trans eu (Nat.le_refl _) (Nat.le_refl _) h0
      have q9 : kel u T L r ks := kel_ext (Nat.le_refl _) (Nat.le_refl _) (fun j hj => eu.2.2 j hj) g9
      have q2 : kel u T L k1 k1s := kel_ext (Nat.le_refl _) (Nat.le_refl _) (fun j hj => eu.2.2 j hj) h2
      have n1 : mK2 tb u T ks is := mK2_ext eu (Nat.le_refl _) m1.2
      have n2 : mK2 tb u T k1s js := mK2_ext eu (Nat.le_refl _) m2
      have e7 := eu.2.2 l g2
      have hn2 : ¬ kSame tb K is := fun ⟨g, z1, z2⟩ => hns ⟨g, List.mem_cons_of_mem _ z1, z2⟩
      rw [nI_clamp (by omega)]
      -- the kept one can still be the same, or it was the same (then all say so), or not
      refine ⟨x, rfl, fun hx1 => ⟨hr, ?_⟩, fun hx1 => ⟨hr, hr, ?_⟩⟩
      · rw [e7.2.2, g7]
        rcases hx3 with ⟨rfl, hs⟩ | ⟨rfl, _⟩ | ⟨rfl, hs, _⟩
        · exact absurd ⟨id, List.mem_cons_self, hs⟩ hns
        · exact absurd rfl hx1
        · refine ih is js r k1 k1s L u ?_ hu k1' h0 (by omega) xu ku q9 q2 k3 n1 n2 hn2
          have : p id = false := by
            cases h : p id with
            | false => rfl
            | true => exact absurd ((hpb id).mp h) hs
          rw [List.filter_cons, if_neg (by rw [this]; decide)] at hP
          exact hP
      · have hx1 := Classical.not_not.mp hx1
        have hs : sax (uni K (tb1 tb id) (tb2 tb id)) := by
          rcases hx3 with ⟨h, _⟩ | ⟨_, h, _⟩ | ⟨h, _⟩
          · rw [h] at hx1; exact absurd hx1 (by decide)
          · exact h
          · rw [h] at hx1; exact absurd hx1 (by decide)
        rw [e7.1, e7.2.1, g3, g4]
        refine (ms_123 hu (by omega) (nI c.1) (nI c.2) (nI k1)).imp ?_
        rintro _ w ⟨rfl, w1, w2, w3, w4, w5, w6⟩
        refine ⟨_, rfl, hr, ?_⟩
        rw [(w2.2.2 l g2).2.2, e7.2.2, g7]
        refine ih is (id :: js) r L (c :: k1s) (L + 1) w ?_ w1 (k1'.ext (w3.1 727 (by decide) (by simp)) (w3.1 728 (by decide) (by simp)) (w3.1 736 (by decide) (by simp)) (w3.2 16 (by simp))) (by omega) (by omega) (xu.trans w2 (Nat.le_refl _) (Nat.le_refl _) h0) (ku.trans (w3.mono (by simp) (by simp))) (kel_ext (Nat.le_refl _) (by omega) (fun j hj => w2.2.2 j hj) q9) ⟨by omega, by omega, w4, w5, g5, g6, k1, w6, kel_lt (by omega) q2, kel_ext (Nat.le_refl _) (by omega) (fun j hj => w2.2.2 j hj) q2⟩ (mKv_ag (fun c _ => by rw [mV_ext (w3.1 727 (by decide) (by simp)) (w3.1 728 (by decide) (by simp)) (w3.1 736 (by decide) (by simp))]) k3) (mK2_ext w2 (Nat.le_refl _) n1) ⟨⟨w2.t (Nat.le_refl _) (eu.t (Nat.le_refl _) m1.1.1), w2.t (Nat.le_refl _) (eu.t (Nat.le_refl _) m1.1.2)⟩, mK2_ext w2 (Nat.le_refl _) n2⟩ hn2
        rw [List.filter_cons, if_pos ((hpb id).mpr hs)] at hP
        exact hP
theorem fs_157 {tb : Tb} {K : Kx} {p : Nat → Bool} (hpb : satB tb K p) {s : rSg} {T G L k : Nat} {ks : List (Nat × Nat)} {is : List Nat} (hh : hp s T G L) (hc : cB s T) (h19 : s 725 19 = nI k) (hk : kel s T L k ks) (hL : L + ks.length ≤ 18000) (hK : mKv s T K) (m1 : mK2 tb s T ks is) (hns : ¬ kSame tb K is) : EvS rSkel 8 157 [.inr (.inr (some 725))] s (fun v t => v = none ∧ afX tb K s T G L (L + ks.length) (List.reverseAux (is.filter p) []) t) := by
  refine w_157 s ?_
  rw [h19]
  exact fs_157b hpb hL ks is [] k 0 [] L s (fun t h => ⟨rfl, h⟩) hh hc (Nat.le_refl _) (Nat.le_refl _) hx.rfl' mK.rfl' hk rfl hK m1 trivial hns
/-- looks: whether no kept one is the same; then those that can't be are out -/
theorem fs_154b {tb : Tb} {K : Kx} {p : Nat → Bool} (hpb : satB tb K p) {T G L k : Nat} {s0 : rSg} {kf : List (Nat × Nat)} {isf : List Nat} {P : Option rv → rSg → Prop} (hN : L + kf.length ≤ 18000) (hP0 : kSame tb K isf → ∀ t, cB t T → mfb s0 t → P (some (.inl 0)) t) (hP1 : ¬ kSame tb K isf → ∀ t ids, ids.Perm (isf.filter p) → afX tb K s0 T G L (L + kf.length) ids t → P (some (.inl 1)) t) : ∀ (ks : List (Nat × Nat)) (is : List Nat) (l : Nat) (y : Int32) (t : rSg), hp t T G L → cB t T → mfb s0 t → t 725 19 = nI k → kel t T L k kf → kel t T L l ks → mKv t T K → mK2 tb t T kf isf → mK2 tb t T ks is → (∀ g ∈ isf, g ∈ is ∨ (¬ (∀ r, K r → tb1 tb g r = tb2 tb g r) ∧ (p g = false → ¬ y = 0))) → (∀ g ∈ is, g ∈ isf) → (y = 0 ∨ y = 1) → g_154_7 y (nI l) t P := by
  intro ks
  induction ks with
  | nil =>
    intro is l y t hh hc hf h19 hk h1 hK m1 m2 hall hsub hy
    obtain rfl : l = 0 := h1
    cases is with
    | cons _ _ => exact m2.elim
    | nil =>
      have hns : ¬ kSame tb K isf := by
        rintro ⟨g, z1, z2⟩
        rcases hall g z1 with q | q
        · cases q
        · exact q.1 z2
      refine w_154_7 t _ _ ⟨fun _ => ⟨fun q => hP1 hns _ isf ?_ ⟨L, k, kf, hh, Nat.le_refl _, by omega, hc, hf.hx, hf.K.mono (by simp) (by simp), h19, hk, hK, m1⟩, fun _ => (fs_157 hpb hh hc h19 hk hN hK m1 hns).imp ?_⟩, fun q => absurd (by decide) q⟩
      · have : isf.filter p = isf := List.filter_eq_self.mpr (fun g hg => by
          rcases hall g hg with z | z
          · cases z
          · cases h : p g with
            | true => rfl
            | false => exact absurd q (z.2 h))
        rw [this]
      · rintro _ u ⟨rfl, L2, k2, ks2, a1, a2, a3, a4, a5, a6, a7, a8, a9, a10⟩
        refine ⟨rfl, hP1 hns _ _ ?_ ⟨L2, k2, ks2, a1, a2, a3, a4, (hf.hx (T := T) (G := G) (L := L)).trans a5 (Nat.le_refl _) (Nat.le_refl _) (Nat.le_refl _), (hf.K.mono (by simp) (by simp)).trans a6, a7, a8, a9, a10⟩⟩
        rw [List.reverseAux_eq, List.append_nil]
        exact List.reverse_perm _
  | cons c ks ih =>
    intro is l y t hh hc hf h19 hk h1 hK m1 m2 hall hsub hy
    cases is with
    | nil => exact m2.elim
    | cons id is =>
      obtain ⟨g1, g2, g3, g4, g5, g6, r, g7, g8, g9⟩ := h1
      have b1 := hh.1
      have hr : rIn (nI l) 20000 = true := rIn_nI (by omega) (by decide)
      refine w_154_7 t _ _ ⟨fun q => absurd ((nI_leI (b := 0) (by omega) (by decide)).mp q) (by omega), fun _ => (fs_155 hh hc hK g2 g3 g4 g5 g6 m2.1.1 m2.1.2).imp ?_⟩
      rintro _ u ⟨x, rfl, k1, k2, k3, hx3⟩
      have eu := k2.hx (T := T) (G := G) (L := L)
      have ku : kel u T L k kf := kel_ext (Nat.le_refl _) (Nat.le_refl _) (fun j hj => eu.2.2 j hj) hk
      have u19 : u 725 19 = nI k := by rw [k2.2 19 (by decide) (by decide)]; exact h19
      have nx : ∀ y2 : Int32, (y2 = 0 ∨ y2 = 1) → (¬ y = 0 → ¬ y2 = 0) → ¬ (∀ r, K r → tb1 tb id r = tb2 tb id r) → (p id = false → ¬ y2 = 0) → g_154_7 y2 (u 735 (nI l).toNatClampNeg) u P := fun y2 hy2 hyy hn1 hn2 => by
        rw [nI_clamp (by omega), (eu.2.2 l g2).2.2, g7]
        refine ih is r y2 u (k2.hp hh) k1 (hf.trans k2) u19 ku (kel_ext (Nat.le_refl _) (Nat.le_refl _) (fun j hj => eu.2.2 j hj) g9) k3 (mK2_ext eu (Nat.le_refl _) m1) (mK2_ext eu (Nat.le_refl _) m2.2) (fun g hg => ?_) (fun g hg => hsub g (List.mem_cons_of_mem _ hg)) hy2
        rcases hall g hg with q | q
        · rcases List.mem_cons.mp q with rfl | q
          · exact Or.inr ⟨hn1, hn2⟩
          · exact Or.inl q
        · exact Or.inr ⟨q.1, fun z => hyy (q.2 z)⟩
      refine ⟨x, rfl, fun h0 => ⟨fun h2 => ⟨hr, nx _ ?_ ?_ ?_ ?_⟩, fun h2 => ⟨hr, nx _ ?_ ?_ ?_ ?_⟩⟩, fun h0 => ?_⟩
      · rcases hy with rfl | rfl
        · exact Or.inl (by decide)
        · exact Or.inr (by decide)
      · rcases hy with rfl | rfl
        · exact fun z => absurd rfl z
        · intro _; decide
      · rcases hx3 with ⟨h, _⟩ | ⟨_, _, h⟩ | ⟨h, _⟩
        · exact absurd h h0
        · exact h
        · exact absurd h h2
      · intro hpf
        rcases hx3 with ⟨h, _⟩ | ⟨_, h, _⟩ | ⟨h, _⟩
        · exact absurd h h0
        · rw [(hpb id).mpr h] at hpf; cases hpf
        · exact absurd h h2
      · rcases hy with rfl | rfl
        · exact Or.inr (by decide)
        · exact Or.inr (by decide)
      · rcases hy with rfl | rfl
        · intro _; decide
        · intro _; decide
      · have h2 := Classical.not_not.mp h2
        rcases hx3 with ⟨h, _⟩ | ⟨h, _⟩ | ⟨_, _, h⟩
        · exact absurd h h0
        · rw [h] at h2; exact absurd h2 (by decide)
        · exact h
      · intro _
        rcases hy with rfl | rfl <;> decide
      · have h0 := Classical.not_not.mp h0
        refine hP0 ?_ u k1 (hf.trans k2)
        rcases hx3 with ⟨_, h⟩ | ⟨h, _⟩ | ⟨h, _⟩
        · exact ⟨id, hsub id List.mem_cons_self, h⟩
        · rw [h] at h0; exact absurd h0 (by decide)
        · rw [h] at h0; exact absurd h0 (by decide)
theorem fs_154 {tb : Tb} {K : Kx} {p : Nat → Bool} (hpb : satB tb K p) {s : rSg} {T G L k : Nat} {ks : List (Nat × Nat)} {is : List Nat} (hh : hp s T G L) (hc : cB s T) (h19 : s 725 19 = nI k) (hk : kel s T L k ks) (hL : L + ks.length ≤ 18000) (hK : mKv s T K) (m1 : mK2 tb s T ks is) : EvS rSkel 9 154 [.inr (.inr (some 725))] s (fun v t => ∃ x : Int32, v = some (.inl x) ∧ ((x = 0 ∧ kSame tb K is ∧ cB t T ∧ mfb s t) ∨ (x = 1 ∧ ¬ kSame tb K is ∧ ∃ ids, ids.Perm (is.filter p) ∧ afX tb K s T G L (L + ks.length) ids t))) := by
  refine w_154 s ?_
  rw [h19]
  exact fs_154b hpb hL (fun h t z1 z2 => ⟨0, rfl, Or.inl ⟨rfl, h, z1, z2⟩⟩) (fun h t ids z1 z2 => ⟨1, rfl, Or.inr ⟨rfl, h, ids, z1, z2⟩⟩) ks is k 0 s hh hc mfb.rfl' h19 hk hk hK m1 m1 (fun g hg => Or.inl hg) (fun g hg => hg) (Or.inl rfl)
