/-! THE REFERENCE: unifies, and the kept ones looked at: they end, and keep the heaps -/
/-- the bindings at hand -/
def cB (s : rSg) (T : Nat) : Prop := mSt s T ∧ evR s ∧ ∃ tr, s 725 16 = nI tr ∧ tr + opens s ≤ 128
theorem cB.ext {s t : rSg} {T : Nat} (h : cB s T) (e1 : t 727 = s 727) (e2 : t 728 = s 728) (e3 : t 736 = s 736) (e4 : t 725 16 = s 725 16) : cB t T := by
  obtain ⟨⟨w, rk, hok⟩, ev, tr, h1, h2⟩ := h
  refine ⟨⟨(mWF_ext e1 e2 e3).mpr w, rk, by rw [mV_ext e1 e2 e3]; exact hok⟩, evR_same e3 ev, tr, by rw [e4]; exact h1, ?_⟩
  unfold opens at h2 ⊢
  rw [e3]
  exact h2
theorem opens_congr {s t : rSg} (h : ∀ j, j < 128 → t 736 j = s 736 j) : opens t = opens s := by
  unfold opens
  refine List.countP_congr (fun j hj => ?_)
  rw [h j (List.mem_range.mp hj)]
theorem cB.same {s t : rSg} {T tr : Nat} (h : mSt s T) (hf : mfb s t) (hb : ∀ j, j < 128 → t 736 j = s 736 j) (ht : t 725 16 = nI tr) (htr : tr + opens s ≤ 128) (he : evR s) : cB t T := by
  obtain ⟨⟨w1, w2, w3, w4⟩, rk, hok⟩ := h
  have e1 : t 727 = s 727 := hf.1 727 (by decide) (by decide) (by decide) (by decide)
  have e2 : t 728 = s 728 := hf.1 728 (by decide) (by decide) (by decide) (by decide)
  refine ⟨⟨⟨w1, w2, by rw [e1, e2]; exact w3, fun i hi => by rw [hb i hi]; exact w4 i hi⟩, rk, by rw [mV_same hf hb]; exact hok⟩, fun j hj => by rw [hb j hj]; exact he j hj, tr, ht, by rw [opens_congr hb]; exact htr⟩
theorem mfb.K {s t : rSg} (h : mfb s t) : mK [736, 737, 738] [16, 17] s t := ⟨fun q g1 g2 => h.1 q (fun e => g2 (by simp [e])) (fun e => g2 (by simp [e])) (fun e => g2 (by simp [e])) g1, fun j g => h.2 j (fun e => g (by simp [e])) (fun e => g (by simp [e]))⟩
theorem mK.hx {ks js : List Nat} {s t : rSg} (h : mK ks js s t) (hk : ∀ k, 727 ≤ k → k ≤ 735 → k ∉ ks) {T G L : Nat} : hx T G L s t := hx.of (fun k h1 h2 => h.1 k (by omega) (hk k h1 h2))
theorem mfb.hx {s t : rSg} (h : mfb s t) {T G L : Nat} : hx T G L s t := hx.of (fun k h1 h2 => h.1 k (by omega) (by omega) (by omega) (by omega))
theorem mfb.hp {s t : rSg} (h : mfb s t) {T G L : Nat} (hh : hp s T G L) : hp t T G L := hh.keep h.hx ⟨h.2 10 (by decide) (by decide), h.2 11 (by decide) (by decide), h.2 12 (by decide) (by decide)⟩
theorem ms_145 {s : rSg} {T a b : Nat} (h : cB s T) (hT9 : T ≤ 1400) (ha : a < 2 * T) (hb : b < 2 * T) (ea : a % 2 = 0) (eb : b % 2 = 0) : EvS rSkel 6 145 [.inr (.inr (some 725)), .inl (nI a), .inl (nI b)] s (fun r t => ∃ x, r = some (.inl x) ∧ (x = 0 ∨ x = 1) ∧ cB t T ∧ mfb s t) := by
  obtain ⟨hst, ev, tr, h1, h2⟩ := h
  refine (m_unifiesE hst hT9 h1 (by omega) ha hb).imp ?_
  rintro _ t ⟨x, bs, rfl, ⟨g1, g2, g3⟩, g4⟩
  refine ⟨x, rfl, ?_, ⟨g1, g4 ⟨ev, ea, eb⟩, _, g2.2.1, ?_⟩, g2.1⟩
  · rcases g3 with g | g
    · exact Or.inr g.1
    · exact Or.inl g.1
  · have := g2.2.2.2.2.2.2
    omega
theorem nI_dbl (x : Nat) : 2 * nI x = nI (2 * x) := by rw [show (2 : Int32) = nI 2 from rfl, pk_mul]
theorem ms_144 {s : rSg} {T a b : Nat} (h : cB s T) (hT9 : T ≤ 1400) (ha : a < T) (hb : b < T) : EvS rSkel 7 144 [.inr (.inr (some 725)), .inl (nI a), .inl (nI b)] s (fun r t => ∃ x, r = some (.inl x) ∧ (x = 0 ∨ x = 1) ∧ cB t T ∧ mfb s t) := by
  refine w_144 s _ _ ?_
  rw [nI_dbl, nI_dbl]
  refine (ms_145 h hT9 (by omega) (by omega) (by omega) (by omega)).imp ?_
  rintro _ t ⟨x, rfl, hx, g⟩
  refine ⟨x, rfl, ?_, x, rfl, hx, g⟩
  rcases hx with rfl | rfl <;> decide
/-- two kept ones looked at: all is as it was -/
theorem ms_155 {s : rSg} {T G L l : Nat} (hh : hp s T G L) (h : cB s T) {a b : Nat} (hl : l < L) (ha : s 733 l = nI a) (hb : s 734 l = nI b) (la : a < T) (lb : b < T) : EvS rSkel 7 155 [.inr (.inr (some 725)), .inl (nI l)] s (fun r t => ∃ x : Int32, r = some (.inl x) ∧ cB t T ∧ mfb s t) := by
  obtain ⟨hst, ev, tr, h1, h2⟩ := h
  have b1 := hh.1
  have hr : rIn (nI l) 20000 = true := rIn_nI (by omega) (by decide)
  refine w_155 s _ ⟨hr, hr, ?_⟩
  rw [nI_clamp (by omega), ha, hb, nI_dbl, nI_dbl, h1]
  refine (m_unifies hst (by omega) h1 (by omega) (by omega) (by omega)).imp ?_
  rintro _ t ⟨x, bs, rfl, g1, g2, g3⟩
  have un : ∀ {P : Option rv → rSg → Prop}, (∀ u, cB u T → mfb s u → P none u) → EvS rSkel 1 156 [.inr (.inr (some 725)), .inl (nI tr)] t P := fun k => by
    refine (mw_undoes (by omega) g2).imp ?_
    rintro _ u ⟨rfl, f1, f2, f3, f4⟩
    exact k u (cB.same hst f1 f4 f2 h2 ev) f1
  refine ⟨x, rfl, fun _ => un (fun u k1 k2 => ⟨rfl, fun _ => ⟨_, rfl, k1, k2⟩, fun _ => ⟨_, rfl, k1, k2⟩⟩), fun _ => ⟨fun _ => un (fun u k1 k2 => ⟨rfl, fun _ => ⟨_, rfl, k1, k2⟩, fun _ => ⟨_, rfl, k1, k2⟩⟩), fun _ => un (fun u k1 k2 => ⟨rfl, _, rfl, k1, k2⟩)⟩⟩
/-- a list more -/
theorem ms_123 {s : rSg} {T G L : Nat} (hh : hp s T G L) (hL : L < 18000) (x y z : Int32) : EvS rSkel 1 123 [.inr (.inr (some 725)), .inl x, .inl y, .inl z] s (fun v t => v = some (.inl (nI L)) ∧ hp t T G (L + 1) ∧ hx T G L s t ∧ mK [733, 734, 735] [12] s t ∧ t 733 L = x ∧ t 734 L = y ∧ t 735 L = z) := by
  refine (ev_m_list 0 s x y z hh.2.1.2.2 (by omega)).imp ?_
  rintro _ _ ⟨rfl, rfl⟩
  have b1 := hh.1
  have k : mK [733, 734, 735] [12] s (up2 (up2 (up2 (up2 s 733 L x) 734 L y) 735 L z) 725 12 (nI (L + 1))) := (((mK.rfl'.up (by simp) (by decide)).up (by simp) (by decide)).up (by simp) (by decide)).upF (by simp)
  have e : hx T G L s (up2 (up2 (up2 (up2 s 733 L x) 734 L y) 735 L z) 725 12 (nI (L + 1))) := by
    refine ⟨fun j _ => ⟨by rw [k.1 727 (by decide) (by simp)], by rw [k.1 728 (by decide) (by simp)]⟩, fun j _ => ⟨by rw [k.1 729 (by decide) (by simp)], by rw [k.1 730 (by decide) (by simp)], by rw [k.1 731 (by decide) (by simp)], by rw [k.1 732 (by decide) (by simp)]⟩, fun j hj => ⟨?_, ?_, ?_⟩⟩
    · rw [up2_nk _ _ _ (by decide), up2_nk _ _ _ (by decide), up2_nk _ _ _ (by decide), up2_nj _ _ _ (by omega)]
    · rw [up2_nk _ _ _ (by decide), up2_nk _ _ _ (by decide), up2_nj _ _ _ (by omega), up2_nk _ _ _ (by decide)]
    · rw [up2_nk _ _ _ (by decide), up2_nj _ _ _ (by omega), up2_nk _ _ _ (by decide), up2_nk _ _ _ (by decide)]
  refine ⟨rfl, ⟨by omega, ⟨by rw [k.2 10 (by simp)]; exact hh.2.1.1, by rw [k.2 11 (by simp)]; exact hh.2.1.2.1, up2_same _ _ _ _⟩, hh.2.2.1.ext e.1, hh.2.2.2.ext e.2.1 (Nat.le_refl _)⟩, e, k, ?_, ?_, ?_⟩
  · rw [up2_nk _ _ _ (by decide), up2_nk _ _ _ (by decide), up2_nk _ _ _ (by decide), up2_same]
  · rw [up2_nk _ _ _ (by decide), up2_nk _ _ _ (by decide), up2_same]
  · rw [up2_nk _ _ _ (by decide), up2_same]
/-- what is so when kept ones have been looked at -/
def afK (s0 : rSg) (T G L0 N M : Nat) (t : rSg) : Prop := ∃ L k ks, hp t T G L ∧ L0 ≤ L ∧ L ≤ N ∧ cB t T ∧ hx T G L0 s0 t ∧ mK [733, 734, 735, 736, 737, 738] [12, 16, 17, 19] s0 t ∧ t 725 19 = nI k ∧ kel t T L k ks ∧ ks.length ≤ M
theorem ms_157b {T G L0 N M : Nat} {s0 : rSg} {P : Option rv → rSg → Prop} (hN : N ≤ 18000) (hP : ∀ t, afK s0 T G L0 N M t → P none t) : ∀ (ks : List (Nat × Nat)) (l k1 : Nat) (k1s : List (Nat × Nat)) (L : Nat) (t : rSg), hp t T G L → cB t T → L0 ≤ L → L + ks.length ≤ N → hx T G L0 s0 t → mK [733, 734, 735, 736, 737, 738] [12, 16, 17, 19] s0 t → kel t T L l ks → kel t T L k1 k1s → k1s.length + ks.length ≤ M → g_157_7 (nI k1) (nI l) t P := by
  intro ks
  induction ks with
  | nil =>
    intro l k1 k1s L t hh hc h0 hl he hk h1 h2 hM
    obtain rfl : l = 0 := h1
    refine w_157_7 t _ _ ⟨fun _ => hP _ ⟨L, k1, k1s, ?_, h0, by simpa using hl, ?_, ?_, hk.upF (by simp), up2_same _ _ _ _, kel_ext (Nat.le_refl _) (Nat.le_refl _) (fun j _ => ?_) h2, by simpa using hM⟩, fun q => absurd (by decide) q⟩
    · exact hh.keep (hx.of (fun k a b => up2_nk _ _ _ (by omega))) ⟨up2_nj _ _ _ (by decide), up2_nj _ _ _ (by decide), up2_nj _ _ _ (by decide)⟩
    · exact hc.ext (up2_nk _ _ _ (by decide)) (up2_nk _ _ _ (by decide)) (up2_nk _ _ _ (by decide)) (up2_nj _ _ _ (by decide))
    · exact he.trans (hx.of (T := T) (G := G) (L := L0) (fun k a b => up2_nk _ _ _ (by omega))) (Nat.le_refl _) (Nat.le_refl _) (Nat.le_refl _)
    · rw [up2_nk _ _ _ (by decide), up2_nk _ _ _ (by decide), up2_nk _ _ _ (by decide)]; exact ⟨rfl, rfl, rfl⟩
  | cons p ks ih =>
    intro l k1 k1s L t hh hc h0 hl he hk h1 h2 hM
    obtain ⟨g1, g2, g3, g4, g5, g6, r, g7, g8, g9⟩ := h1
    have b1 := hh.1
    have hr : rIn (nI l) 20000 = true := rIn_nI (by omega) (by decide)
    simp only [List.length_cons] at hl hM
    refine w_157_7 t _ _ ⟨fun q => absurd ((nI_leI (b := 0) (by omega) (by decide)).mp q) (by omega), fun _ => (ms_155 hh hc g2 g3 g4 g5 g6).imp ?_⟩
    rintro _ u ⟨x, rfl, k1', k2⟩
    have hu : hp u T G L := k2.hp hh
    have eu := k2.hx (T := T) (G := G) (L := L)
    have ku : mK [733, 734, 735, 736, 737, 738] [12, 16, 17, 19] s0 u := hk.trans (k2.K.mono (by simp) (by simp))
    have xu : hx T G L0 s0 u := he.trans eu (Nat.le_refl _) (Nat.le_refl _) h0
    have q9 : kel u T L r ks := kel_ext (Nat.le_refl _) (Nat.le_refl _) (fun j hj => eu.2.2 j hj) g9
    have q2 : kel u T L k1 k1s := kel_ext (Nat.le_refl _) (Nat.le_refl _) (fun j hj => eu.2.2 j hj) h2
    have e7 := eu.2.2 l g2
    rw [nI_clamp (by omega)]
    refine ⟨x, rfl, fun _ => ⟨hr, ?_⟩, fun _ => ⟨hr, hr, ?_⟩⟩
    · rw [e7.2.2, g7]
      exact ih r k1 k1s L u hu k1' h0 (by omega) xu ku q9 q2 (by omega)
    · rw [e7.1, e7.2.1, g3, g4]
      refine (ms_123 hu (by omega) (nI p.1) (nI p.2) (nI k1)).imp ?_
      rintro _ w ⟨rfl, w1, w2, w3, w4, w5, w6⟩
      refine ⟨_, rfl, hr, ?_⟩
      rw [(w2.2.2 l g2).2.2, e7.2.2, g7]
      refine ih r L (p :: k1s) (L + 1) w w1 (k1'.ext (w3.1 727 (by decide) (by simp)) (w3.1 728 (by decide) (by simp)) (w3.1 736 (by decide) (by simp)) (w3.2 16 (by simp))) (by omega) (by omega) (xu.trans w2 (Nat.le_refl _) (Nat.le_refl _) h0) (ku.trans (w3.mono (by simp) (by simp))) (kel_ext (Nat.le_refl _) (by omega) (fun j hj => w2.2.2 j hj) q9) ⟨by omega, by omega, w4, w5, g5, g6, k1, w6, kel_lt (by omega) q2, kel_ext (Nat.le_refl _) (by omega) (fun j hj => w2.2.2 j hj) q2⟩ (by simp only [List.length_cons]; omega)
theorem ms_157 {s : rSg} {T G L k : Nat} {ks : List (Nat × Nat)} (hh : hp s T G L) (hc : cB s T) (h19 : s 725 19 = nI k) (hk : kel s T L k ks) (hL : L + ks.length ≤ 18000) : EvS rSkel 8 157 [.inr (.inr (some 725))] s (fun v t => v = none ∧ afK s T G L (L + ks.length) ks.length t) := by
  refine w_157 s ?_
  rw [h19]
  exact ms_157b hL (fun t h => ⟨rfl, h⟩) ks k 0 [] L s hh hc (Nat.le_refl _) (Nat.le_refl _) hx.rfl' mK.rfl' hk rfl (by simp)
theorem ms_154b {T G L k : Nat} {s0 : rSg} {kf : List (Nat × Nat)} {P : Option rv → rSg → Prop} (hN : L + kf.length ≤ 18000) (hP : ∀ x t, afK s0 T G L (L + kf.length) kf.length t → P (some (.inl x)) t) : ∀ (ks : List (Nat × Nat)) (l : Nat) (y : Int32) (t : rSg), hp t T G L → cB t T → mfb s0 t → t 725 19 = nI k → kel t T L k kf → kel t T L l ks → g_154_7 y (nI l) t P := by
  intro ks
  induction ks with
  | nil =>
    intro l y t hh hc hf h19 hk h1
    obtain rfl : l = 0 := h1
    refine w_154_7 t _ _ ⟨fun _ => ⟨fun _ => hP _ _ ⟨L, k, kf, hh, Nat.le_refl _, by omega, hc, hf.hx, hf.K.mono (by simp) (by simp), h19, hk, Nat.le_refl _⟩, fun _ => (ms_157 hh hc h19 hk hN).imp ?_⟩, fun q => absurd (by decide) q⟩
    rintro _ u ⟨rfl, L2, k2, ks2, a1, a2, a3, a4, a5, a6, a7, a8, a9⟩
    exact ⟨rfl, hP _ _ ⟨L2, k2, ks2, a1, a2, a3, a4, (hf.hx (T := T) (G := G) (L := L)).trans a5 (Nat.le_refl _) (Nat.le_refl _) (Nat.le_refl _), (hf.K.mono (by simp) (by simp)).trans a6, a7, a8, a9⟩⟩
  | cons p ks ih =>
    intro l y t hh hc hf h19 hk h1
    obtain ⟨g1, g2, g3, g4, g5, g6, r, g7, g8, g9⟩ := h1
    have b1 := hh.1
    have hr : rIn (nI l) 20000 = true := rIn_nI (by omega) (by decide)
    refine w_154_7 t _ _ ⟨fun q => absurd ((nI_leI (b := 0) (by omega) (by decide)).mp q) (by omega), fun _ => (ms_155 hh hc g2 g3 g4 g5 g6).imp ?_⟩
    rintro _ u ⟨x, rfl, k1, k2⟩
    have eu := k2.hx (T := T) (G := G) (L := L)
    have ku : kel u T L k kf := kel_ext (Nat.le_refl _) (Nat.le_refl _) (fun j hj => eu.2.2 j hj) hk
    have u19 : u 725 19 = nI k := by rw [k2.2 19 (by decide) (by decide)]; exact h19
    have nx : ∀ y2 : Int32, g_154_7 y2 (u 735 (nI l).toNatClampNeg) u P := fun y2 => by
      rw [nI_clamp (by omega), (eu.2.2 l g2).2.2, g7]
      exact ih r y2 u (k2.hp hh) k1 (hf.trans k2) u19 ku (kel_ext (Nat.le_refl _) (Nat.le_refl _) (fun j hj => eu.2.2 j hj) g9)
    exact ⟨x, rfl, fun _ => ⟨fun _ => ⟨hr, nx _⟩, fun _ => ⟨hr, nx _⟩⟩, fun _ => hP _ _ ⟨L, k, kf, k2.hp hh, Nat.le_refl _, by omega, k1, (hf.trans k2).hx, (hf.trans k2).K.mono (by simp) (by simp), u19, ku, Nat.le_refl _⟩⟩
theorem ms_154 {s : rSg} {T G L k : Nat} {ks : List (Nat × Nat)} (hh : hp s T G L) (hc : cB s T) (h19 : s 725 19 = nI k) (hk : kel s T L k ks) (hL : L + ks.length ≤ 18000) : EvS rSkel 9 154 [.inr (.inr (some 725))] s (fun v t => ∃ x : Int32, v = some (.inl x) ∧ afK s T G L (L + ks.length) ks.length t) := by
  refine w_154 s ?_
  rw [h19]
  exact ms_154b hL (fun x t h => ⟨x, rfl, h⟩) ks k 0 s hh hc mfb.rfl' h19 hk hk
