/-! THE REFERENCE: a goal is done -/
theorem go2.rfl' {s : rSg} {z T G L h w a : Nat} {p : stP} (hs : SS s z T G L h w a p) : go2 z h a p s T G L T G L s := ⟨T, G, L, w, hs, ⟨Nat.le_refl _, Nat.le_refl _⟩, ⟨Nat.le_refl _, Nat.le_refl _⟩, ⟨Nat.le_refl _, Nat.le_refl _⟩, hx.rfl', fz.rfl'⟩
theorem go2.mono {s t : rSg} {z T G L Tm Gm Lm Tn Gn Ln h a : Nat} {p : stP} (hg : go2 z h a p s T G L Tm Gm Lm t) (h1 : Tm ≤ Tn) (h2 : Gm ≤ Gn) (h3 : Lm ≤ Ln) : go2 z h a p s T G L Tn Gn Ln t := by
  obtain ⟨T2, G2, L2, w2, g1, g2, g3, g4, g5, g6⟩ := hg
  exact ⟨T2, G2, L2, w2, g1, by omega, by omega, by omega, g5, g6⟩
/-- behind a part of a step that leaves the search as it is but for higher heaps -/
theorem go2.pre {s t u : rSg} {z T G L T2 G2 L2 Tm Gm Lm h a : Nat} {p : stP} (hg : go2 z h a p t T2 G2 L2 Tm Gm Lm u) (hT : T ≤ T2) (hG : G ≤ G2) (hL : L ≤ L2) (e : hx T G L s t) (f : fz z s t) : go2 z h a p s T G L Tm Gm Lm u := by
  obtain ⟨T3, G3, L3, w3, g1, g2, g3, g4, g5, g6⟩ := hg
  exact ⟨T3, G3, L3, w3, g1, by omega, by omega, by omega, e.trans g5 hT hG hL, f.trans g6⟩
theorem SS.K {s t : rSg} {z T G L T2 G2 L2 h w a : Nat} {p : stP} (hs : SS s z T G L h w a p) (ht : hp t T2 G2 L2) (e : hx T G L s t) (hT : T ≤ T2) (hG : G ≤ G2) (hL : L ≤ L2) {ks js : List Nat} (k : mK ks js s t) (hk : ∀ k, 739 ≤ k → k ≤ 749 → k ∉ ks) (hj : 21 ∉ js) : SS t z T2 G2 L2 h w a p := hs.ext ht e hT hG hL (k.sz hk) (k.2 21 hj)
/-- goesOn -/
theorem ms_153 {s : rSg} {z T G L h w a : Nat} {p q : stP} (hs : SS s z T G L h w a p) (hc : cX s T G L q) (hL : L + 12 ≤ 18000) (x : Int32) : EvS rSkel 10 153 [.inr (.inr (some 725)), .inl x] s (fun v t => v = none ∧ go2 z h a p s T G L T G (L + 12) t) := by
  refine w_153 s x ⟨fun _ => ⟨rfl, (go2.rfl' hs).mono (Nat.le_refl _) (Nat.le_refl _) (by omega)⟩, fun _ => ?_⟩
  obtain ⟨c1, c2, c3, c4, c5, c6⟩ := id hc
  have hlen : q.2.2.2.1.length ≤ 12 := by have := c6.2.2; omega
  refine (ms_154 hs.1 c1 c3 c6.2.1 (by omega)).imp ?_
  rintro _ t ⟨y, rfl, L2, k2, ks2, a1, a2, a3, a4, a5, a6, a7, a8, a9⟩
  have hk : ∀ k, 739 ≤ k → k ≤ 749 → k ∉ [733, 734, 735, 736, 737, 738] := fun k a b => by simp; omega
  have hs2 : SS t z T G L2 h w a p := hs.K a1 a5 (Nat.le_refl _) (Nat.le_refl _) a2 a6 hk (by simp)
  have f2 : fz z s t := fz.of a6 (by simp [kZ]) (by simp [jZ]) hk
  have hc2 : cX t T G L2 (q.1, q.2.1, k2, ks2, q.2.2.2.2) := by
    refine ⟨a4, by rw [a6.2 18 (by simp)]; exact c2, a7, by rw [a6.2 20 (by simp)]; exact c4, c5, ?_, a8, ?_⟩
    · exact (c6.ext hs.1 a5 (Nat.le_refl _) (Nat.le_refl _) a2).1
    · have := (c6.ext hs.1 a5 (Nat.le_refl _) (Nat.le_refl _) a2).2.2
      simp only
      omega
  refine ⟨y, rfl, fun _ => ⟨rfl, ((go2.rfl' hs2).pre (Nat.le_refl _) (Nat.le_refl _) a2 a5 f2).mono (Nat.le_refl _) (Nat.le_refl _) (by omega)⟩, fun _ => (ms_124 hs2 hc2).imp ?_⟩
  rintro _ u ⟨rfl, g⟩
  exact ⟨rfl, rfl, (g.pre (Nat.le_refl _) (Nat.le_refl _) a2 a5 f2).mono (Nat.le_refl _) (Nat.le_refl _) (by omega)⟩
theorem mLoads_736 (s : rSg) (sl : Nat) {j : Nat} (hj : j < 128) : mLoads s sl 736 j = ldF (fun i => s 739 (64 * sl + i)) j := by
  unfold mLoads mLoad0 mEmp
  rw [up2_nk _ _ _ (by decide), up2_nk _ _ _ (by decide), up2_nk _ _ _ (by decide), upC_same]
  unfold va_cpy ldF
  by_cases h : j < 64
  · rw [if_pos (by omega), if_pos h, up2_nk _ _ _ (by decide), upC_ne _ _ (by decide)]
    congr 1
  · rw [if_neg (by omega), if_neg h, up2_nk _ _ _ (by decide), upC_same]
    unfold fillF
    rw [if_pos (by omega)]
theorem mLoads_K (s : rSg) (sl : Nat) : mK [736] [16, 18, 19, 20] s (mLoads s sl) := by
  unfold mLoads mLoad0 mEmp
  refine (((mK.upF (j := 18) ?_ (by simp)).upF (j := 19) (by simp)).upF (j := 20) (by simp))
  refine ⟨fun q g1 g2 => ?_, fun j g => ?_⟩
  · have : q ≠ 736 := fun e => g2 (by simp [e])
    rw [upC_ne _ _ this, up2_nk _ _ _ g1, upC_ne _ _ this]
  · have : j ≠ 16 := fun e => g (by simp [e])
    rw [upC_ne _ _ (by decide), up2_nj _ _ _ this, upC_ne _ _ (by decide)]
theorem mLoads_F (s : rSg) (sl : Nat) : mLoads s sl 725 16 = 0 ∧ mLoads s sl 725 18 = s 740 sl ∧ mLoads s sl 725 19 = s 741 sl ∧ mLoads s sl 725 20 = s 742 sl := by
  unfold mLoads
  refine ⟨?_, ?_, ?_, ?_⟩
  · rw [up2_nj _ _ _ (by decide), up2_nj _ _ _ (by decide), up2_nj _ _ _ (by decide)]
    unfold mLoad0 mEmp
    rw [upC_ne _ _ (by decide), up2_same]
  · rw [up2_nj _ _ _ (by decide), up2_nj _ _ _ (by decide), up2_same]
  · rw [up2_nj _ _ _ (by decide), up2_same]
  · rw [up2_same]
/-- loads: the state of a slot is at hand -/
theorem ms_140w {s : rSg} {T G L sl : Nat} {p : stP} (hh : hp s T G L) (hw : wX s T G L sl p) (hsl : sl < 84) : EvS rSkel 2 140 [.inr (.inr (some 725)), .inl (nI sl)] s (fun v t => v = none ∧ hp t T G L ∧ cX t T G L p ∧ hx T G L s t ∧ mK [736] [16, 18, 19, 20] s t) := by
  refine (ev_m_loads 0 s hsl).imp ?_
  rintro _ _ ⟨rfl, rfl⟩
  have k := mLoads_K s sl
  have e6 : ∀ j, j < 128 → mLoads s sl 736 j = ldF (fun i => s 739 (64 * sl + i)) j := fun j hj => mLoads_736 s sl hj
  obtain ⟨e16, e18, e19, e20⟩ := mLoads_F s sl
  generalize mLoads s sl = t at k e6 e16 e18 e19 e20
  have e : hx T G L s t := k.hx (fun k a b => by simp; omega)
  have ht : hp t T G L := hh.keep e ⟨k.2 10 (by simp), k.2 11 (by simp), k.2 12 (by simp)⟩
  refine ⟨rfl, ht, ⟨⟨bRow_load hw.1 ht.2.2.1 e.1 e6, bRow_ev hw.1 e6, 0, e16, by have := opens_le t; omega⟩, by rw [e18]; exact hw.2.1, by rw [e19]; exact hw.2.2.1, by rw [e20]; exact hw.2.2.2.1, by have := hw.2.2.2.2.1; omega, hw.2.2.2.2.2.ext hh e (Nat.le_refl _) (Nat.le_refl _) (Nat.le_refl _)⟩, e, k⟩
theorem ms_140 {s : rSg} {z T G L h w a : Nat} {p : stP} (hs : SS s z T G L h w a p) : EvS rSkel 2 140 [.inr (.inr (some 725)), .inl (nI (42 * z + (h + 41) % 42))] s (fun v t => v = none ∧ SS t z T G L h w a p ∧ cX t T G L p ∧ hx T G L s t ∧ fz z s t) := by
  refine (ms_140w hs.1 hs.2.2.2 (by have := hs.2.1.2; omega)).imp ?_
  rintro _ t ⟨rfl, ht, hc, e, k⟩
  have hk : ∀ k, 739 ≤ k → k ≤ 749 → k ∉ [736] := fun k a b => by simp; omega
  exact ⟨rfl, hs.K ht e (Nat.le_refl _) (Nat.le_refl _) (Nat.le_refl _) k hk (by simp), hc, e, fz.of k (by simp [kZ]) (by simp [jZ]) hk⟩
/-- a pair more -/
theorem ms_117 {s : rSg} {T G L : Nat} (hh : hp s T G L) (hT : T < 1400) {a b : Nat} (ha : a < T) (hb : b < T) : EvS rSkel 1 117 [.inr (.inr (some 725)), .inl (nI a), .inl (nI b)] s (fun v t => v = some (.inl (nI T)) ∧ hp t (T + 1) G L ∧ hx T G L s t ∧ mK [727, 728] [10] s t) := by
  refine (ev_m_pair 0 s (nI a) (nI b) hh.2.1.1 (by omega)).imp ?_
  rintro _ _ ⟨rfl, rfl⟩
  have b1 := hh.1
  have k : mK [727, 728] [10] s (up2 (up2 (up2 s 727 T (nI a)) 728 T (nI b)) 725 10 (nI (T + 1))) := ((mK.rfl'.up (by simp) (by decide)).up (by simp) (by decide)).upF (by simp)
  have e7 : ∀ j, up2 (up2 (up2 s 727 T (nI a)) 728 T (nI b)) 725 10 (nI (T + 1)) 727 j = if j = T then nI a else s 727 j := fun j => by simp [up2, upd]
  have e8 : ∀ j, up2 (up2 (up2 s 727 T (nI a)) 728 T (nI b)) 725 10 (nI (T + 1)) 728 j = if j = T then nI b else s 728 j := fun j => by simp [up2, upd]
  have e10 : up2 (up2 (up2 s 727 T (nI a)) 728 T (nI b)) 725 10 (nI (T + 1)) 725 10 = nI (T + 1) := up2_same _ _ _ _
  generalize up2 (up2 (up2 s 727 T (nI a)) 728 T (nI b)) 725 10 (nI (T + 1)) = t at k e7 e8 e10
  have e : hx T G L s t := by
    refine ⟨fun j hj => ⟨by rw [e7, if_neg (by omega)], by rw [e8, if_neg (by omega)]⟩, fun j _ => ⟨?_, ?_, ?_, ?_⟩, fun j _ => ⟨?_, ?_, ?_⟩⟩
    all_goals rw [k.1 _ (by decide) (by simp)]
  refine ⟨rfl, ⟨by omega, ⟨e10, by rw [k.2 11 (by simp)]; exact hh.2.1.2.1, by rw [k.2 12 (by simp)]; exact hh.2.1.2.2⟩, fun q h1 h2 => ?_, hh.2.2.2.ext e.2.1 (by omega)⟩, e, k⟩
  by_cases hq : q = T
  · subst hq
    exact ⟨a, b, by rw [e7, if_pos rfl], by rw [e8, if_pos rfl], ha, hb⟩
  · obtain ⟨a2, b2, r1, r2, r3⟩ := hh.2.2.1 q h1 (by omega)
    exact ⟨a2, b2, by rw [e7, if_neg hq]; exact r1, by rw [e8, if_neg hq]; exact r2, r3⟩
/-- a goal more -/
theorem ms_120 {s : rSg} {T G L : Nat} (hh : hp s T G L) (hG : G < 1000) {c : Int32} {a b d : Nat} (h1 : two2 c → a < G ∧ b < G) (h2 : ¬ two2 c → a < T ∧ b < T ∧ d < T) : EvS rSkel 1 120 [.inr (.inr (some 725)), .inl c, .inl (nI a), .inl (nI b), .inl (nI d)] s (fun v t => v = some (.inl (nI G)) ∧ hp t T (G + 1) L ∧ hx T G L s t ∧ mK [729, 730, 731, 732] [11] s t ∧ t 729 G = c ∧ t 730 G = nI a ∧ t 731 G = nI b ∧ t 732 G = nI d) := by
  refine (ev_m_goalOf 0 s c (nI a) (nI b) (nI d) hh.2.1.2.1 (by omega)).imp ?_
  rintro _ _ ⟨rfl, rfl⟩
  have b1 := hh.1
  have k : mK [729, 730, 731, 732] [11] s (up2 (up2 (up2 (up2 (up2 s 729 G c) 730 G (nI a)) 731 G (nI b)) 732 G (nI d)) 725 11 (nI (G + 1))) := ((((mK.rfl'.up (by simp) (by decide)).up (by simp) (by decide)).up (by simp) (by decide)).up (by simp) (by decide)).upF (by simp)
  have e9 : ∀ j, up2 (up2 (up2 (up2 (up2 s 729 G c) 730 G (nI a)) 731 G (nI b)) 732 G (nI d)) 725 11 (nI (G + 1)) 729 j = if j = G then c else s 729 j := fun j => by simp [up2, upd]
  have e0 : ∀ j, up2 (up2 (up2 (up2 (up2 s 729 G c) 730 G (nI a)) 731 G (nI b)) 732 G (nI d)) 725 11 (nI (G + 1)) 730 j = if j = G then nI a else s 730 j := fun j => by simp [up2, upd]
  have e1 : ∀ j, up2 (up2 (up2 (up2 (up2 s 729 G c) 730 G (nI a)) 731 G (nI b)) 732 G (nI d)) 725 11 (nI (G + 1)) 731 j = if j = G then nI b else s 731 j := fun j => by simp [up2, upd]
  have e2 : ∀ j, up2 (up2 (up2 (up2 (up2 s 729 G c) 730 G (nI a)) 731 G (nI b)) 732 G (nI d)) 725 11 (nI (G + 1)) 732 j = if j = G then nI d else s 732 j := fun j => by simp [up2, upd]
  have e11 : up2 (up2 (up2 (up2 (up2 s 729 G c) 730 G (nI a)) 731 G (nI b)) 732 G (nI d)) 725 11 (nI (G + 1)) 725 11 = nI (G + 1) := up2_same _ _ _ _
  generalize up2 (up2 (up2 (up2 (up2 s 729 G c) 730 G (nI a)) 731 G (nI b)) 732 G (nI d)) 725 11 (nI (G + 1)) = t at k e9 e0 e1 e2 e11
  have e : hx T G L s t := by
    refine ⟨fun j _ => ⟨?_, ?_⟩, fun j hj => ⟨by rw [e9, if_neg (by omega)], by rw [e0, if_neg (by omega)], by rw [e1, if_neg (by omega)], by rw [e2, if_neg (by omega)]⟩, fun j _ => ⟨?_, ?_, ?_⟩⟩
    all_goals rw [k.1 _ (by decide) (by simp)]
  refine ⟨rfl, ⟨by omega, ⟨by rw [k.2 10 (by simp)]; exact hh.2.1.1, e11, by rw [k.2 12 (by simp)]; exact hh.2.1.2.2⟩, hh.2.2.1.ext e.1, fun g hg => ?_⟩, e, k, by rw [e9, if_pos rfl], by rw [e0, if_pos rfl], by rw [e1, if_pos rfl], by rw [e2, if_pos rfl]⟩
  by_cases hq : g = G
  · subst hq
    refine ⟨a, b, d, by rw [e0, if_pos rfl], by rw [e1, if_pos rfl], by rw [e2, if_pos rfl], ?_, ?_⟩
    · rw [e9, if_pos rfl]; exact h1
    · rw [e9, if_pos rfl]; exact h2
  · obtain ⟨a2, b2, d2, r⟩ := hh.2.2.2 g (by omega)
    exact ⟨a2, b2, d2, by rw [e9, e0, e1, e2, if_neg hq, if_neg hq, if_neg hq, if_neg hq]; exact r⟩
