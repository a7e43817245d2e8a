/-! A STEP OF THE CLASS's search, one state in the queue -/
def cLd (s U : rSg) (b h st v t : Nat) : Prop := (∀ q, q ≠ b → q ≠ b + 218 → q ≠ b + 219 → q ≠ b + 220 → U q = s q) ∧ U b 7 = nI ((h + 1) % 40) ∧ U b 8 = nI 0 ∧ U b 9 = nI (st + 1) ∧ U b 10 = nI 0 ∧ U (b + 218) 2 = nI v ∧ U (b + 218) 3 = nI t ∧ U (b + 218) 4 = s (b + 6 + 3 * h) 4 ∧ (∀ j, j < v → U (b + 219) j = s (b + 6 + 3 * h + 1) j) ∧ (∀ j, v ≤ j → U (b + 219) j = s (b + 219) j) ∧ (∀ j, j < t → U (b + 220) j = s (b + 6 + 3 * h + 2) j)
theorem cs_pre {s : rSg} {b h st v t : Nat} (hb : isSeaA rSkel b) (h7 : s b 7 = nI h) (hh : h < 40) (h8 : s b 8 = nI 1) (h9 : s b 9 = nI st) (hst : st < 1000) (h10 : s b 10 = nI 0) (hv : s (b + 6 + 3 * h) 2 = nI v) (hv9 : v ≤ 64) (ht : s (b + 6 + 3 * h) 3 = nI t) (ht9 : t ≤ 32) {y1 y2 y3 : Nat} (hy1 : y1 < 2 ^ 31) (hy3 : y3 < y1) (hy2 : 1 ≤ y2) (hy29 : y2 < 2 ^ 31) {P : Option rv → rSg → Prop}
    (k : ∀ U : rSg, cLd s U b h st v t → (0 < t → EvS rSkel 1 54 [.inr (.inr (some (b + 218)))] U (fun v17 t18 => ∃ n20, v17 = some (.inl n20) ∧ EvS rSkel 6 41 [.inr (.inr (some b)), .inl n20] t18 (fun v21 t22 => v21 = none ∧ g_36_2 b (nI y1) (nI y2) (nI (y3 + 1)) (up2 t22 b 12 (imax (t22 b 12) (t22 b 8))) P))) ∧
      (t = 0 → EvS rSkel 2 39 [.inr (.inr (some b))] U (fun v24 t25 => v24 = none ∧ g_36_2 b (nI y1) (nI y2) (nI (y3 + 1)) (up2 t25 b 12 (imax (t25 b 12) (t25 b 8))) P))) : g_36_2 b (nI y1) (nI y2) (nI y3) s P := by
  refine w_36_2 s b hb.1 _ _ _ ⟨fun q => absurd ((nI_leI (by omega) (by omega)).mp q) (by omega), fun _ => ?_⟩
  refine w_37 s b hb.1 ⟨fun q => absurd q (by rw [h8]; decide), fun _ => ⟨fun _ => ?_, fun q => absurd (by rw [h10]; decide) q⟩⟩
  refine ⟨_, rfl, fun q => absurd rfl q, fun _ => ⟨fun q => ?_, fun _ => ?_⟩⟩
  · rw [h10] at q
    exact absurd ((nI_leI hy29 (by decide)).mp q) (by omega)
  generalize eW : up2 s b 9 (s b 9 + 1) = W
  have w0 : ∀ q, q ≠ b → W q = s q := fun q h => by rw [← eW, up2_nk _ _ _ h]
  have w1 : ∀ j, j ≠ 9 → W b j = s b j := fun j h => by rw [← eW, up2_nj _ _ _ h]
  have w9 : W b 9 = nI (st + 1) := by rw [← eW, up2_same, h9, nI_1]
  refine c_first hb (h := h) (by rw [w1 7 (by decide)]; exact h7) hh (fun hS => ⟨_, rfl, hS, ?_⟩)
  have hnow : isStS rSkel (b + 218) := hb.1.2.2.2.2.2.2.1
  refine (c_copy hnow hS (by omega) W (v := v) (t := t) (by rw [w0 _ (by omega)]; exact hv) hv9 (by rw [w0 _ (by omega)]; exact ht) ht9).imp ?_
  rintro _ T ⟨rfl, f0, f1, f2, f3, f4, f5, f6, f7⟩
  have tb : T b = W b := f0 b (by omega) (by omega) (by omega)
  have e7 : irem (T b 7 + 1) 40 = nI ((h + 1) % 40) := by
    rw [tb, w1 7 (by decide), h7, nI_1]
    exact pk_rem (by omega) (by decide) (by decide)
  have e8 : T b 8 - 1 = nI 0 := by
    rw [tb, w1 8 (by decide), h8]
    rfl
  rw [e7, e8, show nI y3 + 1 = nI (y3 + 1) from nI_1 y3]
  generalize eU : up2 (up2 T b 7 (nI ((h + 1) % 40))) b 8 (nI 0) = U
  have u0 : ∀ q, q ≠ b → U q = T q := fun q h => by rw [← eU, up2_nk _ _ _ h, up2_nk _ _ _ h]
  have cl : cLd s U b h st v t := by
    refine ⟨fun q g0 g1 g2 g3 => ?_, ?_, ?_, ?_, ?_, ?_, ?_, ?_, fun j hj => ?_, fun j hj => ?_, fun j hj => ?_⟩
    · rw [u0 q g0, f0 q g1 (by omega) (by omega), w0 q g0]
    · rw [← eU, up2_nj _ _ _ (by decide), up2_same]
    · rw [← eU, up2_same]
    · rw [← eU, up2_nj _ _ _ (by decide), up2_nj _ _ _ (by decide), tb, w9]
    · rw [← eU, up2_nj _ _ _ (by decide), up2_nj _ _ _ (by decide), tb, w1 10 (by decide), h10]
    · rw [u0 _ (by omega), f1]
    · rw [u0 _ (by omega), f2]
    · rw [u0 _ (by omega), f3, w0 _ (by omega)]
    · rw [u0 _ (by omega), f4 j hj, w0 _ (by omega)]
    · rw [u0 _ (by omega), f5 j hj, w0 _ (by omega)]
    · rw [u0 _ (by omega), f6 j hj, w0 _ (by omega)]
  have hk := k U cl
  refine ⟨rfl, fun hne => hk.1 ?_, fun h0 => hk.2 ?_⟩
  · by_cases q : t = 0
    · exact absurd (by rw [f2, q]; rfl) hne
    · omega
  · have h0 := Classical.not_not.mp h0
    rw [f2] at h0
    exact (nI_eq (a := t) (b := 0) (by omega) (by decide)).mp h0
/-- a queue of one state: where it lies, what it has to do -/
def cQ (s : rSg) (b h st v t : Nat) (G : Nat → Int32) : Prop := s b 7 = nI h ∧ h < 40 ∧ s b 8 = nI 1 ∧ s b 9 = nI st ∧ s b 10 = nI 0 ∧ s (b + 6 + 3 * h) 2 = nI v ∧ s (b + 6 + 3 * h) 3 = nI t ∧ s (b + 6 + 3 * h) 4 = 0 ∧ ∀ j, j < t → s (b + 6 + 3 * h + 2) j = G j
/-- the script, and what is outside of the search, stay -/
def cfr (b : Nat) (s s2 : rSg) : Prop := ∀ q, (q < b ∨ b + 223 < q ∨ (b < q ∧ q < b + 6)) → (q = 0 ∨ 5 < q) → s2 q = s q
theorem cfr.rfl' {b : Nat} {s : rSg} : cfr b s s := fun _ _ _ => rfl
theorem cfr.trans {b : Nat} {s t u : rSg} (h1 : cfr b s t) (h2 : cfr b t u) : cfr b s u := fun q a c => (h2 q a c).trans (h1 q a c)
/-- the state goes behind the queue, which is empty -/
theorem cs_enq {U : rSg} {b h st v t : Nat} (hb : isSeaA rSkel b) {k : Nat} (hk : isSt k) (hkk : ∀ i, i < 40 → b + 6 + 3 * i + 2 < k ∨ k + 2 < b + 6 + 3 * i) (hkb : k ≠ b) (u7 : U b 7 = nI h) (hh : h < 40) (u8 : U b 8 = nI 0) (u9 : U b 9 = nI st) (u10 : U b 10 = nI 0) (hv : U k 2 = nI v) (hv9 : v ≤ 60) (ht : U k 3 = nI t) (ht9 : t ≤ 32) (h4 : U k 4 = 0) {G : Nat → Int32} (hG : ∀ j, j < t → U (k + 2) j = G j) {Q : rSg → Prop}
    (hQ : ∀ s2, (∀ q, q ≠ b → (q < b + 6 ∨ b + 125 < q) → s2 q = U q) → (∀ i j, v ≤ j → s2 (b + 6 + 3 * i + 1) j = U (b + 6 + 3 * i + 1) j) → (∀ j, j < v → s2 (b + 6 + 3 * h + 1) j = U (k + 1) j) → cQ s2 b h st v t G → Q (up2 s2 b 12 (imax (s2 b 12) (s2 b 8)))) : EvS rSkel 2 34 [.inr (.inr (some b)), .inr (.inr (some k))] U (fun r s2 => r = none ∧ (none : Option rv) = none ∧ Q (up2 s2 b 12 (imax (s2 b 12) (s2 b 8)))) := by
  refine (c_enqueue_in hb hk U (h := h) (n := 0) (v := v) (t := t) u7 hh u8 (by decide) hv hv9 ht ht9 hkk hkb).imp ?_
  rintro _ s2 ⟨rfl, q, hq, d1, d2, d3, d4, d5, d6, d7, d8, d9⟩
  have hq : q = b + 6 + 3 * h := by rw [hq, show (h + 0) % 40 = h by omega]
  subst hq
  refine ⟨rfl, rfl, hQ s2 (fun q g0 g1 => d1 q g0 (by omega) (by omega) (by omega)) (fun i j hj => ?_) d7 ⟨by rw [d2 7 (by decide)]; exact u7, hh, d3, by rw [d2 9 (by decide)]; exact u9, by rw [d2 10 (by decide)]; exact u10, d4, d5, by rw [d6]; exact h4, fun j hj => by rw [d9 j hj]; exact hG j hj⟩⟩
  by_cases hi : i = h
  · subst hi
    exact d8 j hj
  · rw [d1 _ (by omega) (by omega) (by omega) (by omega)]
theorem cQ_up {s : rSg} {b h st v t : Nat} {G : Nat → Int32} {x : Int32} (hq : cQ s b h st v t G) : cQ (up2 s b 12 x) b h st v t G := by
  obtain ⟨a1, a2, a3, a4, a5, a6, a7, a8, a9⟩ := hq
  refine ⟨by rw [up2_nj _ _ _ (by decide)]; exact a1, a2, by rw [up2_nj _ _ _ (by decide)]; exact a3, by rw [up2_nj _ _ _ (by decide)]; exact a4, by rw [up2_nj _ _ _ (by decide)]; exact a5, by rw [up2_nk _ _ _ (by omega)]; exact a6, by rw [up2_nk _ _ _ (by omega)]; exact a7, by rw [up2_nk _ _ _ (by omega)]; exact a8, fun j hj => by rw [up2_nk _ _ _ (by omega)]; exact a9 j hj⟩
theorem c_part {s : Nat} (hs : isScr s) (sg : rSg) {g k : Nat} (hg : g < 326) (hk : k < 3) : EvS rSkel 1 28 [.inr (.inr (some s)), .inl (nI g), .inl (nI k)] sg (fun v s2 => v = some (.inl (sg (s + 2) (3 * g + k))) ∧ s2 = sg) := by
  have e : (3 : Int32) * nI g + nI k = nI (3 * g + k) := by rw [show (3 : Int32) = nI 3 from rfl, pk_mul, nI_add]
  refine w_28 sg s hs _ _ ⟨fun q => absurd q (nI_pos (by omega)), fun _ => ⟨fun q => absurd ((nI_leI (a := 326) (by decide) (by omega)).mp q) (by omega), fun _ => ⟨fun q => absurd q (nI_pos (by omega)), fun _ => ⟨fun q => absurd ((nI_leI (a := 3) (by decide) (by omega)).mp q) (by omega), fun _ => ?_⟩⟩⟩⟩
  rw [e, nI_clamp (by omega)]
  exact ⟨rIn_nI (by omega) (by decide), rfl, rfl⟩
theorem c_kind {s : Nat} (hs : isScr s) (sg : rSg) {g : Nat} (hg : g < 326) : EvS rSkel 1 29 [.inr (.inr (some s)), .inl (nI g)] sg (fun v s2 => v = some (.inl (sg (s + 1) g)) ∧ s2 = sg) := by
  refine w_29 sg s hs _ ⟨fun q => absurd q (nI_pos (by omega)), fun _ => ⟨fun q => absurd ((nI_leI (a := 326) (by decide) (by omega)).mp q) (by omega), fun _ => ?_⟩⟩
  rw [nI_clamp (by omega)]
  exact ⟨rIn_nI hg (by decide), rfl, rfl⟩
/-- the first state is taken, its first goal too: 'now' has them -/
def cNow (s U : rSg) (b h st v t : Nat) (G : Nat → Int32) : Prop := (∀ q, q ≠ b → q ≠ b + 218 → q ≠ b + 219 → q ≠ b + 220 → U q = s q) ∧ U b 7 = nI ((h + 1) % 40) ∧ U b 8 = nI 0 ∧ U b 9 = nI (st + 1) ∧ U b 10 = nI 0 ∧ U (b + 218) 2 = nI v ∧ U (b + 218) 3 = nI t ∧ U (b + 218) 4 = 0 ∧ (∀ j, j < v → U (b + 219) j = s (b + 6 + 3 * h + 1) j) ∧ (∀ j, v ≤ j → U (b + 219) j = s (b + 219) j) ∧ (∀ j, j < t → U (b + 220) j = G j)
theorem cs_go {s : rSg} {b h st v t g : Nat} {G : Nat → Int32} (hb : isSeaA rSkel b) (hq : cQ s b h st v (t + 1) G) (hst : st < 1000) (hv9 : v ≤ 64) (ht9 : t < 32) (hg : G t = nI g) {y1 y2 y3 : Nat} (hy1 : y1 < 2 ^ 31) (hy3 : y3 < y1) (hy2 : 1 ≤ y2) (hy29 : y2 < 2 ^ 31) {P : Option rv → rSg → Prop}
    (k : ∀ U, cNow s U b h st v t G → EvS rSkel 6 41 [.inr (.inr (some b)), .inl (nI g)] U (fun v21 t22 => v21 = none ∧ g_36_2 b (nI y1) (nI y2) (nI (y3 + 1)) (up2 t22 b 12 (imax (t22 b 12) (t22 b 8))) P)) : g_36_2 b (nI y1) (nI y2) (nI y3) s P := by
  obtain ⟨q1, q2, q3, q4, q5, q6, q7, q8, q9⟩ := hq
  refine cs_pre hb q1 q2 q3 q4 hst q5 q6 hv9 q7 (by omega) hy1 hy3 hy2 hy29 (fun U cl => ⟨fun _ => ?_, fun q => absurd q (by omega)⟩)
  obtain ⟨u0, u7, u8, u9, u10, n2, n3, n4, n5, n6, n7⟩ := cl
  have hnow : isSt (b + 218) := hb.1.2.2.2.2.2.2.1
  have e1 : U (b + 218) 3 - 1 = nI t := by rw [n3]; exact nI_pred t
  refine w_54 U (b + 218) hnow ⟨fun q => ?_, fun _ => ⟨fun _ => ?_, fun q => ?_⟩⟩
  · rw [n3] at q
    exact absurd ((nI_ltI (a := t + 1) (b := 1) (by omega) (by decide)).mp q) (by omega)
  · rw [e1, nI_clamp (by omega), n7 t (by omega), q9 t (by omega), hg]
    refine ⟨rIn_nI ht9 (by decide), _, rfl, k _ ⟨fun q g0 g1 g2 g3 => ?_, ?_, ?_, ?_, ?_, ?_, up2_same _ _ _ _, ?_, fun j hj => ?_, fun j hj => ?_, fun j hj => ?_⟩⟩
    · rw [up2_nk _ _ _ g1, u0 q g0 g1 g2 g3]
    · rw [up2_nk _ _ _ (by omega), u7]
    · rw [up2_nk _ _ _ (by omega), u8]
    · rw [up2_nk _ _ _ (by omega), u9]
    · rw [up2_nk _ _ _ (by omega), u10]
    · rw [up2_nj _ _ _ (by decide), n2]
    · rw [up2_nj _ _ _ (by decide), n4, q8]
    · rw [up2_nk _ _ _ (by omega), n5 j hj]
    · rw [up2_nk _ _ _ (by omega), n6 j hj]
    · rw [up2_nk _ _ _ (by omega), n7 j (by omega), q9 j (by omega)]
  · rw [n3] at q
    exact absurd ((nI_leI (a := t + 1) (b := 32) (by omega) (by decide)).mpr (by omega)) q
/-- what a step leaves -/
def cAft (s s2 : rSg) (b h v : Nat) : Prop := (∀ q, (q < b ∨ b + 223 < q ∨ (b < q ∧ q < b + 6) ∨ (b + 126 ≤ q ∧ q < b + 218) ∨ b + 220 < q) → s2 q = s q) ∧ (∀ j, j < v → s2 (b + 6 + 3 * ((h + 1) % 40) + 1) j = s (b + 6 + 3 * h + 1) j) ∧ (∀ j, v ≤ j → s2 (b + 219) j = s (b + 219) j)
theorem cs_star {s : rSg} {b h st v t g : Nat} {G : Nat → Int32} (hb : isSeaA rSkel b) (hq : cQ s b h st v (t + 1) G) (hst : st < 1000) (hv9 : v ≤ 60) (ht9 : t < 32) (hg : G t = nI g) (hg9 : g < 326) (hkd : s (b + 2) g = 42) {y1 y2 y3 : Nat} (hy1 : y1 < 2 ^ 31) (hy3 : y3 < y1) (hy2 : 1 ≤ y2) (hy29 : y2 < 2 ^ 31) {P : Option rv → rSg → Prop}
    (k : ∀ s2, cAft s s2 b h v → cQ s2 b ((h + 1) % 40) (st + 1) v t G → g_36_2 b (nI y1) (nI y2) (nI (y3 + 1)) s2 P) : g_36_2 b (nI y1) (nI y2) (nI y3) s P := by
  refine cs_go hb hq hst (by omega) ht9 hg hy1 hy3 hy2 hy29 (fun U cl => ?_)
  obtain ⟨u0, u7, u8, u9, u10, n2, n3, n4, n5, n6, n7⟩ := cl
  have hscr : isScr (b + 1) := hb.1.2.2.2.2.2.1
  have hnow : isSt (b + 218) := hb.1.2.2.2.2.2.2.1
  refine w_41 U b hb.1 (nI g) ((c_part hscr U hg9 (k := 0) (by decide)).imp ?_)
  rintro _ U ⟨rfl, rfl⟩
  refine ⟨_, rfl, (c_part hscr _ hg9 (k := 1) (by decide)).imp ?_⟩
  rintro _ U ⟨rfl, rfl⟩
  refine ⟨_, rfl, (c_kind hscr _ hg9).imp ?_⟩
  rintro _ U ⟨rfl, rfl⟩
  have ek : U (b + 1 + 1) g = 42 := by rw [u0 _ (by omega) (by omega) (by omega) (by omega)]; exact hkd
  rw [ek]
  refine ⟨_, rfl, fun q => absurd q (by decide), fun q => absurd q (by decide), fun _ => ?_, fun q => absurd q (by decide), fun q => absurd q (by decide), fun q => absurd q (by decide), fun q => absurd q (by decide), fun q => absurd rfl q.2.2.1⟩
  refine cs_enq hb hnow (by intro i hi; omega) (by omega) (h := (h + 1) % 40) u7 (Nat.mod_lt _ (by decide)) u8 u9 u10 n2 hv9 n3 (by omega) n4 n7 (Q := fun z => g_36_2 b (nI y1) (nI y2) (nI (y3 + 1)) z P) (fun s2 g1 g2 g3 g4 => k _ ⟨fun q hq => ?_, fun j hj => ?_, fun j hj => ?_⟩ (cQ_up g4))
  · rw [up2_nk _ _ _ (by omega), g1 q (by omega) (by omega), u0 q (by omega) (by omega) (by omega) (by omega)]
  · rw [up2_nk _ _ _ (by omega), g3 j hj, n5 j hj]
  · rw [up2_nk _ _ _ (by omega), g1 _ (by omega) (by omega), n6 j hj]
theorem cs_and {s : rSg} {b h st v t g x y : Nat} {G : Nat → Int32} (hb : isSeaA rSkel b) (hq : cQ s b h st v (t + 1) G) (hst : st < 1000) (hv9 : v ≤ 60) (ht9 : t < 30) (hg : G t = nI g) (hg9 : g < 326) (hkd : s (b + 2) g = 38) (hx : s (b + 3) (3 * g) = nI x) (hy : s (b + 3) (3 * g + 1) = nI y) {y1 y2 y3 : Nat} (hy1 : y1 < 2 ^ 31) (hy3 : y3 < y1) (hy2 : 1 ≤ y2) (hy29 : y2 < 2 ^ 31) {P : Option rv → rSg → Prop}
    (k : ∀ s2, cAft s s2 b h v → cQ s2 b ((h + 1) % 40) (st + 1) v (t + 2) (fun j => if j = t + 1 then nI x else if j = t then nI y else G j) → g_36_2 b (nI y1) (nI y2) (nI (y3 + 1)) s2 P) : g_36_2 b (nI y1) (nI y2) (nI y3) s P := by
  refine cs_go hb hq hst (by omega) (by omega) hg hy1 hy3 hy2 hy29 (fun U cl => ?_)
  obtain ⟨u0, u7, u8, u9, u10, n2, n3, n4, n5, n6, n7⟩ := cl
  have hscr : isScr (b + 1) := hb.1.2.2.2.2.2.1
  have hnow : isSt (b + 218) := hb.1.2.2.2.2.2.2.1
  refine w_41 U b hb.1 (nI g) ((c_part hscr U hg9 (k := 0) (by decide)).imp ?_)
  rintro _ U ⟨rfl, rfl⟩
  refine ⟨_, rfl, (c_part hscr _ hg9 (k := 1) (by decide)).imp ?_⟩
  rintro _ U ⟨rfl, rfl⟩
  refine ⟨_, rfl, (c_kind hscr _ hg9).imp ?_⟩
  rintro _ U ⟨rfl, rfl⟩
  have ek : U (b + 1 + 1) g = 38 := by rw [u0 _ (by omega) (by omega) (by omega) (by omega)]; exact hkd
  have ex : U (b + 1 + 2) (3 * g + 0) = nI x := by rw [u0 _ (by omega) (by omega) (by omega) (by omega)]; exact hx
  have ey : U (b + 1 + 2) (3 * g + 1) = nI y := by rw [u0 _ (by omega) (by omega) (by omega) (by omega)]; exact hy
  rw [ek, ex, ey]
  refine ⟨_, rfl, fun q => absurd q (by decide), fun _ => ?_, fun q => absurd q (by decide), fun q => absurd q (by decide), fun q => absurd q (by decide), fun q => absurd q (by decide), fun q => absurd q (by decide), fun q => absurd rfl q.2.1⟩
  refine (c_stpush hnow U (t := t) n3 (by omega) _).imp ?_
  rintro _ A ⟨rfl, a0, a1, a2, a3, a4⟩
  refine ⟨rfl, (c_stpush hnow A (t := t + 1) a2 (by omega) _).imp ?_⟩
  rintro _ B ⟨rfl, b0, b1, b2, b3, b4⟩
  refine ⟨rfl, ?_⟩
  have eb : B b = U b := by rw [b0 b (by omega) (by omega), a0 b (by omega) (by omega)]
  refine cs_enq hb hnow (by intro i hi; omega) (by omega) (h := (h + 1) % 40) (st := st + 1) (v := v) (t := t + 2) (G := fun j => if j = t + 1 then nI x else if j = t then nI y else G j) (by rw [eb]; exact u7) (Nat.mod_lt _ (by decide)) (by rw [eb]; exact u8) (by rw [eb]; exact u9) (by rw [eb]; exact u10) (by rw [b1 2 (by decide), a1 2 (by decide)]; exact n2) hv9 b2 (by omega) (by rw [b1 4 (by decide), a1 4 (by decide)]; exact n4) (fun j hj => ?_) (Q := fun z => g_36_2 b (nI y1) (nI y2) (nI (y3 + 1)) z P) (fun s2 g1 g2 g3 g4 => k _ ⟨fun q hq => ?_, fun j hj => ?_, fun j hj => ?_⟩ (cQ_up g4))
  · show B (b + 218 + 2) j = if j = t + 1 then nI x else if j = t then nI y else G j
    by_cases h1 : j = t + 1
    · rw [if_pos h1, h1]; exact b3
    · rw [if_neg h1, b4 j h1]
      by_cases h2 : j = t
      · rw [if_pos h2, h2]; exact a3
      · rw [if_neg h2, a4 j h2]; exact n7 j (by omega)
  · rw [up2_nk _ _ _ (by omega), g1 q (by omega) (by omega), b0 q (by omega) (by omega), a0 q (by omega) (by omega), u0 q (by omega) (by omega) (by omega) (by omega)]
  · rw [up2_nk _ _ _ (by omega), g3 j hj, b0 _ (by omega) (by omega), a0 _ (by omega) (by omega), n5 j hj]
  · rw [up2_nk _ _ _ (by omega), g1 _ (by omega) (by omega), b0 _ (by omega) (by omega), a0 _ (by omega) (by omega), n6 j hj]
/-- nothing to do: an answer -/
theorem cs_ans {s : rSg} {b h st v : Nat} {G : Nat → Int32} (hb : isSeaA rSkel b) (hq : cQ s b h st v 0 G) (hst : st < 1000) (hv9 : v ≤ 60) {y1 y2 y3 : Nat} (hy1 : y1 < 2 ^ 31) (hy3 : y3 < y1) (hy2 : 1 ≤ y2) (hy29 : y2 < 2 ^ 31) {P : Option rv → rSg → Prop}
    (k : ∀ s2 : rSg, (∀ q, (q < b ∨ b + 223 < q ∨ (b < q ∧ q < b + 126) ∨ (b + 129 < q ∧ q < b + 217) ∨ b + 220 < q) → s2 q = s q) → s2 b 8 = nI 0 → s2 b 9 = nI (st + 1) → s2 b 10 = nI 1 → s2 (b + 217) 0 = nI (st + 1) → (∀ j, j < v → s2 (b + 128) j = s (b + 6 + 3 * h + 1) j) → (∀ j, v ≤ j → s2 (b + 128) j = s (b + 128) j) → g_36_2 b (nI y1) (nI y2) (nI (y3 + 1)) s2 P) : g_36_2 b (nI y1) (nI y2) (nI y3) s P := by
  obtain ⟨q1, q2, q3, q4, q5, q6, q7, q8, q9⟩ := hq
  refine cs_pre hb q1 q2 q3 q4 hst q5 q6 (by omega) q7 (by omega) hy1 hy3 hy2 hy29 (fun U cl => ⟨fun q => absurd q (by omega), fun _ => ?_⟩)
  obtain ⟨u0, u7, u8, u9, u10, n2, n3, n4, n5, n6, n7⟩ := cl
  have hnow : isSt (b + 218) := hb.1.2.2.2.2.2.2.1
  have hans : isSt (b + 127 + 3 * 0) := hb.2.2 0 (by decide)
  refine w_39 U b hb.1 ⟨fun q => absurd q (by rw [u10]; decide), fun _ => ⟨fun q => absurd q (by rw [u10]; decide), fun _ => ?_⟩⟩
  rw [u10]
  refine w_40 U b hb.1 (nI 0) ⟨fun q => absurd q (by decide), fun _ => ⟨fun q => absurd q (by decide), fun _ => ⟨by decide, b + 127 + 3 * 0, rfl, hans, _, rfl, hans, ?_⟩⟩⟩
  refine (c_copy hans hnow (by omega) U (v := v) (t := 0) n2 (by omega) n3 (by omega)).imp ?_
  rintro _ T ⟨rfl, f0, f1, f2, f3, f4, f5, f6, f7⟩
  have tb : T b = U b := f0 b (by omega) (by omega) (by omega)
  have e10 : T b 10 = nI 0 := by rw [tb, u10]
  have e9 : T b 9 = nI (st + 1) := by rw [tb, u9]
  rw [e10, e9, show (nI 0).toNatClampNeg = 0 from rfl, show nI 0 + 1 = nI 1 from rfl]
  refine ⟨rfl, by decide, rfl, k _ (fun q hq => ?_) ?_ ?_ ?_ ?_ (fun j hj => ?_) (fun j hj => ?_)⟩
  · rw [up2_nk _ _ _ (by omega), up2_nk _ _ _ (by omega), up2_nk _ _ _ (by omega), f0 q (by omega) (by omega) (by omega), u0 q (by omega) (by omega) (by omega) (by omega)]
  · rw [up2_nj _ _ _ (by decide), up2_nj _ _ _ (by decide), up2_nk _ _ _ (by omega), tb, u8]
  · rw [up2_nj _ _ _ (by decide), up2_nj _ _ _ (by decide), up2_nk _ _ _ (by omega), e9]
  · rw [up2_nj _ _ _ (by decide), up2_same]
  · rw [up2_nk _ _ _ (by omega), up2_nk _ _ _ (by omega), up2_same]
  · rw [up2_nk _ _ _ (by omega), up2_nk _ _ _ (by omega), up2_nk _ _ _ (by omega), show b + 128 = b + 127 + 3 * 0 + 1 by omega, f4 j hj, n5 j hj]
  · rw [up2_nk _ _ _ (by omega), up2_nk _ _ _ (by omega), up2_nk _ _ _ (by omega), show b + 128 = b + 127 + 3 * 0 + 1 by omega, f5 j hj, u0 _ (by omega) (by omega) (by omega) (by omega)]
/-- the end: no state waits -/
theorem cs_end {s : rSg} {b : Nat} (hb : isSeaA rSkel b) (h8 : s b 8 = nI 0) {y1 y2 y3 : Int32} {P : Option rv → rSg → Prop} (k : P none s) : g_36_2 b y1 y2 y3 s P := by
  refine w_36_2 s b hb.1 y1 y2 y3 ⟨fun _ => k, fun _ => w_37 s b hb.1 ⟨fun _ => ⟨_, rfl, fun _ => k, fun q => absurd (by decide) q⟩, fun q => absurd h8 q⟩⟩
theorem cs_out {s : rSg} {b : Nat} (hb : isSeaA rSkel b) {y1 y3 : Nat} (h : y1 = y3) {y2 : Int32} {P : Option rv → rSg → Prop} (k : P none s) : g_36_2 b (nI y1) y2 (nI y3) s P := by
  subst h
  exact w_36_2 s b hb.1 _ y2 _ ⟨fun _ => k, fun q => absurd (Int32.le_refl _) q⟩
