/-! SAFETY OF THE CLASS: its calls -/
def clI (s : rSg) : Prop := seaI s 6 ∧ seaI s 230 ∧ seaI s 454
/-- the letters and the reference's cells stay; it looked at most D times; the searches are within their rows -/
def CR (D : Nat) (s t : rSg) : Prop := (∀ q, q = 687 ∨ q = 688 ∨ 725 ≤ q → t q = s q) ∧ LK D s t ∧ clI t
theorem CR.rfl' {s : rSg} (h : clI s) : CR 0 s s := ⟨fun _ _ => rfl, LK.rfl', h⟩
theorem CR.trans {D E : Nat} {s t u : rSg} (h1 : CR D s t) (h2 : CR E t u) : CR (D + E) s u := ⟨fun q hq => (h2.1 q hq).trans (h1.1 q hq), h1.2.1.trans h2.2.1, h2.2.2⟩
theorem CR.mono {D E : Nat} {s t : rSg} (h : CR D s t) (hd : D ≤ E) : CR E s t := ⟨h.1, h.2.1.mono hd, h.2.2⟩
theorem CR.si {b D : Nat} (hb : b = 6 ∨ b = 230 ∨ b = 454) {s t : rSg} (h : clI s) (g : SI b D s t) : CR D s t := by
  have o : ∀ c, c = 6 ∨ c = 230 ∨ c = 454 → seaI s c → seaI t c := fun c hc hs => by
    by_cases e : c = b
    · rw [e]; exact g.2.2
    · exact hs.ext (g.1 c ⟨by omega, by omega⟩)
  exact ⟨fun q hq => g.1 q ⟨by omega, by omega⟩, g.2.1, o 6 (by simp) h.1, o 230 (by simp) h.2.1, o 454 (by simp) h.2.2⟩
theorem CR.fr {s t : rSg} (h : clI s) (g : ∀ q, q = 687 ∨ q = 688 ∨ 725 ≤ q ∨ q = 1 ∨ q = 5 ∨ q = 6 ∨ q = 230 ∨ q = 454 → t q = s q) : CR 0 s t :=
  ⟨fun q hq => g q (by omega), LK.of (by rw [g 1 (by simp)]) (g 5 (by simp)), h.1.ext (g 6 (by simp)), h.2.1.ext (g 230 (by simp)), h.2.2.ext (g 454 (by simp))⟩
theorem CR.tf {D : Nat} {s t u : rSg} (h : CR D s t) (g : tf t u) : CR D s u := h.trans (CR.fr h.2.2 (fun q hq => g q (by omega)))
theorem CR.sc {D b : Nat} (hb : b = 6 ∨ b = 230 ∨ b = 454) {s t u : rSg} (h : CR D s t) (g : bt (scB (b + 1)) t u) : CR D s u := h.trans (CR.fr h.2.2 (fun q hq => g q (by omega)))
theorem CR.then {D E b : Nat} (hb : b = 6 ∨ b = 230 ∨ b = 454) {s t u : rSg} (h : CR D s t) (g : SI b E t u) : CR (D + E) s u := h.trans (CR.si hb h.2.2 g)
/-- a call that answers an int -/
abbrev okI (D : Nat) (s : rSg) : Option rv → rSg → Prop := fun v t => ∃ n : Int32, v = some (.inl n) ∧ CR D s t
theorem s_72 {D : Nat} {s t : rSg} (h : CR D s t) (x : Int32) : EvS rSkel 1 72 [.inr (.inr (some 0)), .inl x] t (fun v u => ∃ n, v = some (.inl n) ∧ CR D s u) := by
  refine w_72 t x ⟨fun _ => ⟨_, rfl, h⟩, fun h0 => ⟨fun _ => ⟨_, rfl, h⟩, fun h1 => ?_⟩⟩
  have := rIn_of (n := 7) (by decide) h0 h1
  exact ⟨this, this, _, rfl, h.trans (CR.fr h.2.2 (fun q hq => up2_nk _ _ _ (by omega)))⟩
theorem s_72r {D : Nat} {s t : rSg} (h : CR D s t) (x : Int32) : EvS rSkel 1 72 [.inr (.inr (some 0)), .inl x] t (fun v u => ∃ n, v = some (.inl n) ∧ okI D s (some (.inl n)) u) := by
  refine (s_72 h x).imp ?_
  rintro _ u ⟨n, rfl, hu⟩
  exact ⟨n, rfl, n, rfl, hu⟩
theorem s_81 (s : rSg) (x : Int32) : EvS rSkel 1 81 [.inr (.inr (some 0)), .inl x] s (fun v t => ∃ n, v = some (.inl n) ∧ t = s) := w_81 s x ⟨fun _ => ⟨_, rfl, rfl⟩, fun _ => ⟨fun _ => ⟨_, rfl, rfl⟩, fun _ => ⟨_, rfl, rfl⟩⟩⟩
theorem s_82 (s : rSg) (x : Int32) : EvS rSkel 1 82 [.inl x] s (fun v t => ∃ n, v = some (.inl n) ∧ t = s) := w_82 s x ⟨fun _ => ⟨_, rfl, rfl⟩, fun _ => ⟨fun _ => ⟨_, rfl, rfl⟩, fun _ => ⟨_, rfl, rfl⟩⟩⟩
theorem s_208 (s : rSg) (x : Int32) : EvS rSkel 1 208 [.inl x] s (fun v t => ∃ n, v = some (.inl n) ∧ t = s) := w_208 s x ⟨_, rfl, rfl⟩
theorem s_63 (s : rSg) (x : Int32) : EvS rSkel 1 63 [.inr (.inr (some 682)), .inl x] s (fun v t => ∃ n, v = some (.inl n) ∧ t = s) :=
  w_63 s x ⟨fun _ => ⟨_, rfl, rfl⟩, fun h0 => ⟨fun _ => ⟨_, rfl, rfl⟩, fun _ => ⟨fun _ => ⟨_, rfl, rfl⟩, fun h1 => ⟨rIn_of (n := 200) (by decide) h0 h1, _, rfl, rfl⟩⟩⟩⟩
theorem s_17 {r rn : Nat} (hr : isRow r rn) (hrn : rn < 2 ^ 31) (s : rSg) (x : Int32) : EvS rSkel 1 17 [.inr (.inr (some r)), .inl x] s (fun v t => ∃ n, v = some (.inl n) ∧ t = s) :=
  w_17 s r rn hr x ⟨fun _ => ⟨_, rfl, rfl⟩, fun h0 => ⟨fun _ => ⟨_, rfl, rfl⟩, fun _ => ⟨fun _ => ⟨_, rfl, rfl⟩, fun h1 => ⟨rIn_of hrn h0 h1, _, rfl, rfl⟩⟩⟩⟩
theorem s_79 {s : rSg} (h : clI s) : EvS rSkel 1 79 [.inr (.inr (some 0))] s (okI 0 s) := w_79 s ⟨_, rfl, CR.rfl' h⟩
theorem s_80 {s : rSg} (h : clI s) (x y : Int32) : EvS rSkel 5 80 [.inr (.inr (some 0)), .inl x, .inl y] s (okI 0 s) := by
  refine w_80 s x y ((s_81 s x).imp ?_)
  rintro _ s ⟨n1, rfl, rfl⟩
  refine ⟨_, rfl, fun _ => s_72r (CR.rfl' h) _, fun _ => (s_82 s y).imp ?_⟩
  rintro _ s ⟨n2, rfl, rfl⟩
  refine ⟨_, rfl, fun _ => (s_40 seaA6 x).imp ?_, fun _ => s_72r (CR.rfl' h) _⟩
  rintro _ s ⟨q, rfl, hq, _, rfl⟩
  refine ⟨q, rfl, hq, (s_58 scr7 hq s y).imp ?_⟩
  rintro _ t ⟨rfl, ht⟩
  exact ⟨rfl, _, rfl, (CR.rfl' h).tf ht⟩
theorem s_83 {s : rSg} (h : clI s) (x y z : Int32) : EvS rSkel 5 83 [.inr (.inr (some 0)), .inl x, .inl y, .inl z] s (okI 0 s) := by
  refine w_83 s x y z ((s_81 s x).imp ?_)
  rintro _ s ⟨n1, rfl, rfl⟩
  refine ⟨_, rfl, fun _ => s_72r (CR.rfl' h) _, fun _ => (s_82 s y).imp ?_⟩
  rintro _ s ⟨n2, rfl, rfl⟩
  refine ⟨_, rfl, fun _ => ⟨fun _ => (s_40 seaA6 x).imp ?_, fun _ => s_72r (CR.rfl' h) _⟩, fun _ => s_72r (CR.rfl' h) _⟩
  rintro _ s ⟨q, rfl, hq, _, rfl⟩
  refine ⟨q, rfl, hq, (s_58 scr7 hq s y).imp ?_⟩
  rintro _ t ⟨rfl, ht⟩
  refine ⟨rfl, (s_63 t z).imp ?_⟩
  rintro _ t ⟨n3, rfl, rfl⟩
  exact ⟨_, rfl, _, rfl, (CR.rfl' h).tf ht⟩
theorem s_84 {s : rSg} (h : clI s) (x : Int32) : EvS rSkel 2 84 [.inr (.inr (some 0)), .inl x] s (okI 0 s) := by
  refine w_84 s x ((s_81 s x).imp ?_)
  rintro _ s ⟨n1, rfl, rfl⟩
  refine ⟨_, rfl, fun _ => (s_48 seaA6 x).imp ?_, fun _ => s_72r (CR.rfl' h) _⟩
  rintro _ s ⟨n2, rfl, rfl⟩
  exact ⟨_, rfl, _, rfl, CR.rfl' h⟩
theorem s_85 {s : rSg} (h : clI s) (x : Int32) : EvS rSkel 2 85 [.inr (.inr (some 0)), .inl x] s (okI 0 s) := by
  refine w_85 s x ((s_81 s x).imp ?_)
  rintro _ s ⟨n1, rfl, rfl⟩
  refine ⟨_, rfl, fun _ => (s_40 seaA6 x).imp ?_, fun _ => s_72r (CR.rfl' h) _⟩
  rintro _ s ⟨q, rfl, hq, _, rfl⟩
  refine ⟨q, rfl, hq, (s_208 s _).imp ?_⟩
  rintro _ s ⟨n2, rfl, rfl⟩
  exact ⟨_, rfl, _, rfl, CR.rfl' h⟩
theorem s_86 {s : rSg} (h : clI s) (x : Int32) : EvS rSkel 3 86 [.inr (.inr (some 0)), .inl x] s (okI 0 s) := by
  have k := CR.rfl' h
  refine w_86 s x ⟨fun _ => ⟨_, rfl, k⟩, fun _ => ⟨_, rfl, k⟩, fun _ => ⟨_, rfl, k⟩, fun _ => ⟨fun _ => (s_38 seaA6 h.1).imp ?_, fun _ => ⟨_, rfl, k⟩⟩, fun _ => ⟨fun _ => (s_38 seaA6 h.1).imp ?_, fun _ => ⟨_, rfl, k⟩⟩, fun _ => ⟨fun _ => (s_38 seaA6 h.1).imp ?_, fun _ => ⟨_, rfl, k⟩⟩, fun _ => s_72r k _⟩
  · rintro _ s ⟨q, rfl, hq, _, _, rfl⟩
    exact ⟨q, rfl, hq, _, rfl, k⟩
  · rintro _ s ⟨q, rfl, hq, _, _, rfl⟩
    refine ⟨q, rfl, hq, (s_208 s _).imp ?_⟩
    rintro _ s ⟨n2, rfl, rfl⟩
    exact ⟨_, rfl, _, rfl, k⟩
  · rintro _ s ⟨q, rfl, hq, _, _, rfl⟩
    exact ⟨q, rfl, hq, _, rfl, k⟩
theorem s_87 {s : rSg} (h : clI s) : EvS rSkel 2 87 [.inr (.inr (some 0))] s (okI 0 s) := by
  have k := CR.rfl' h
  refine w_87 s (w_37 s 6 sea6 ⟨fun _ => ?_, fun _ => ⟨fun _ => ?_, fun _ => ?_⟩⟩)
  all_goals exact ⟨_, rfl, fun _ => ⟨_, rfl, k⟩, fun _ => ⟨_, rfl, k⟩⟩
theorem s_75 {s : rSg} (h : clI s) (x : Int32) : EvS rSkel 8 75 [.inr (.inr (some 0)), .inl x] s (okI (100 * stL) s) := by
  have k := (CR.rfl' h).mono (E := 100 * stL) (by omega)
  refine w_75 s x ⟨fun h1 => ⟨fun _ => s_72r k _, fun h2 => ⟨fun _ => ?_, fun _ => s_72r k _⟩⟩, fun _ => s_72r k _⟩
  have h0 : ¬ x < 0 := fun q => by
    have a := Int32.le_iff_toInt_le.mp h1
    have b := Int32.lt_iff_toInt_lt.mp q
    have e0 : (0 : Int32).toInt = 0 := rfl
    have e1 : (1 : Int32).toInt = 1 := rfl
    omega
  obtain ⟨n, hn, rfl⟩ := nn_of h0
  have n9 : n ≤ 100 := by
    have : ¬ 100 < n := fun q => h2 ((nI_ltI (a := 100) (by decide) hn).mpr q)
    omega
  refine (s_36 seaA6 h.1 hn 30).imp ?_
  rintro _ t ⟨rfl, ht⟩
  exact ⟨rfl, _, rfl, (CR.si (Or.inl rfl) h ht).mono (Nat.mul_le_mul_right _ n9)⟩
theorem s_95 {s : rSg} (h : clI s) (x : Int32) : EvS rSkel 8 95 [.inr (.inr (some 0)), .inl x] s (okI (300 * stL) s) := by
  have k := CR.rfl' h
  have k9 := k.mono (E := 300 * stL) (by omega)
  refine w_95 s x ⟨fun h1 => ⟨fun _ => (s_26 scr231 scr7 (by omega) s).imp ?_, fun _ => s_72r k9 _⟩, fun _ => s_72r k9 _⟩
  rintro _ t ⟨rfl, ht⟩
  have gt := k.sc (b := 230) (by simp) ht
  refine ⟨rfl, (s_33 seaA230 t).imp ?_⟩
  rintro _ u ⟨rfl, hu⟩
  have gu := gt.then (by simp) hu
  refine ⟨rfl, (s_36 seaA230 (N := 300) gu.2.2.2.1 (by decide) x).imp ?_⟩
  rintro _ w ⟨rfl, hw⟩
  have gw := (gu.then (by simp) hw).mono (E := 300 * stL) (by omega)
  refine ⟨rfl, fun _ => (s_48 seaA230 _).imp ?_, fun _ => ⟨_, rfl, gw⟩⟩
  rintro _ w ⟨n, rfl, rfl⟩
  exact ⟨_, rfl, _, rfl, gw⟩
theorem s_97 {D : Nat} {s0 s : rSg} (k : CR D s0 s) (x y : Int32) : EvS rSkel 4 97 [.inr (.inr (some 0)), .inl x, .inl y] s (fun v t => v = none ∧ CR D s0 t) := by
  refine w_97 s x y ((s_26 scr231 scr7 (by omega) s).imp ?_)
  rintro _ t1 ⟨rfl, h1⟩
  refine ⟨rfl, (s_21 scr231 t1 _).imp ?_⟩
  rintro _ t2 ⟨n2, rfl, h2⟩
  refine ⟨_, rfl, (s_22 scr231 t2 _ _ _).imp ?_⟩
  rintro _ t3 ⟨rfl, h3⟩
  refine ⟨rfl, (s_22 scr231 t3 _ _ _).imp ?_⟩
  rintro _ t4 ⟨rfl, h4⟩
  refine ⟨rfl, (s_21 scr231 t4 _).imp ?_⟩
  rintro _ t5 ⟨n5, rfl, h5⟩
  refine ⟨_, rfl, (s_22 scr231 t5 _ _ _).imp ?_⟩
  rintro _ t6 ⟨rfl, h6⟩
  refine ⟨rfl, (s_22 scr231 t6 _ _ _).imp ?_⟩
  rintro _ t7 ⟨rfl, h7⟩
  refine ⟨rfl, (s_25 scr231 t7 _ _).imp ?_⟩
  rintro _ t8 ⟨rfl, h8⟩
  have g8 := k.sc (b := 230) (by simp) (((((((h1.trans h2).trans h3).trans h4).trans h5).trans h6).trans h7).trans h8)
  refine ⟨rfl, (s_33 seaA230 t8).imp ?_⟩
  rintro _ t9 ⟨rfl, h9⟩
  exact ⟨rfl, rfl, g8.then (by simp) h9⟩
theorem s_96 {s : rSg} (h : clI s) (x y : Int32) : EvS rSkel 8 96 [.inr (.inr (some 0)), .inl x, .inl y] s (okI (120 * stL) s) := by
  have k := CR.rfl' h
  have k9 := k.mono (E := 120 * stL) (by omega)
  refine w_96 s x y ((s_82 s x).imp ?_)
  rintro _ s ⟨n1, rfl, rfl⟩
  refine ⟨_, rfl, fun _ => ⟨fun _ => ⟨fun _ => (s_97 k x y).imp ?_, fun _ => s_72r k9 _⟩, fun _ => s_72r k9 _⟩, fun _ => s_72r k9 _⟩
  rintro _ t ⟨rfl, ht⟩
  refine ⟨rfl, (s_36 seaA230 (N := 120) ht.2.2.2.1 (by decide) 30).imp ?_⟩
  rintro _ w ⟨rfl, hw⟩
  exact ⟨rfl, _, rfl, (ht.then (by simp) hw).mono (by omega)⟩
theorem s_98b {s0 : rSg} (x : Int32) {P : Option rv → rSg → Prop} (hP : ∀ n t, CR (10 * (120 * stL)) s0 t → P (some (.inl n)) t) : ∀ (m y : Nat) (s : rSg), y + m = 10 → CR (y * (120 * stL)) s0 s → g_98_15 x (nI y) s P := by
  intro m
  induction m with
  | zero =>
    intro y s hy hs
    obtain rfl : y = 10 := by omega
    exact w_98_15 s x (nI 10) ⟨fun _ => hP _ _ hs, fun q => absurd (by decide) q⟩
  | succ m ih =>
    intro y s hy hs
    refine w_98_15 s x (nI y) ⟨fun _ => hP _ _ (hs.mono (Nat.mul_le_mul_right _ (by omega))), fun _ => (s_97 hs x _).imp ?_⟩
    rintro _ t ⟨rfl, ht⟩
    refine ⟨rfl, (s_36 seaA230 (N := 120) ht.2.2.2.1 (by decide) 1).imp ?_⟩
    rintro _ w ⟨rfl, hw⟩
    have gw : CR ((y + 1) * (120 * stL)) s0 w := (ht.then (by simp) hw).mono (by rw [Nat.add_mul, Nat.one_mul]; exact Nat.le_refl _)
    rw [nI_1]
    exact ⟨rfl, fun _ => ih (y + 1) w (by omega) gw, fun _ => hP _ _ (gw.mono (Nat.mul_le_mul_right _ (by omega)))⟩
theorem s_98 {s : rSg} (h : clI s) (x : Int32) : EvS rSkel 8 98 [.inr (.inr (some 0)), .inl x] s (okI (10 * (120 * stL)) s) := by
  have k := CR.rfl' h
  refine w_98 s x ((s_82 s x).imp ?_)
  rintro _ s ⟨n1, rfl, rfl⟩
  exact ⟨_, rfl, fun _ => s_98b x (fun n t ht => ⟨n, rfl, ht⟩) 10 0 s rfl (k.mono (by omega)), fun _ => s_72r (k.mono (by omega)) _⟩
theorem s_103b {s : rSg} (x : Int32) {N : Nat} (hN : N < 2 ^ 31) {P : Option rv → rSg → Prop} (hP : ∀ n, P (some (.inl n)) s) : ∀ (m y : Nat), y + m = N → g_103_10 (nI N) (nI y) s P := by
  intro m
  induction m with
  | zero =>
    intro y hy
    obtain rfl : y = N := by omega
    exact w_103_10 s _ _ ⟨fun _ => hP _, fun q => absurd (nI_le (by omega) (by omega)) q⟩
  | succ m ih =>
    intro y hy
    refine w_103_10 s _ _ ⟨fun _ => hP _, fun _ => ⟨fun _ => hP _, fun _ => (s_17 row689 (by decide) s _).imp ?_⟩⟩
    rintro _ s ⟨n1, rfl, rfl⟩
    refine ⟨_, rfl, (s_63 s _).imp ?_⟩
    rintro _ s ⟨n2, rfl, rfl⟩
    rw [nI_1]
    exact ⟨_, rfl, fun _ => ih (y + 1) (by omega), fun _ => hP _⟩
theorem s_103 (s : rSg) : EvS rSkel 2 103 [.inr (.inr (some 0))] s (fun v t => ∃ n, v = some (.inl n) ∧ t = s) := by
  refine w_103 s (w_16 s 689 32 row689 ⟨_, rfl, ?_⟩)
  by_cases h : s 689 1 < 0
  · refine w_103_10 s _ _ ⟨fun _ => ⟨_, rfl, rfl⟩, fun q => absurd ?_ q⟩
    exact Int32.le_iff_toInt_le.mpr (by have := Int32.lt_iff_toInt_lt.mp h; omega)
  · obtain ⟨n, hn, e⟩ := nn_of h
    rw [e]
    exact s_103b 0 hn (fun n => ⟨n, rfl, rfl⟩) n 0 (by omega)
theorem s_18 {D : Nat} {s t : rSg} (h : CR D s t) : EvS rSkel 1 18 [.inr (.inr (some 689))] t (fun v u => v = none ∧ CR D s u) := w_18 t 689 32 row689 ⟨rfl, h.trans (CR.fr h.2.2 (fun q hq => up2_nk _ _ _ (by omega)))⟩
theorem s_18r {D : Nat} {s t : rSg} (h : CR D s t) (n : Int32) : EvS rSkel 1 18 [.inr (.inr (some 689))] t (fun v u => v = none ∧ okI D s (some (.inl n)) u) := by
  refine (s_18 h).imp ?_
  rintro _ u ⟨rfl, hu⟩
  exact ⟨rfl, n, rfl, hu⟩
theorem s_105 {s : rSg} (h : clI s) (x : Int32) : EvS rSkel 5 105 [.inr (.inr (some 0)), .inl x] s (okI 0 s) := by
  have k := CR.rfl' h
  refine w_105 s x ((s_81 s x).imp ?_)
  rintro _ s ⟨n1, rfl, rfl⟩
  refine ⟨_, rfl, fun _ => (s_40 seaA6 x).imp ?_, fun _ => s_72r k _⟩
  rintro _ s ⟨q, rfl, hq, _, rfl⟩
  refine ⟨q, rfl, hq, (s_58 scr7 hq s 0).imp ?_⟩
  rintro _ t ⟨rfl, ht⟩
  have gt := k.tf ht
  refine ⟨rfl, (s_103 t).imp ?_⟩
  rintro _ t ⟨n2, rfl, rfl⟩
  refine ⟨_, rfl, w_16 t 689 32 row689 ?_⟩
  exact ⟨_, rfl, fun _ => s_18r gt _, fun _ => ⟨fun _ => s_18r gt _, fun _ => s_18r gt _⟩⟩
theorem s_106 {s : rSg} (h : clI s) : EvS rSkel 2 106 [.inr (.inr (some 0))] s (okI 0 s) := w_106 s (w_16 s 689 32 row689 ⟨_, rfl, s_18r (CR.rfl' h) _⟩)
theorem s_104 {s : rSg} (h : clI s) (x : Int32) : EvS rSkel 2 104 [.inr (.inr (some 0)), .inl x] s (okI 0 s) := by
  have k := CR.rfl' h
  refine w_104 s x ⟨fun _ => ⟨fun _ => s_72r k _, fun _ => ?_⟩, fun _ => s_72r k _⟩
  have body : ∀ n : Int32, ∃ n10, some (.inl n : rv) = some (.inl n10) ∧ (n10 = 0 → EvS rSkel 1 15 [.inr (.inr (some 689)), .inl x] s (fun v12 t13 => ∃ n15, v12 = some (.inl n15) ∧ okI 0 s (some (.inl n15)) t13)) ∧ (¬ (n10 = 0) → EvS rSkel 1 72 [.inr (.inr (some 0)), .inl ((-6))] s (fun v16 t17 => ∃ n19, v16 = some (.inl n19) ∧ okI 0 s (some (.inl n19)) t17)) := fun n => by
    refine ⟨_, rfl, fun _ => w_15 s 689 32 row689 x ⟨fun _ => ⟨_, rfl, _, rfl, k⟩, fun h0 => ⟨fun _ => ⟨_, rfl, _, rfl, k⟩, fun h1 => ⟨rIn_of (n := 32) (by decide) h0 h1, _, rfl, _, rfl, CR.fr h (fun q hq => ?_)⟩⟩⟩, fun _ => s_72r k _⟩
    rw [up2_nk _ _ _ (by omega), up2_nk _ _ _ (by omega)]
  exact w_14 s 689 32 row689 ⟨fun _ => body 0, fun _ => body 1⟩
theorem s_110 {s : rSg} (h : clI s) : EvS rSkel 4 110 [.inr (.inr (some 0))] s (okI 0 s) := by
  refine w_110 s ((s_49 seaA454 seaA6 (by omega) h.2.2 h.1).imp ?_)
  rintro _ t ⟨rfl, ht⟩
  have gt := CR.si (by simp) h ht
  exact ⟨rfl, _, rfl, gt.trans (CR.fr gt.2.2 (fun q hq => up2_nk _ _ _ (by omega)))⟩
theorem s_111 {s : rSg} (h : clI s) : EvS rSkel 4 111 [.inr (.inr (some 0))] s (okI 0 s) := by
  refine w_111 s ⟨fun _ => (s_49 seaA6 seaA454 (by omega) h.1 h.2.2).imp ?_, fun _ => s_72r (CR.rfl' h) _⟩
  rintro _ t ⟨rfl, ht⟩
  exact ⟨rfl, _, rfl, CR.si (by simp) h ht⟩
