/-! SAFETY OF THE CLASS: the other calls -/
theorem s_91b {a c : Nat} (ha : a < 30) (hc : c < 30) {s : rSg} {P : Option rv → rSg → Prop} (hP : ∀ n : Int32, P (some (.inl n)) s) : ∀ (m y : Nat), y + m = 200 → g_91_39 (nI a) (nI c) (nI y) s P := by
  have ra : rIn (nI a) 30 = true := rIn_nI ha (by decide)
  have rc : rIn (nI c) 30 = true := rIn_nI hc (by decide)
  have ea : (fun i => if i < 30 then some (694 + i) else none) (nI a).toNatClampNeg = some (694 + a) := by
    rw [nI_clamp (by omega)]
    exact if_pos ha
  have ec : (fun i => if i < 30 then some (694 + i) else none) (nI c).toNatClampNeg = some (694 + c) := by
    rw [nI_clamp (by omega)]
    exact if_pos hc
  intro m
  induction m with
  | zero =>
    intro y hy
    obtain rfl : y = 200 := by omega
    exact w_91_39 s _ _ _ ⟨ra, fun _ => hP _, fun _ => ⟨fun _ => hP _, fun q => absurd (by decide) q⟩⟩
  | succ m ih =>
    intro y hy
    have ry : rIn (nI y) 200 = true := rIn_nI (by omega) (by decide)
    refine w_91_39 s _ _ _ ⟨ra, fun _ => hP _, fun _ => ⟨fun _ => hP _, fun _ => ⟨ra, _, ea, arr_txt ha, ry, rc, _, ec, arr_txt hc, ry, fun _ => ?_, fun _ => hP _⟩⟩⟩
    rw [nI_1]
    exact ih (y + 1) (by omega)
theorem s_91 (s : rSg) (x y : Int32) : EvS rSkel 1 91 [.inr (.inr (some 0)), .inl x, .inl y] s (fun v t => ∃ n, v = some (.inl n) ∧ t = s) := by
  refine w_91 s x y ⟨fun _ => ⟨_, rfl, rfl⟩, fun h0 => ⟨fun _ => ⟨_, rfl, rfl⟩, fun h1 => ⟨fun _ => ⟨_, rfl, rfl⟩, fun h2 => ⟨fun _ => ⟨_, rfl, rfl⟩, fun h3 => ?_⟩⟩⟩⟩
  obtain ⟨a, ha, rfl⟩ := nn_lt (n := 30) (by decide) h0 h2
  obtain ⟨c, hc, rfl⟩ := nn_lt (n := 30) (by decide) h1 h3
  exact ⟨rIn_nI ha (by decide), rIn_nI hc (by decide), fun _ => s_91b ha hc (fun n => ⟨n, rfl, rfl⟩) 200 0 rfl, fun _ => ⟨_, rfl, rfl⟩⟩
theorem s_90b {s : rSg} {N : Nat} (hN : N < 2 ^ 31) {P : Option rv → rSg → Prop} (hP : ∀ n : Int32, P (some (.inl n)) s) : ∀ (m y : Nat), y + m = N → g_90_2 (nI N) (nI y) s P := by
  intro m
  induction m with
  | zero =>
    intro y hy
    obtain rfl : y = N := by omega
    exact w_90_2 s _ _ ⟨fun _ => hP _, fun q => absurd (nI_le (by omega) (by omega)) q⟩
  | succ m ih =>
    intro y hy
    refine w_90_2 s _ _ ⟨fun _ => hP _, fun _ => (s_91 s _ _).imp ?_⟩
    rintro _ s ⟨n1, rfl, rfl⟩
    rw [nI_1]
    exact ⟨_, rfl, fun _ => ih (y + 1) (by omega), fun _ => hP _⟩
theorem s_90 (s : rSg) (x : Int32) : EvS rSkel 2 90 [.inr (.inr (some 0)), .inl x] s (fun v t => ∃ n, v = some (.inl n) ∧ t = s) := by
  refine w_90 s x ?_
  by_cases h : x < 0
  · refine w_90_2 s _ _ ⟨fun _ => ⟨_, rfl, rfl⟩, fun q => absurd ?_ q⟩
    exact Int32.le_iff_toInt_le.mpr (by have := Int32.lt_iff_toInt_lt.mp h; omega)
  · obtain ⟨n, hn, rfl⟩ := nn_of h
    exact s_90b hn (fun n => ⟨n, rfl, rfl⟩) n 0 (by omega)
theorem s_89c {D : Nat} {s0 : rSg} {i : Nat} (hi : i < 30) {x y : Int32} {P : Option rv → rSg → Prop} (nxt : ∀ t, CR D s0 t → g_89_2 x y (nI i + 1) t P) : ∀ (m k : Nat) (s : rSg), k + m = 200 → CR D s0 s → g_89_52 x y (nI i) (nI k) s P := by
  have ri : rIn (nI i) 30 = true := rIn_nI hi (by decide)
  have ei : (fun i => if i < 30 then some (694 + i) else none) (nI i).toNatClampNeg = some (694 + i) := by
    rw [nI_clamp (by omega)]
    exact if_pos hi
  intro m
  induction m with
  | zero =>
    intro k s hk hs
    obtain rfl : k = 200 := by omega
    exact w_89_52 s _ _ _ _ ⟨fun _ => nxt s hs, fun _ => ⟨fun _ => nxt s hs, fun q => absurd (by decide) q⟩⟩
  | succ m ih =>
    intro k s hk hs
    refine w_89_52 s _ _ _ _ ⟨fun _ => nxt s hs, fun _ => ⟨fun _ => nxt s hs, fun _ => ⟨ri, _, ei, arr_txt hi, (s_63 s _).imp ?_⟩⟩⟩
    rintro _ s ⟨n1, rfl, rfl⟩
    rw [nI_1]
    exact ⟨_, rfl, rIn_nI (by omega) (by decide), ih (k + 1) _ (by omega) (hs.trans (CR.fr hs.2.2 (fun q hq => up2_nk _ _ _ (by omega))))⟩
theorem s_89b {D : Nat} {s0 : rSg} (x y : Int32) {P : Option rv → rSg → Prop} (hP : ∀ t, CR D s0 t → P none t) : ∀ (m i : Nat) (s : rSg), i + m = 30 → CR D s0 s → g_89_2 x y (nI i) s P := by
  intro m
  induction m with
  | zero =>
    intro i s hi hs
    obtain rfl : i = 30 := by omega
    exact w_89_2 s _ _ _ ⟨fun _ => hP s hs, fun _ => ⟨fun _ => hP s hs, fun q => absurd (by decide) q⟩⟩
  | succ m ih =>
    intro i s hi hs
    refine w_89_2 s _ _ _ ⟨fun _ => hP s hs, fun _ => ⟨fun _ => hP s hs, fun _ => (s_40 seaA6 _).imp ?_⟩⟩
    rintro _ s ⟨q, rfl, hq, _, rfl⟩
    refine ⟨q, rfl, hq, (s_58 scr7 hq s y).imp ?_⟩
    rintro _ t ⟨rfl, ht⟩
    have gt := hs.tf ht
    refine ⟨rfl, rIn_nI (by omega) (by decide), s_89c (by omega) (fun u hu => ?_) 200 0 _ rfl (gt.trans (CR.fr gt.2.2 (fun q hq => up2_nk _ _ _ (by omega))))⟩
    rw [nI_1]
    exact ih (i + 1) u (by omega) hu
theorem s_89 {D : Nat} {s0 s : rSg} (h : CR D s0 s) (x y : Int32) : EvS rSkel 5 89 [.inr (.inr (some 0)), .inl x, .inl y] s (fun v t => v = none ∧ CR D s0 t) := w_89 s x y (s_89b x y (fun t ht => ⟨rfl, ht⟩) 30 0 s rfl h)
theorem s_88b {s0 : rSg} {P : Option rv → rSg → Prop} (hP : ∀ n t, CR 0 s0 t → P (some (.inl n)) t) : ∀ (m y : Nat) (c : Int32) (s : rSg), y + m = 30 → CR 0 s0 s → g_88_29 c (nI y) s P := by
  intro m
  induction m with
  | zero =>
    intro y c s hy hs
    obtain rfl : y = 30 := by omega
    refine w_88_29 s _ _ ⟨fun _ => hP _ s hs, fun q => ?_⟩
    obtain ⟨_, _, f, _, _, _, _, h10, hf⟩ := hs.2.2.1
    exact absurd (by rw [h10]; exact nI_le (by omega) (by omega)) q
  | succ m ih =>
    intro y c s hy hs
    refine w_88_29 s _ _ ⟨fun _ => hP _ s hs, fun _ => (s_90 s _).imp ?_⟩
    rintro _ s ⟨n1, rfl, rfl⟩
    rw [nI_1]
    exact ⟨_, rfl, fun _ => ih (y + 1) _ s (by omega) hs, fun _ => ih (y + 1) _ s (by omega) hs⟩
theorem s_88 {s : rSg} (h : clI s) (x : Int32) : EvS rSkel 6 88 [.inr (.inr (some 0)), .inl x] s (okI 0 s) := by
  refine w_88 s x ((s_82 s x).imp ?_)
  rintro _ s ⟨n1, rfl, rfl⟩
  refine ⟨_, rfl, fun _ => (s_89 (CR.rfl' h) _ x).imp ?_, fun _ => s_72r (CR.rfl' h) _⟩
  rintro _ t ⟨rfl, ht⟩
  exact ⟨rfl, s_88b (fun n t ht => ⟨n, rfl, ht⟩) 30 0 0 t rfl ht⟩
theorem s_92 {s : rSg} (h : clI s) (x y : Int32) : EvS rSkel 6 92 [.inr (.inr (some 0)), .inl x, .inl y] s (okI 0 s) := by
  refine w_92 s x y ((s_81 s x).imp ?_)
  rintro _ s ⟨n1, rfl, rfl⟩
  refine ⟨_, rfl, fun _ => s_72r (CR.rfl' h) _, fun _ => (s_82 s y).imp ?_⟩
  rintro _ s ⟨n2, rfl, rfl⟩
  refine ⟨_, rfl, fun _ => (s_89 (CR.rfl' h) _ y).imp ?_, fun _ => s_72r (CR.rfl' h) _⟩
  rintro _ t ⟨rfl, ht⟩
  refine ⟨rfl, (s_90 t x).imp ?_⟩
  rintro _ t ⟨n3, rfl, rfl⟩
  exact ⟨_, rfl, _, rfl, ht⟩
theorem s_101b {s : rSg} {P : Option rv → rSg → Prop} (hP : ∀ n : Int32, P (some (.inl n)) s) : ∀ (m k : Nat) (x y : Int32), k + m = 64 → g_101_7 x y (nI k) s P := by
  intro m
  induction m with
  | zero =>
    intro k x y hk
    obtain rfl : k = 64 := by omega
    exact w_101_7 s _ _ _ ⟨fun _ => hP _, fun q => absurd (by decide) q⟩
  | succ m ih =>
    intro k x y hk
    refine w_101_7 s _ _ _ ⟨fun _ => hP _, fun _ => ⟨fun _ => hP _, fun h => ⟨fun e => h (by rw [e]; decide), ?_⟩⟩⟩
    rw [nI_1]
    exact ih (k + 1) _ _ (by omega)
theorem s_101 (s : rSg) (x y : Int32) : EvS rSkel 1 101 [.inl x, .inl y] s (fun v t => ∃ n, v = some (.inl n) ∧ t = s) := w_101 s x y (s_101b (fun n => ⟨n, rfl, rfl⟩) 64 0 x y rfl)
/-- a call that answers a long -/
abbrev okL (D : Nat) (s : rSg) : Option rv → rSg → Prop := fun v t => ∃ n : Int64, v = some (.inr (.inl n)) ∧ CR D s t
theorem s_100b {s : rSg} (h : clI s) (x : Int32) : g_100_21 x s (okL 0 s) := by
  have k := CR.rfl' h
  refine w_100_21 s x ⟨fun _ => (s_101 s _ _).imp ?_, fun _ => ⟨_, rfl, k⟩⟩
  rintro _ s ⟨n, rfl, rfl⟩
  have nz : 1 ≤ n → ¬ n = 0 := fun q e => absurd (e ▸ q) (by decide)
  exact ⟨_, rfl, fun _ => ⟨fun q => ⟨nz q, _, rfl, k⟩, fun _ => ⟨_, rfl, k⟩⟩, fun _ => ⟨fun q => ⟨nz q, _, rfl, k⟩, fun _ => ⟨_, rfl, k⟩⟩⟩
theorem s_100 {s : rSg} (h : clI s) (x : Int32) : EvS rSkel 2 100 [.inr (.inr (some 0)), .inl x] s (okL 0 s) := by
  refine w_100 s x ⟨fun _ => s_100b h x, fun _ => ⟨fun _ => s_100b h x, fun _ => (s_72 (CR.rfl' h) _).imp ?_⟩⟩
  rintro _ t ⟨n, rfl, ht⟩
  exact ⟨_, rfl, _, rfl, ht⟩
theorem s_102b {s0 : rSg} (x : Int32) {P : Option rv → rSg → Prop} (hP : ∀ n t, CR (10 * (120 * stL)) s0 t → P (some (.inl n)) t) : ∀ (m y : Nat) (c : Int32) (s : rSg), y + m = 10 → CR (y * (120 * stL)) s0 s → g_102_17 x c (nI y) s P := by
  intro m
  induction m with
  | zero =>
    intro y c s hy hs
    obtain rfl : y = 10 := by omega
    exact w_102_17 s x _ (nI 10) ⟨fun _ => hP _ _ hs, fun q => absurd (by decide) q⟩
  | succ m ih =>
    intro y c s hy hs
    refine w_102_17 s x _ (nI y) ⟨fun _ => hP _ _ (hs.mono (Nat.mul_le_mul_right _ (by omega))), fun _ => (s_97 hs x _).imp ?_⟩
    rintro _ t ⟨rfl, ht⟩
    refine ⟨rfl, (s_36 seaA230 (N := 120) ht.2.2.2.1 (by decide) 1).imp ?_⟩
    rintro _ w ⟨rfl, hw⟩
    have gw : CR ((y + 1) * (120 * stL)) s0 w := (ht.then (by simp) hw).mono (by rw [Nat.add_mul, Nat.one_mul]; exact Nat.le_refl _)
    rw [nI_1]
    refine ⟨rfl, fun _ => ih (y + 1) _ w (by omega) gw, fun _ => (s_40 seaA230 0).imp ?_⟩
    rintro _ w ⟨q, rfl, hq, _, rfl⟩
    refine ⟨q, rfl, hq, (s_58 scr231 hq w 0).imp ?_⟩
    rintro _ u ⟨rfl, hu⟩
    have gu := gw.tf hu
    refine ⟨rfl, (s_103 u).imp ?_⟩
    rintro _ u ⟨n2, rfl, rfl⟩
    refine ⟨_, rfl, w_16 u 689 32 row689 ?_⟩
    exact ⟨_, rfl, fun _ => ih (y + 1) _ u (by omega) gu, fun _ => ih (y + 1) _ u (by omega) gu⟩
theorem s_102 {s : rSg} (h : clI s) (x : Int32) : EvS rSkel 8 102 [.inr (.inr (some 0)), .inl x] s (okI (10 * (120 * stL)) s) := by
  have k := CR.rfl' h
  refine w_102 s x ((s_82 s x).imp ?_)
  rintro _ s ⟨n1, rfl, rfl⟩
  exact ⟨_, rfl, fun _ => s_102b x (fun n t ht => ⟨n, rfl, ht⟩) 10 0 0 s rfl (k.mono (by omega)), fun _ => s_72r (k.mono (by omega)) _⟩
theorem s_99b {s : rSg} (h : clI s) (x : Int32) : g_99_16 x s (okI (120 * stL) s) := by
  have k := CR.rfl' h
  refine w_99_16 s x ((s_29 scr7 s _).imp ?_)
  rintro _ s ⟨n1, rfl, rfl⟩
  have body : EvS rSkel 2 26 [.inr (.inr (some 231)), .inr (.inr (some 7))] s (fun v12 t13 => v12 = none ∧
          EvS rSkel 1 28 [.inr (.inr (some 7)), .inl (t13 7 5), .inl 1] t13 (fun v15 t16 => ∃ n18, v15 = some (.inl n18) ∧
            EvS rSkel 1 22 [.inr (.inr (some 231)), .inl (t13 231 5), .inl 0, .inl n18] t16 (fun v19 t20 => v19 = none ∧
              EvS rSkel 1 28 [.inr (.inr (some 7)), .inl (t20 7 5), .inl 0] t20 (fun v22 t23 => ∃ n25, v22 = some (.inl n25) ∧
                EvS rSkel 1 22 [.inr (.inr (some 231)), .inl (t20 231 5), .inl 1, .inl n25] t23 (fun v26 t27 => v26 = none ∧
                  EvS rSkel 3 33 [.inr (.inr (some 230))] t27 (fun v29 t30 => v29 = none ∧
                    EvS rSkel 7 36 [.inr (.inr (some 230)), .inl 120, .inl 30] t30 (fun v32 t33 => v32 = none ∧
                      (¬ x = 0 → 
                        (¬ (t33 230 10) = 0 → 
                          EvS rSkel 1 48 [.inr (.inr (some 230)), .inl 0] t33 (fun v37 t38 => ∃ n40, v37 = some (.inl n40) ∧
                            okI (120 * stL) s (some (.inl n40)) t38)) ∧
                        (¬ (¬ (t33 230 10) = 0) → 
                          okI (120 * stL) s (some (.inl ((-9)))) t33)) ∧
                      (¬ (¬ x = 0) → 
                        okI (120 * stL) s (some (.inl (t33 230 10))) t33)))))))) := by
    refine (s_26 scr231 scr7 (by omega) s).imp ?_
    rintro _ t1 ⟨rfl, h1⟩
    refine ⟨rfl, (s_28 scr7 t1 _ _).imp ?_⟩
    rintro _ t1 ⟨n2, rfl, rfl⟩
    refine ⟨_, rfl, (s_22 scr231 t1 _ _ _).imp ?_⟩
    rintro _ t2 ⟨rfl, h2⟩
    refine ⟨rfl, (s_28 scr7 t2 _ _).imp ?_⟩
    rintro _ t2 ⟨n3, rfl, rfl⟩
    refine ⟨_, rfl, (s_22 scr231 t2 _ _ _).imp ?_⟩
    rintro _ t3 ⟨rfl, h3⟩
    have g3 := k.sc (b := 230) (by simp) ((h1.trans h2).trans h3)
    refine ⟨rfl, (s_33 seaA230 t3).imp ?_⟩
    rintro _ t4 ⟨rfl, h4⟩
    have g4 := g3.then (by simp) h4
    refine ⟨rfl, (s_36 seaA230 (N := 120) g4.2.2.2.1 (by decide) 30).imp ?_⟩
    rintro _ t5 ⟨rfl, h5⟩
    have g5 := (g4.then (by simp) h5).mono (E := 120 * stL) (by omega)
    refine ⟨rfl, fun _ => ⟨fun _ => (s_48 seaA230 0).imp ?_, fun _ => ⟨_, rfl, g5⟩⟩, fun _ => ⟨_, rfl, g5⟩⟩
    rintro _ t5 ⟨n6, rfl, rfl⟩
    exact ⟨_, rfl, _, rfl, g5⟩
  exact ⟨_, rfl, fun _ => body, fun _ => ⟨fun _ => body, fun _ => s_72r (k.mono (by omega)) _⟩⟩
theorem s_99 {s : rSg} (h : clI s) (x : Int32) : EvS rSkel 8 99 [.inr (.inr (some 0)), .inl x] s (okI (120 * stL) s) :=
  w_99 s x ⟨fun _ => s_99b h x, fun _ => ⟨fun _ => s_99b h x, fun _ => s_72r ((CR.rfl' h).mono (by omega)) _⟩⟩
theorem s_112b {s : rSg} (h : clI s) (x : Int32) : g_112_22 x s (okI 0 s) := by
  have k := CR.rfl' h
  exact w_112_22 s x ⟨fun _ => ⟨_, rfl, k⟩, fun _ => ⟨_, rfl, k⟩, fun _ => ⟨_, rfl, k⟩, fun _ => ⟨_, rfl, k⟩, fun _ => ⟨_, rfl, k⟩, fun _ => ⟨_, rfl, k⟩, fun _ => w_16 s 689 32 row689 ⟨_, rfl, _, rfl, k⟩, fun _ => w_16 s 687 96 row687 ⟨_, rfl, _, rfl, k⟩, fun _ => ⟨_, rfl, k⟩⟩
theorem s_112 {s : rSg} (h : clI s) (x : Int32) : EvS rSkel 2 112 [.inr (.inr (some 0)), .inl x] s (okI 0 s) := by
  refine w_112 s x ⟨fun _ => s_112b h x, fun h0 => ⟨fun _ => s_112b h x, fun h1 => ⟨?_, _, rfl, CR.rfl' h⟩⟩⟩
  have hp : ¬ x < 0 := fun q => h0 (Int32.lt_iff_toInt_lt.mpr (by have := Int32.lt_iff_toInt_lt.mp q; have e0 : (0 : Int32).toInt = 0 := rfl; have e1 : (11 : Int32).toInt = 11 := rfl; omega))
  obtain ⟨n, hn, rfl⟩ := nn_of hp
  have a1 : ¬ n < 11 := fun q => h0 ((nI_ltI hn (b := 11) (by decide)).mpr q)
  have a2 : ¬ 16 < n := fun q => h1 ((nI_ltI (a := 16) (by decide) hn).mpr q)
  obtain ⟨j, rfl⟩ : ∃ j, n = j + 10 := ⟨n - 10, by omega⟩
  rw [show nI (j + 10) - 10 = nI j by rw [← nI_add j 10]; show nI j + 10 - 10 = nI j; exact Int32.add_sub_cancel _ _]
  exact rIn_nI (by omega) (by decide)
