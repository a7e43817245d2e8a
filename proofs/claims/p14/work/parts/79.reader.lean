/-! SAFETY OF THE CLASS: the reader, goal, letter -/
def rd (s t : rSg) : Prop := ∀ q, q < 231 ∨ (234 < q ∧ q < 678) ∨ 681 < q → t q = s q
theorem rd.rfl' {s : rSg} : rd s s := fun _ _ => rfl
theorem rd.trans {a b c : rSg} (h1 : rd a b) (h2 : rd b c) : rd a c := fun q hq => (h2 q hq).trans (h1 q hq)
theorem rd.up {s t : rSg} {k j : Nat} {x : Int32} (h : rd s t) (hk : 678 ≤ k ∧ k ≤ 681) : rd s (up2 t k j x) := fun q hq => by rw [up2_nk _ _ _ (by omega)]; exact h q hq
theorem rd.sc {s t u : rSg} (h : rd s t) (g : bt (scB 231) t u) : rd s u := fun q hq => by rw [g q (by omega)]; exact h q hq
theorem s_7 {s0 s : rSg} (h : rd s0 s) (x y z : Int32) : EvS rSkel 1 7 [.inr (.inr (some 678)), .inl x, .inl y, .inl z] s (fun v t => v = none ∧ rd s0 t) := by
  refine w_7 s x y z ⟨fun _ => ⟨rfl, h⟩, fun h0 => ⟨fun _ => ⟨rfl, h⟩, fun h1 => ?_⟩⟩
  have r := rIn_of (n := 196) (by decide) h0 h1
  exact ⟨r, r, r, rfl, (((h.up (by omega)).up (by omega)).up (by omega)).up (by omega)⟩
theorem s_9c {s0 : rSg} (a c : Int32) {P : Option rv → rSg → Prop} (hP : ∀ t, rd s0 t → P (some (.inl 1)) t) : ∀ (k : Nat) (s : rSg), k < 1000 → rd s0 s → g_9_104 a c (nI k - 1) s P := by
  intro k
  induction k with
  | zero =>
    intro s hk hs
    exact w_9_104 s a c _ ⟨fun _ => hP s hs, fun q => absurd (by decide) q⟩
  | succ k ih =>
    intro s hk hs
    rw [show nI (k + 1) - 1 = nI k from nI_pred k]
    refine w_9_104 s a c _ ⟨fun _ => hP s hs, fun _ => (s_7 hs _ _ _).imp ?_⟩
    rintro _ t ⟨rfl, ht⟩
    rw [show nI k + (-1) = nI k - 1 from (Int32.sub_eq_add_neg _ _).symm]
    exact ⟨rfl, ih t (by omega) ht⟩
theorem s_9b {s0 s : rSg} (hs : rd s0 s) (a c e : Int32) {k : Nat} (hk : k < 1000) {P : Option rv → rSg → Prop} (hP : ∀ t, rd s0 t → P (some (.inl 1)) t) : g_9_45 a c e (nI k) s P := by
  refine w_9_45 s a c e (nI k) ⟨fun _ => (s_22 scr231 s _ _ _).imp ?_, fun _ => (s_21 scr231 s _).imp ?_⟩
  · rintro _ t ⟨rfl, ht⟩
    have gt := hs.sc ht
    exact ⟨rfl, fun _ => s_9c _ _ hP k t hk gt, fun _ => ⟨fun _ => s_9c _ _ hP k t hk gt, fun _ => s_9c _ _ hP k t hk gt⟩⟩
  · rintro _ t ⟨n1, rfl, ht⟩
    refine ⟨_, rfl, (s_22 scr231 t _ _ _).imp ?_⟩
    rintro _ u ⟨rfl, hu⟩
    have gu := hs.sc (ht.trans hu)
    exact ⟨rfl, fun _ => s_9c _ _ hP k u hk gu, fun _ => ⟨fun _ => s_9c _ _ hP k u hk gu, fun _ => s_9c _ _ hP k u hk gu⟩⟩
theorem s_10 (s : rSg) (x : Int32) : EvS rSkel 1 10 [.inl x] s (fun v t => (v = some (.inl (-1)) ∨ ∃ k, k < 1000 ∧ v = some (.inl (nI k))) ∧ t = s) :=
  w_10 s x ⟨fun _ => ⟨Or.inr ⟨0, by decide, rfl⟩, rfl⟩, fun _ => ⟨Or.inr ⟨2, by decide, rfl⟩, rfl⟩, fun _ => ⟨Or.inr ⟨2, by decide, rfl⟩, rfl⟩, fun _ => ⟨Or.inr ⟨0, by decide, rfl⟩, rfl⟩, fun _ => ⟨Or.inr ⟨2, by decide, rfl⟩, rfl⟩, fun _ => ⟨Or.inr ⟨3, by decide, rfl⟩, rfl⟩, fun _ => ⟨Or.inr ⟨2, by decide, rfl⟩, rfl⟩, fun _ => ⟨Or.inr ⟨2, by decide, rfl⟩, rfl⟩, fun _ => ⟨Or.inl rfl, rfl⟩⟩
theorem s_9 {s0 s : rSg} (hs : rd s0 s) (x y z w : Int32) : EvS rSkel 2 9 [.inr (.inr (some 678)), .inl x, .inl y, .inl z, .inl w] s (fun v t => ∃ n, v = some (.inl n) ∧ (n = 0 ∨ n = 1) ∧ rd s0 t) := by
  refine w_9 s x y z w ((s_10 s x).imp ?_)
  rintro v s ⟨h | ⟨k, hk, h⟩, rfl⟩
  · subst h
    exact ⟨_, rfl, fun q => absurd q (by decide), fun _ => ⟨_, rfl, Or.inl rfl, hs⟩⟩
  · subst h
    have fin : ∀ t, rd s0 t → ∃ n : Int32, some (.inl 1 : rv) = some (.inl n) ∧ (n = 0 ∨ n = 1) ∧ rd s0 t := fun t ht => ⟨_, rfl, Or.inr rfl, ht⟩
    exact ⟨_, rfl, fun _ => ⟨fun _ => s_9b (hs.up (by omega)) _ _ _ hk fin, fun _ => ⟨fun _ => s_9b (hs.up (by omega)) _ _ _ hk fin, fun _ => s_9b ((hs.up (by omega)).up (by omega)) _ _ _ hk fin⟩⟩, fun _ => ⟨_, rfl, Or.inl rfl, hs⟩⟩
theorem s_12b (s : rSg) (x : Int32) : g_12_17 x s (fun v t => ∃ n, v = some (.inl n) ∧ t = s) := w_12_17 s x ⟨fun _ => ⟨fun _ => ⟨_, rfl, rfl⟩, fun _ => ⟨_, rfl, rfl⟩⟩, fun _ => ⟨fun _ => ⟨fun _ => ⟨_, rfl, rfl⟩, fun _ => ⟨_, rfl, rfl⟩⟩, fun _ => ⟨_, rfl, rfl⟩⟩⟩
theorem s_12 (s : rSg) (x : Int32) : EvS rSkel 1 12 [.inl x] s (fun v t => ∃ n, v = some (.inl n) ∧ t = s) := w_12 s x ⟨fun _ => s_12b s x, fun _ => ⟨fun _ => s_12b s x, fun _ => ⟨_, rfl, rfl⟩⟩⟩
theorem s_11b {s0 s : rSg} (hs : rd s0 s) (a c e f : Int32) : g_11_52 a c e f s (fun v t => ∃ n, v = some (.inl n) ∧ (n = 0 ∨ n = 1) ∧ rd s0 t) := by
  have put : ∀ (t : rSg) (n z : Int32), rd s0 t → (n = 0 → EvS rSkel 1 22 [.inr (.inr (some 231)), .inl c, .inl e, .inl z] t (fun v17 t18 => v17 = none ∧ ∃ n, some (.inl 1 : rv) = some (.inl n) ∧ (n = 0 ∨ n = 1) ∧ rd s0 t18)) ∧ (¬ (n = 0) → EvS rSkel 1 24 [.inr (.inr (some 231)), .inl c, .inl e, .inl z] t (fun v20 t21 => v20 = none ∧ ∃ n, some (.inl 1 : rv) = some (.inl n) ∧ (n = 0 ∨ n = 1) ∧ rd s0 t21)) := by
    intro t n z ht
    refine ⟨fun _ => (s_22 scr231 t _ _ _).imp ?_, fun _ => (s_24 scr231 t _ _ _).imp ?_⟩
    all_goals
      rintro _ u ⟨rfl, hu⟩
      exact ⟨rfl, _, rfl, Or.inr rfl, ht.sc hu⟩
  refine w_11_52 s a c e f ⟨fun _ => (s_74 s _).imp ?_, fun _ => ⟨fun _ => (s_7 hs _ _ _).imp ?_, fun _ => (s_23 scr231 s _ _).imp ?_⟩⟩
  · rintro _ s ⟨n, rfl, rfl⟩
    exact ⟨_, rfl, put s n f hs⟩
  · rintro _ t1 ⟨rfl, h1⟩
    refine ⟨rfl, (s_7 h1 _ _ _).imp ?_⟩
    rintro _ t2 ⟨rfl, h2⟩
    refine ⟨rfl, (s_7 h2 _ _ _).imp ?_⟩
    rintro _ t3 ⟨rfl, h3⟩
    refine ⟨rfl, (s_74 t3 _).imp ?_⟩
    rintro _ t3 ⟨n, rfl, rfl⟩
    exact ⟨_, rfl, put t3 n _ h3⟩
  · rintro _ t0 ⟨n0, rfl, h0⟩
    refine ⟨_, rfl, (s_7 (hs.sc h0) _ _ _).imp ?_⟩
    rintro _ t1 ⟨rfl, h1⟩
    refine ⟨rfl, (s_7 h1 _ _ _).imp ?_⟩
    rintro _ t2 ⟨rfl, h2⟩
    refine ⟨rfl, (s_7 h2 _ _ _).imp ?_⟩
    rintro _ t3 ⟨rfl, h3⟩
    refine ⟨rfl, (s_74 t3 _).imp ?_⟩
    rintro _ t3 ⟨n, rfl, rfl⟩
    exact ⟨_, rfl, put t3 n _ h3⟩
theorem s_11 {s0 s : rSg} (hs : rd s0 s) (x y z w : Int32) : EvS rSkel 2 11 [.inr (.inr (some 678)), .inl x, .inl y, .inl z, .inl w] s (fun v t => ∃ n, v = some (.inl n) ∧ (n = 0 ∨ n = 1) ∧ rd s0 t) := by
  refine w_11 s x y z w ((s_12 s x).imp ?_)
  rintro _ s ⟨n, rfl, rfl⟩
  have u1 := hs.up (k := 678) (j := 6) (x := s 678 6 + 1) (by omega)
  have b1 : (((s 678 6) + 1) ≤ 40 → g_11_52 x z w n (up2 s 678 6 ((s 678 6) + 1)) (fun v t => ∃ n, v = some (.inl n) ∧ (n = 0 ∨ n = 1) ∧ rd s0 t)) ∧ (¬ (((s 678 6) + 1) ≤ 40) → (¬ (s 678 7) = ((-1)) → g_11_52 x z w n (up2 s 678 6 ((s 678 6) + 1)) (fun v t => ∃ n, v = some (.inl n) ∧ (n = 0 ∨ n = 1) ∧ rd s0 t)) ∧ (¬ (¬ (s 678 7) = ((-1))) → g_11_52 x z w n (up2 (up2 s 678 6 ((s 678 6) + 1)) 678 7 y) (fun v t => ∃ n, v = some (.inl n) ∧ (n = 0 ∨ n = 1) ∧ rd s0 t))) := ⟨fun _ => s_11b u1 _ _ _ _, fun _ => ⟨fun _ => s_11b u1 _ _ _ _, fun _ => s_11b (u1.up (by omega)) _ _ _ _⟩⟩
  exact ⟨_, rfl, fun _ => b1, fun _ => ⟨fun _ => b1, fun _ => ⟨_, rfl, Or.inl rfl, hs⟩⟩⟩
theorem s_8 {s0 s : rSg} (hs : rd s0 s) (x y : Int32) : EvS rSkel 3 8 [.inr (.inr (some 678)), .inl x, .inl y] s (fun v t => ∃ n, v = some (.inl n) ∧ rd s0 t) := by
  have u := hs.up (k := 678) (j := 4) (x := s 678 4 - 1) (by omega)
  refine w_8 s x y ⟨fun _ => ⟨_, rfl, u⟩, fun h0 => ⟨fun h1 => ?_, fun _ => ⟨_, rfl, u⟩⟩⟩
  have r := rIn_of (n := 196) (by decide) h0 (Int32.not_le.mpr h1)
  refine ⟨r, r, r, fun _ => (s_9 u _ _ _ _).imp ?_, fun _ => (s_11 u _ _ _ _).imp ?_, fun _ => ⟨fun _ => ⟨_, rfl, u⟩, fun _ => ⟨_, rfl, u⟩⟩⟩
  all_goals
    rintro _ t ⟨n, rfl, hn, ht⟩
    exact ⟨_, rfl, by rcases hn with rfl | rfl <;> decide, _, rfl, ht⟩
theorem s_5b {s0 : rSg} {N : Nat} (hN : N < 2 ^ 31) : ∀ (m y : Nat) (s : rSg), y + m = N → rd s0 s → g_5_11 687 96 (nI N) (nI y) s (fun v t => ∃ n, v = some (.inl n) ∧ rd s0 t) := by
  have out : ∀ (s : rSg) (z : Int32), rd s0 s → ((s 678 4) ≤ 0 → ((s 678 7) = ((-1)) → EvS rSkel 1 25 [.inr (.inr (some 231)), .inl 0, .inl (s 678 6)] s (fun v11 t12 => v11 = none ∧ ∃ n, some (.inl (t12 678 5) : rv) = some (.inl n) ∧ rd s0 t12)) ∧ (¬ ((s 678 7) = ((-1))) → ∃ n, some (.inl (((-2000)) - (s 678 7)) : rv) = some (.inl n) ∧ rd s0 s)) ∧ (¬ ((s 678 4) ≤ 0) → ∃ n, some (.inl (((-1000)) - z) : rv) = some (.inl n) ∧ rd s0 s) := fun s z hs => by
    refine ⟨fun _ => ⟨fun _ => (s_25 scr231 s _ _).imp ?_, fun _ => ⟨_, rfl, hs⟩⟩, fun _ => ⟨_, rfl, hs⟩⟩
    rintro _ t ⟨rfl, ht⟩
    exact ⟨rfl, _, rfl, hs.sc ht⟩
  intro m
  induction m with
  | zero =>
    intro y s hy hs
    obtain rfl : y = N := by omega
    exact w_5_11 s 687 96 row687 _ _ ⟨fun _ => out s _ hs, fun q => absurd (nI_le (by omega) (by omega)) q⟩
  | succ m ih =>
    intro y s hy hs
    refine w_5_11 s 687 96 row687 _ _ ⟨fun _ => out s _ hs, fun _ => ⟨fun _ => ⟨_, rfl, hs⟩, fun _ => (s_17 row687 (by decide) s _).imp ?_⟩⟩
    rintro _ s ⟨n1, rfl, rfl⟩
    refine ⟨_, rfl, (s_8 hs _ _).imp ?_⟩
    rintro _ t ⟨n2, rfl, ht⟩
    rw [nI_1]
    exact ⟨_, rfl, fun _ => ih (y + 1) t (by omega) ht, fun _ => ⟨_, rfl, ht⟩⟩
theorem s_5 (s : rSg) {N : Nat} (hl : s 687 1 = nI N) (hN : N < 2 ^ 31) : EvS rSkel 4 5 [.inr (.inr (some 678)), .inr (.inr (some 687))] s (fun v t => ∃ n, v = some (.inl n) ∧ rd s t) := by
  refine w_5 s 687 96 row687 (w_6 s ((s_20 scr231 s).imp ?_))
  rintro _ t ⟨rfl, ht⟩
  have g := ((((rd.rfl' (s := s)).sc ht).up (k := 678) (j := 4) (x := 0) (by omega)).up (k := 678) (j := 5) (x := 0) (by omega)).up (k := 678) (j := 6) (x := 0) (by omega)
  refine ⟨rfl, (s_7 (g.up (by omega)) _ _ _).imp ?_⟩
  rintro _ u ⟨rfl, hu⟩
  refine ⟨rfl, rfl, w_16 u 687 96 row687 ⟨_, rfl, ?_⟩⟩
  rw [hu 687 (by omega), hl]
  exact s_5b hN N 0 u (by omega) hu
/-- goal: it ends, the letters are no more -/
theorem s_73 {s : rSg} (h : clI s) {N : Nat} (hl : s 687 1 = nI N) (hN : N < 2 ^ 31) : EvS rSkel 5 73 [.inr (.inr (some 0))] s (fun v t => ∃ n : Int32, v = some (.inl n) ∧ (∀ q, q = 688 ∨ 725 ≤ q → t q = s q) ∧ t 687 1 = 0 ∧ LK 0 s t ∧ clI t) := by
  refine w_73 s ((s_5 s hl hN).imp ?_)
  rintro _ t ⟨n, rfl, ht⟩
  refine ⟨_, rfl, w_18 t 687 96 row687 ⟨rfl, ?_⟩⟩
  generalize eu : up2 t 687 1 0 = u
  have u0 : ∀ q, q ≠ 687 → u q = t q := fun q hq => by rw [← eu, up2_nk _ _ _ hq]
  have u1 : u 687 1 = 0 := by rw [← eu, up2_same]
  have cu : clI u := ⟨h.1.ext (by rw [u0 6 (by decide), ht 6 (by omega)]), h.2.1.ext (by rw [u0 230 (by decide), ht 230 (by omega)]), h.2.2.ext (by rw [u0 454 (by decide), ht 454 (by omega)])⟩
  have lu : LK 0 s u := LK.of (by rw [u0 1 (by decide), ht 1 (by omega)]) (by rw [u0 5 (by decide), ht 5 (by omega)])
  have fu : ∀ q, q = 688 ∨ 725 ≤ q → u q = s q := fun q hq => by rw [u0 q (by omega), ht q (by omega)]
  refine ⟨fun _ => (s_26 scr7 scr231 (by omega) u).imp ?_, fun _ => ⟨_, rfl, fu, u1, lu, cu⟩⟩
  rintro _ w ⟨rfl, hw⟩
  have gw := (CR.rfl' cu).sc (b := 6) (by simp) hw
  refine ⟨rfl, (s_33 seaA6 w).imp ?_⟩
  rintro _ x ⟨rfl, hx⟩
  have gx := gw.then (by simp) hx
  exact ⟨rfl, _, rfl, fun q hq => by rw [gx.1 q (by omega), fu q hq], by rw [gx.1 687 (by omega), u1], lu.trans gx.2.1, gx.2.2⟩
/-- letter: what it answers, and how many letters there are then -/
def ltN (n : Nat) (x : Int32) : Nat := if 0 ≤ x ∧ ¬ 255 < x ∧ n < 96 then n + 1 else n
def ltV (n : Nat) (x : Int32) : Int32 := if 0 ≤ x then (if 255 < x then -6 else if n < 96 then nI (n + 1) else -6) else -4
theorem s_71 {s : rSg} (h : clI s) {n : Nat} (hl : s 687 1 = nI n) (hn : n ≤ 96) (x : Int32) : EvS rSkel 2 71 [.inr (.inr (some 0)), .inl x] s (fun v t => v = some (.inl (ltV n x)) ∧ (∀ q, 725 ≤ q → t q = s q) ∧ t 687 1 = nI (ltN n x) ∧ LK 0 s t ∧ clI t) := by
  have ref : ∀ z : Int32, rIn (-z) 7 = true → ltV n x = z → ltN n x = n → EvS rSkel 1 72 [.inr (.inr (some 0)), .inl z] s (fun v3 t4 => ∃ n6, v3 = some (.inl n6) ∧ some (.inl n6 : rv) = some (.inl (ltV n x)) ∧ (∀ q, 725 ≤ q → t4 q = s q) ∧ t4 687 1 = nI (ltN n x) ∧ LK 0 s t4 ∧ clI t4) := fun z hz e1 e2 => by
    have fin : ∀ t, CR 0 s t → ∃ n6, some (.inl z : rv) = some (.inl n6) ∧ some (.inl n6 : rv) = some (.inl (ltV n x)) ∧ (∀ q, 725 ≤ q → t q = s q) ∧ t 687 1 = nI (ltN n x) ∧ LK 0 s t ∧ clI t := fun t ht => ⟨z, rfl, by rw [e1], fun q hq => ht.1 q (by omega), by rw [ht.1 687 (by omega), e2, hl], ht.2.1, ht.2.2⟩
    exact w_72 s z ⟨fun _ => fin s (CR.rfl' h), fun _ => ⟨fun _ => fin s (CR.rfl' h), fun _ => ⟨hz, hz, fin _ (CR.fr h (fun q hq => up2_nk _ _ _ (by omega)))⟩⟩⟩
  refine w_71 s x ⟨fun h0 => ⟨fun h1 => ref (-6) (by decide) (by unfold ltV; rw [if_pos h0, if_pos h1]) (by unfold ltN; rw [if_neg (fun q => q.2.1 h1)]), fun h1 => w_14 s 687 96 row687 ⟨fun h2 => ⟨_, rfl, fun _ => ?_, fun q => absurd rfl q⟩, fun h2 => ⟨_, rfl, fun q => absurd q (by decide), fun _ => ?_⟩⟩⟩, fun h0 => ref (-4) (by decide) (by unfold ltV; rw [if_neg h0]) (by unfold ltN; rw [if_neg (fun q => h0 q.1)])⟩
  · rw [hl] at h2
    have n9 : n < 96 := (nI_ltI (by omega) (b := 96) (by decide)).mp h2
    refine w_15 s 687 96 row687 x ⟨fun q => absurd q (by rw [hl]; exact nI_pos (by omega)), fun _ => ⟨fun q => absurd q (by rw [hl]; exact Int32.not_le.mpr h2), fun _ => ?_⟩⟩
    rw [hl, nI_1]
    refine ⟨rIn_nI n9 (by decide), _, rfl, by unfold ltV; rw [if_pos h0, if_neg h1, if_pos n9], fun q hq => ?_, ?_, LK.of ?_ ?_, ?_⟩
    · rw [up2_nk _ _ _ (by omega), up2_nk _ _ _ (by omega)]
    · rw [up2_same]; unfold ltN; rw [if_pos ⟨h0, h1, n9⟩]
    · rw [up2_nk _ _ _ (by decide), up2_nk _ _ _ (by decide)]
    · rw [up2_nk _ _ _ (by decide), up2_nk _ _ _ (by decide)]
    · exact ⟨h.1.ext (by rw [up2_nk _ _ _ (by decide), up2_nk _ _ _ (by decide)]), h.2.1.ext (by rw [up2_nk _ _ _ (by decide), up2_nk _ _ _ (by decide)]), h.2.2.ext (by rw [up2_nk _ _ _ (by decide), up2_nk _ _ _ (by decide)])⟩
  · rw [hl] at h2
    have n9 : ¬ n < 96 := fun q => h2 ((nI_ltI (by omega) (b := 96) (by decide)).mpr q)
    exact ref (-6) (by decide) (by unfold ltV; rw [if_pos h0, if_neg h1, if_neg n9]) (by unfold ltN; rw [if_neg (fun q => n9 q.2.2)])
