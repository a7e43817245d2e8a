/-! SAFETY OF THE CLASS: the unifier -/
theorem s_66 (s : rSg) (x y : Int32) : EvS rSkel 1 66 [.inr (.inr (some 1)), .inl x, .inl y] s (fun v t => ∃ n, v = some (.inl n) ∧ (n = 0 ∨ n = 1) ∧ (∀ q, q ≠ 1 → q ≠ 2 → t q = s q) ∧ ∀ j, j ≠ 5 → t 1 j = s 1 j) := by
  refine w_66 s x y ⟨fun _ => ⟨_, rfl, Or.inl rfl, fun _ _ _ => rfl, fun _ _ => rfl⟩, fun h0 => ⟨fun h1 => ?_, fun _ => ⟨_, rfl, Or.inl rfl, fun _ _ _ => rfl, fun _ _ => rfl⟩⟩⟩
  obtain ⟨n, hn, e⟩ := nn_of h0
  have n1 : n ≤ 1022 := by
    rw [e] at h1
    exact (nI_leI hn (b := 1022) (by decide)).mp h1
  refine ⟨?_, ?_, _, rfl, Or.inr rfl, fun q g1 g2 => ?_, fun j hj => ?_⟩
  · rw [e]; exact rIn_nI (by omega) (by decide)
  · rw [e, nI_1]; exact rIn_nI (by omega) (by decide)
  · rw [up2_nk _ _ _ g1, up2_nk _ _ _ g2, up2_nk _ _ _ g2]
  · rw [up2_nj _ _ _ hj, up2_nk _ _ _ (by decide), up2_nk _ _ _ (by decide)]
/-- what isIn leaves: cells 3 and 5, and how often it looked -/
def inF (s t : rSg) : Prop := (∀ q, q ≠ 1 → q ≠ 3 → q ≠ 5 → t q = s q) ∧ (∀ j, j ≠ 4 → t 1 j = s 1 j)
theorem s_67b {sc kb nb : Nat} (hs : isScr sc) (hkb : isArr kb nb) (hnb : nb < 2 ^ 31) {s0 : rSg} {L : Int32} {A : Int32 → Prop} (hA : A L) {P : Option rv → rSg → Prop} (hP : ∀ n t, (n = 0 ∨ n = 1) → inF s0 t → t 1 4 = L → (∀ j, j < 128 → A (t 5 j)) → P (some (.inl n)) t) (x : Int32) : ∀ (m y k : Nat) (s : rSg), y + m = 1000000 → k ≤ 1024 → inF s0 s → s 1 4 = L → (∀ j, j < 128 → A (s 5 j)) → g_67_24 sc kb nb x (nI k) (nI y) s P := by
  have kb5 : 5 < kb := hkb.1
  intro m
  induction m with
  | zero =>
    intro y k s hy hk hf hl ha
    obtain rfl : y = 1000000 := by omega
    exact w_67_24 s sc hs kb nb hkb x (nI k) (nI 1000000) ⟨fun _ => ⟨fun _ => hP _ _ (Or.inl rfl) hf hl ha, fun _ => hP _ _ (Or.inr rfl) hf hl ha⟩, fun q => absurd (by decide) q⟩
  | succ m ih =>
    intro y k s hy hk hf hl ha
    refine w_67_24 s sc hs kb nb hkb x (nI k) (nI y) ⟨fun _ => ⟨fun _ => hP _ _ (Or.inl rfl) hf hl ha, fun _ => hP _ _ (Or.inr rfl) hf hl ha⟩, fun _ => ⟨fun _ => ⟨fun _ => hP _ _ (Or.inl rfl) hf hl ha, fun _ => hP _ _ (Or.inr rfl) hf hl ha⟩, fun hk0 => ?_⟩⟩
    have k0 : k ≠ 0 := fun q => hk0 (by rw [q]; decide)
    obtain ⟨j, rfl⟩ : ∃ j, k = j + 1 := ⟨k - 1, by omega⟩
    have ej : nI (j + 1) + (-1) = nI j := by
      have := nI_pred j
      rw [← this, Int32.sub_eq_add_neg]
    rw [ej, nI_clamp (by omega), nI_1, nI_1]
    have hrj : rIn (nI j) 1024 = true := rIn_nI (by omega) (by decide)
    refine ⟨hrj, fun _ => hP _ _ (Or.inr rfl) hf hl ha, fun _ => ⟨fun hj2 => ?_, fun _ => hP _ _ (Or.inr rfl) hf hl ha⟩⟩
    have j2 : j ≤ 1022 := (nI_leI (by omega) (b := 1022) (by decide)).mp hj2
    have next := ih (y + 1) j s (by omega) (by omega) hf hl ha
    refine ⟨fun _ => ⟨fun _ => next, fun h0 => ⟨fun _ => next, fun h1 => ⟨fun _ => next, fun h2 => ?_⟩⟩⟩, fun _ => ?_⟩
    · have r1 : rIn (s 3 j) 128 = true := rIn_of (n := 128) (by decide) h0 h1
      have r2 : rIn (s 3 j) nb = true := rIn_of hnb h0 h2
      obtain ⟨a, ha9, ea⟩ := nn_lt (n := 128) (by decide) h0 h1
      refine ⟨r1, fun _ => next, fun _ => ⟨r1, r2, ?_⟩⟩
      rw [ea, nI_clamp (by omega)]
      have f2 : inF s0 (up2 s 5 a (s 1 4)) := ⟨fun q g1 g2 g3 => by rw [up2_nk _ _ _ g3]; exact hf.1 q g1 g2 g3, fun i hi => by rw [up2_nk _ _ _ (by decide)]; exact hf.2 i hi⟩
      have l2 : up2 s 5 a (s 1 4) 1 4 = L := by rw [up2_nk _ _ _ (by decide)]; exact hl
      have a2 : ∀ i, i < 128 → A (up2 s 5 a (s 1 4) 5 i) := fun i hi => by
        by_cases q : i = a
        · subst q; rw [up2_same, hl]; exact hA
        · rw [up2_nj _ _ _ q]; exact ha i hi
      refine ⟨fun _ => ih (y + 1) j _ (by omega) (by omega) f2 l2 a2, fun _ => ⟨by rw [← ea]; exact r2, hrj, ?_⟩⟩
      refine ih (y + 1) (j + 1) _ (by omega) (by omega) ⟨fun q g1 g2 g3 => by rw [up2_nk _ _ _ g2]; exact f2.1 q g1 g2 g3, fun i hi => by rw [up2_nk _ _ _ (by decide)]; exact f2.2 i hi⟩ (by rw [up2_nk _ _ _ (by decide)]; exact l2) (fun i hi => by rw [up2_nk _ _ _ (by decide)]; exact a2 i hi)
    · refine (s_30 hs s _ _).imp ?_
      rintro _ _ ⟨n1, rfl, rfl⟩
      refine ⟨_, rfl, hrj, (s_30 hs _ _ _).imp ?_⟩
      rintro _ _ ⟨n2, rfl, rfl⟩
      rw [show nI j + 2 = nI (j + 2) from nI_add j 2, nI_clamp (by omega)]
      refine ⟨_, rfl, rIn_nI (by omega) (by decide), ih (y + 1) (j + 2) _ (by omega) (by omega) ⟨fun q g1 g2 g3 => ?_, fun i hi => ?_⟩ ?_ (fun i hi => ?_)⟩
      · rw [up2_nk _ _ _ g2, up2_nk _ _ _ g2]; exact hf.1 q g1 g2 g3
      · rw [up2_nk _ _ _ (by decide), up2_nk _ _ _ (by decide)]; exact hf.2 i hi
      · rw [up2_nk _ _ _ (by decide), up2_nk _ _ _ (by decide)]; exact hl
      · rw [up2_nk _ _ _ (by decide), up2_nk _ _ _ (by decide)]; exact ha i hi
theorem s_67 {sc kb nb : Nat} (hs : isScr sc) (hkb : isArr kb nb) (hnb : nb < 2 ^ 31) (s : rSg) (x c : Int32) : EvS rSkel 3 67 [.inr (.inr (some 1)), .inr (.inr (some sc)), .inr (.inr (some kb)), .inl x, .inl c] s (fun v t => ∃ n, v = some (.inl n) ∧ (n = 0 ∨ n = 1) ∧ inF s t ∧ LK 1 s t) := by
  refine w_67 s sc hs kb nb hkb x c ?_
  generalize eu : up2 (up2 s 1 4 (s 1 4 + 1)) 3 0 c = u
  have f0 : inF s u := ⟨fun q g1 g2 g3 => by rw [← eu, up2_nk _ _ _ g2, up2_nk _ _ _ g1], fun j hj => by rw [← eu, up2_nk _ _ _ (by decide), up2_nj _ _ _ hj]⟩
  have u14 : u 1 4 = s 1 4 + 1 := by rw [← eu, up2_nk _ _ _ (by decide), up2_same]
  have u5 : u 5 = s 5 := by rw [← eu, up2_nk _ _ _ (by decide), up2_nk _ _ _ (by decide)]
  refine s_67b hs hkb hnb (s0 := s) (L := s 1 4 + 1) (A := fun z => z = s 1 4 + 1 ∨ ∃ j, j < 128 ∧ z = s 5 j) (Or.inl rfl) (fun n t hn ht hl ha => ⟨n, rfl, hn, ht, fun l hl0 => ⟨l + 1, Nat.le_refl _, by rw [hl, hl0.1, nI_1], fun j hj => ?_⟩⟩) x 1000000 0 1 u rfl (by decide) f0 u14 (fun j hj => Or.inr ⟨j, hj, by rw [u5]⟩)
  rcases ha j hj with h | ⟨i, hi, h⟩
  · exact ⟨l + 1, Nat.le_refl _, by rw [h, hl0.1, nI_1]⟩
  · obtain ⟨a, h1, h2⟩ := hl0.2 i hi
    exact ⟨a, by omega, by rw [h, h2]⟩
theorem s_68 {kb nb bd : Nat} (hkb : isArr kb nb) (hnb : nb < 2 ^ 31) (s : rSg) (hbd : s 1 6 = nI bd) (hbd9 : bd ≤ 128) (x c : Int32) : EvS rSkel 1 68 [.inr (.inr (some 1)), .inr (.inr (some kb)), .inl x, .inl c] s (fun v t => (∀ q, q ≠ 1 → q ≠ 4 → q ≠ kb → t q = s q) ∧ (∀ j, j ≠ 6 → t 1 j = s 1 j) ∧ ((v = some (.inl 0) ∧ t 1 6 = nI bd) ∨ (v = some (.inl 1) ∧ bd < 128 ∧ t 1 6 = nI (bd + 1)))) := by
  have kb5 : 5 < kb := hkb.1
  have no : (∀ q, q ≠ 1 → q ≠ 4 → q ≠ kb → s q = s q) ∧ (∀ j, j ≠ 6 → s 1 j = s 1 j) ∧ ((some (.inl 0 : rv) = some (.inl 0) ∧ s 1 6 = nI bd) ∨ (some (.inl 0 : rv) = some (.inl 1) ∧ bd < 128 ∧ s 1 6 = nI (bd + 1))) := ⟨fun _ _ _ _ => rfl, fun _ _ => rfl, Or.inl ⟨rfl, hbd⟩⟩
  refine w_68 s kb nb hkb x c ⟨fun _ => no, fun h0 => ⟨fun _ => no, fun h1 => ⟨fun _ => no, fun h2 => ⟨fun h3 => ?_, fun _ => no⟩⟩⟩⟩
  have b9 : bd < 128 := by
    rw [hbd] at h3
    exact (nI_ltI (by omega) (b := 128) (by decide)).mp h3
  refine ⟨rIn_of hnb h0 h1, by rw [hbd]; exact rIn_nI b9 (by decide), fun q g1 g2 g3 => ?_, fun j hj => ?_, Or.inr ⟨rfl, b9, ?_⟩⟩
  · rw [up2_nk _ _ _ g1, up2_nk _ _ _ g2, up2_nk _ _ _ g3]
  · rw [up2_nj _ _ _ hj, up2_nk _ _ _ (by decide), up2_nk _ _ _ (by omega)]
  · rw [up2_same, hbd, nI_1]
abbrev unB (kb : Nat) : Nat → Prop := fun q => q ≠ kb ∧ (q < 1 ∨ 5 < q)
theorem s_69b {kb nb : Nat} (hkb : isArr kb nb) (hnb : nb < 2 ^ 31) {s0 : rSg} {P : Option rv → rSg → Prop} (hP : ∀ t, (∀ q, q ≠ kb → t q = s0 q) → P none (up2 t 1 6 0)) : ∀ (m y : Nat) (s : rSg), y + m = 128 → (∀ q, q ≠ kb → s q = s0 q) → g_69_2 kb nb (nI y) s P := by
  intro m
  induction m with
  | zero =>
    intro y s hy hf
    obtain rfl : y = 128 := by omega
    exact w_69_2 s kb nb hkb (nI 128) ⟨fun _ => hP s hf, fun _ => ⟨fun _ => hP s hf, fun q => absurd (by decide) q⟩⟩
  | succ m ih =>
    intro y s hy hf
    refine w_69_2 s kb nb hkb (nI y) ⟨fun _ => hP s hf, fun _ => ⟨fun _ => hP s hf, fun _ => ?_⟩⟩
    rw [nI_1]
    refine ⟨rIn_nI (by omega) (by decide), fun _ => ih (y + 1) s (by omega) hf, fun h0 => ⟨fun _ => ih (y + 1) s (by omega) hf, fun h1 => ⟨rIn_of hnb h0 h1, ih (y + 1) _ (by omega) (fun q hq => by rw [up2_nk _ _ _ hq]; exact hf q hq)⟩⟩⟩
theorem s_69 {kb nb : Nat} (hkb : isArr kb nb) (hnb : nb < 2 ^ 31) (s : rSg) : EvS rSkel 1 69 [.inr (.inr (some 1)), .inr (.inr (some kb))] s (fun v t => v = none ∧ bt (unB kb) s t ∧ LK 0 s t) := by
  have kb5 : 5 < kb := hkb.1
  refine w_69 s kb nb hkb (s_69b hkb hnb (fun t ht => ⟨rfl, fun q hq => ?_, LK.of ?_ ?_⟩) 128 0 s rfl (fun _ _ => rfl))
  · rw [up2_nk _ _ _ (by omega), ht q hq.1]
  · rw [up2_nj _ _ _ (by decide), ht 1 (by omega)]
  · rw [up2_nk _ _ _ (by decide), ht 5 (by omega)]
theorem s_65b {sc kb nb : Nat} (hs : isScr sc) (hkb : isArr kb nb) (hnb : nb < 2 ^ 31) {s0 : rSg} {P : Option rv → rSg → Prop} (hP : ∀ n t, (n = 0 ∨ n = 1) → bt (unB kb) s0 t → LK 129 s0 t → P (some (.inl n)) t) : ∀ (m y bd : Nat) (f : Int32) (s : rSg), y + m = 1000000 → (f = 0 ∨ f = 1) → s 1 6 = nI bd → bd ≤ 128 → bt (unB kb) s0 s → LK (bd + (if f = 0 then 1 else 0)) s0 s → g_65_22 sc kb nb f (nI y) s P := by
  have kb5 : 5 < kb := hkb.1
  intro m
  induction m with
  | zero =>
    intro y bd f s hy hf hbd hbd9 hb hl
    obtain rfl : y = 1000000 := by omega
    have hl : LK 129 s0 s := hl.mono (by split <;> omega)
    exact w_65_22 s sc hs kb nb hkb f (nI 1000000) ⟨fun _ => ⟨fun _ => hP _ _ (Or.inl rfl) hb hl, fun _ => ⟨fun _ => hP _ _ (Or.inl rfl) hb hl, fun _ => hP _ _ (Or.inr rfl) hb hl⟩⟩, fun q => absurd (by decide) q⟩
  | succ m ih =>
    intro y bd f s hy hf hbd hbd9 hb hl
    have h129 : LK 129 s0 s := hl.mono (by split <;> omega)
    have out : (f = 0 → P (some (.inl 0)) s) ∧ (¬ f = 0 → (¬ (s 1 5) = 0 → P (some (.inl 0)) s) ∧ (¬ (¬ (s 1 5) = 0) → P (some (.inl 1)) s)) := ⟨fun _ => hP _ _ (Or.inl rfl) hb h129, fun _ => ⟨fun _ => hP _ _ (Or.inl rfl) hb h129, fun _ => hP _ _ (Or.inr rfl) hb h129⟩⟩
    refine w_65_22 s sc hs kb nb hkb f (nI y) ⟨fun _ => out, fun _ => ⟨fun _ => out, fun hf0 => ⟨fun _ => out, fun h1 => ⟨fun _ => out, fun h2 => ?_⟩⟩⟩⟩
    rw [if_neg hf0, Nat.add_zero] at hl
    have hp : ¬ s 1 5 < 0 := fun q => h1 (Int32.le_iff_toInt_le.mpr (by have := Int32.lt_iff_toInt_lt.mp q; have e0 : (0 : Int32).toInt = 0 := rfl; have e1 : (1 : Int32).toInt = 1 := rfl; omega))
    obtain ⟨n, hn, en⟩ := nn_of hp
    have n1 : 2 ≤ n ∧ n ≤ 1024 := by
      rw [en] at h1 h2
      have g1 : ¬ n ≤ 1 := fun q => h1 ((nI_leI hn (b := 1) (by decide)).mpr q)
      have g2 : ¬ 1024 < n := fun q => h2 ((nI_ltI (a := 1024) (by decide) hn).mpr q)
      omega
    obtain ⟨w, rfl⟩ : ∃ w, n = w + 2 := ⟨n - 2, by omega⟩
    have e2 : nI (w + 2) - 2 = nI w := by
      rw [← nI_add w 2]
      show nI w + 2 - 2 = nI w
      exact Int32.add_sub_cancel _ _
    rw [en, e2, nI_clamp (by omega)]
    refine ⟨rIn_nI (by omega) (by decide), (s_76 hkb hnb _ _).imp ?_⟩
    rintro _ _ ⟨na, rfl, rfl⟩
    rw [up2_same, nI_1, nI_clamp (by omega)]
    generalize eu : up2 s 1 5 (nI w) = u
    have ub : bt (unB kb) s0 u := by rw [← eu]; exact hb.up (by omega)
    have u6 : u 1 6 = nI bd := by rw [← eu, up2_nj _ _ _ (by decide)]; exact hbd
    have ul : LK bd s0 u := by
      have := hl.trans (LK.of (s := s) (t := u) (by rw [← eu, up2_nj _ _ _ (by decide)]) (by rw [← eu, up2_nk _ _ _ (by decide)]))
      exact this
    refine ⟨_, rfl, rIn_nI (by omega) (by decide), (s_76 hkb hnb _ _).imp ?_⟩
    rintro _ u ⟨nb2, rfl, rfl⟩
    rw [nI_1]
    have no : ∀ t, bt (unB kb) s0 t → t 1 6 = nI bd → LK (bd + 1) s0 t → g_65_22 sc kb nb 0 (nI (y + 1)) t P := fun t g1 g2 g3 => ih (y + 1) bd 0 t (by omega) (Or.inl rfl) g2 hbd9 g1 (by rw [if_pos rfl]; exact g3)
    have bind : ∀ (z c : Int32), EvS rSkel 3 67 [.inr (.inr (some 1)), .inr (.inr (some sc)), .inr (.inr (some kb)), .inl z, .inl c] u (fun v82 t83 => ∃ n85, v82 = some (.inl n85) ∧ (¬ n85 = 0 → g_65_22 sc kb nb 0 (nI (y + 1)) t83 P) ∧ (¬ (¬ n85 = 0) → EvS rSkel 1 68 [.inr (.inr (some 1)), .inr (.inr (some kb)), .inl z, .inl c] t83 (fun v87 t88 => ∃ n90, v87 = some (.inl n90) ∧ (n90 = 0 → g_65_22 sc kb nb 0 (nI (y + 1)) t88 P) ∧ (¬ (n90 = 0) → g_65_22 sc kb nb 1 (nI (y + 1)) t88 P)))) := by
      intro z c
      refine (s_67 hs hkb hnb u z c).imp ?_
      rintro _ t ⟨n5, rfl, _, tf, tl⟩
      have tb : bt (unB kb) s0 t := fun q hq => by rw [tf.1 q (by omega) (by omega) (by omega)]; exact ub q hq
      have t6 : t 1 6 = nI bd := by rw [tf.2 6 (by decide)]; exact u6
      have tL : LK (bd + 1) s0 t := ul.trans tl
      refine ⟨_, rfl, fun _ => no t tb t6 tL, fun _ => (s_68 hkb hnb t t6 hbd9 z c).imp ?_⟩
      rintro v r ⟨r1, r2, r3⟩
      have rb : bt (unB kb) s0 r := fun q hq => by rw [r1 q (by omega) (by omega) hq.1]; exact tb q hq
      have rL : LK (bd + 1) s0 r := tL.trans (LK.of (r2 4 (by decide)) (r1 5 (by decide) (by decide) (by omega)))
      rcases r3 with ⟨rfl, r4⟩ | ⟨rfl, r5, r4⟩
      · exact ⟨_, rfl, fun _ => no r rb r4 rL, fun q => absurd rfl q⟩
      · exact ⟨_, rfl, fun q => absurd q (by decide), fun _ => ih (y + 1) (bd + 1) 1 r (by omega) (Or.inr rfl) r4 (by omega) rb (by rw [if_neg (by decide)]; exact rL)⟩
    refine ⟨_, rfl, fun _ => (s_77 u na).imp ?_, fun _ => ih (y + 1) bd f u (by omega) hf u6 hbd9 ub (by rw [if_neg hf0]; exact ul)⟩
    rintro _ _ ⟨n3, rfl, rfl⟩
    refine ⟨_, rfl, fun _ => (s_77 _ nb2).imp ?_, fun _ => bind na nb2⟩
    rintro _ _ ⟨n4, rfl, rfl⟩
    refine ⟨_, rfl, fun _ => (s_74 _ na).imp ?_, fun _ => bind nb2 na⟩
    rintro _ _ ⟨n6, rfl, rfl⟩
    refine ⟨_, rfl, fun _ => no _ ub u6 (ul.mono (by omega)), fun _ => (s_74 _ nb2).imp ?_⟩
    rintro _ _ ⟨n7, rfl, rfl⟩
    refine ⟨_, rfl, fun _ => no _ ub u6 (ul.mono (by omega)), fun _ => (s_30 hs _ _ _).imp ?_⟩
    rintro _ _ ⟨n8, rfl, rfl⟩
    refine ⟨_, rfl, (s_30 hs _ _ _).imp ?_⟩
    rintro _ _ ⟨n9, rfl, rfl⟩
    refine ⟨_, rfl, (s_66 _ _ _).imp ?_⟩
    rintro _ t ⟨n10, rfl, _, t1, t2⟩
    have tb : bt (unB kb) s0 t := fun q hq => by rw [t1 q (by omega) (by omega)]; exact ub q hq
    have t6 : t 1 6 = nI bd := by rw [t2 6 (by decide)]; exact u6
    have tL : LK bd s0 t := ul.trans (LK.of (t2 4 (by decide)) (t1 5 (by decide) (by decide)))
    refine ⟨_, rfl, fun _ => no t tb t6 (tL.mono (by omega)), fun _ => (s_30 hs _ _ _).imp ?_⟩
    rintro _ _ ⟨n11, rfl, rfl⟩
    refine ⟨_, rfl, (s_30 hs _ _ _).imp ?_⟩
    rintro _ _ ⟨n12, rfl, rfl⟩
    refine ⟨_, rfl, (s_66 _ _ _).imp ?_⟩
    rintro _ r ⟨n13, rfl, _, r1, r2⟩
    have rb : bt (unB kb) s0 r := fun q hq => by rw [r1 q (by omega) (by omega)]; exact tb q hq
    have r6 : r 1 6 = nI bd := by rw [r2 6 (by decide)]; exact t6
    have rL : LK bd s0 r := tL.trans (LK.of (r2 4 (by decide)) (r1 5 (by decide) (by decide)))
    exact ⟨_, rfl, fun _ => no r rb r6 (rL.mono (by omega)), fun _ => ih (y + 1) bd 1 r (by omega) (Or.inr rfl) r6 hbd9 rb (by rw [if_neg (by decide)]; exact rL)⟩
/-- unify ends whatever the bindings are, and looks at most 129 times -/
theorem s_65 {sc kb nb : Nat} (hs : isScr sc) (hkb : isArr kb nb) (hnb : nb < 2 ^ 31) (s : rSg) (x y : Int32) : EvS rSkel 4 65 [.inr (.inr (some 1)), .inr (.inr (some sc)), .inr (.inr (some kb)), .inl x, .inl y] s (fun v t => ∃ n, v = some (.inl n) ∧ (n = 0 ∨ n = 1) ∧ bt (unB kb) s t ∧ LK 129 s t) := by
  have kb5 : 5 < kb := hkb.1
  refine w_65 s sc hs kb nb hkb x y ((s_66 _ x y).imp ?_)
  rintro _ t ⟨n, rfl, hn, t1, t2⟩
  refine ⟨_, rfl, s_65b hs hkb hnb (fun n t hn hb hl => ⟨n, rfl, hn, hb, hl⟩) 1000000 0 0 n t rfl hn ?_ (by decide) (fun q hq => ?_) ?_⟩
  · rw [t2 6 (by decide), up2_same]; rfl
  · rw [t1 q (by omega) (by omega), up2_nk _ _ _ (by omega), up2_nk _ _ _ (by omega)]
  · refine (LK.of ?_ ?_).mono (Nat.zero_le _)
    · rw [t2 4 (by decide), up2_nj _ _ _ (by decide), up2_nj _ _ _ (by decide)]
    · rw [t1 5 (by decide) (by decide), up2_nk _ _ _ (by decide), up2_nk _ _ _ (by decide)]
