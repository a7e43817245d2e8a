/-! WHICH -/
def tf (s t : rSg) : Prop := ∀ q, q < 682 ∨ 685 < q → t q = s q
theorem tf.rfl' {s : rSg} : tf s s := fun _ _ => rfl
theorem tf.trans {a b c : rSg} (h1 : tf a b) (h2 : tf b c) : tf a c := fun q hq => (h2 q hq).trans (h1 q hq)
theorem tf.up {s t : rSg} {k j : Nat} {x : Int32} (h : tf s t) (hk : 682 ≤ k ∧ k ≤ 685) : tf s (up2 t k j x) := fun q hq => by rw [up2_nk _ _ _ (by omega)]; exact h q hq
theorem c_pushS (s : rSg) (x : Int32) : EvS rSkel 1 59 [.inr (.inr (some 682)), .inl x] s (fun v t => v = none ∧ tf s t) := by
  refine w_59 s x ⟨fun _ => ⟨rfl, tf.rfl'⟩, fun h0 => ⟨fun _ => ⟨rfl, tf.rfl'⟩, fun h1 => ⟨rIn_of (n := 604) (by decide) h0 h1, rfl, (tf.rfl'.up (by decide)).up (by decide)⟩⟩⟩
theorem c_putS (s : rSg) (x : Int32) : EvS rSkel 1 60 [.inr (.inr (some 682)), .inl x] s (fun v t => v = none ∧ tf s t) := by
  refine w_60 s x ⟨fun _ => ⟨rfl, tf.rfl'⟩, fun h0 => ⟨fun _ => ⟨rfl, tf.rfl'⟩, fun h1 => ⟨rIn_of (n := 200) (by decide) h0 h1, rfl, (tf.rfl'.up (by decide)).up (by decide)⟩⟩⟩
theorem c_walk_loopS {kb nb : Nat} (hkb : isArr kb nb) (hnb : nb < 2 ^ 31) {s : rSg} {P : Option rv → rSg → Prop} (hP : ∀ n, P (some (.inl n)) s) : ∀ (m y : Nat) (x : Int32), y + m = 128 → g_76_4 kb nb x (nI y) s P := by
  intro m
  induction m with
  | zero =>
    intro y x hy
    obtain rfl : y = 128 := by omega
    exact w_76_4 s kb nb hkb x (nI 128) ⟨fun _ => hP _, fun q => absurd (by decide) q⟩
  | succ m ih =>
    intro y x hy
    refine w_76_4 s kb nb hkb x (nI y) ⟨fun _ => hP _, fun _ => ⟨fun _ => hP _, fun h0 => ⟨fun _ => hP _, fun _ => ⟨fun _ => hP _, fun h1 => ?_⟩⟩⟩⟩
    have hr := rIn_of hnb h0 h1
    refine ⟨hr, fun _ => ⟨hr, ?_⟩, fun _ => hP _⟩
    rw [nI_1]
    exact ih (y + 1) _ (by omega)
theorem c_walkS {kb nb : Nat} (hkb : isArr kb nb) (hnb : nb < 2 ^ 31) (s : rSg) (x : Int32) : EvS rSkel 1 76 [.inr (.inr (some kb)), .inl x] s (fun v t => ∃ n, v = some (.inl n) ∧ t = s) := w_76 s kb nb hkb x (c_walk_loopS hkb hnb (fun n => ⟨n, rfl, rfl⟩) 128 0 x rfl)
theorem c_secS (s : rSg) (x : Int32) : EvS rSkel 1 78 [.inl x] s (fun v t => ∃ n, v = some (.inl n) ∧ t = s) := w_78 s x ⟨fun _ => ⟨fun _ => ⟨_, rfl, rfl⟩, fun _ => ⟨fun _ => ⟨_, rfl, rfl⟩, fun _ => ⟨_, rfl, rfl⟩⟩⟩, fun _ => ⟨_, rfl, rfl⟩⟩
theorem c_half_S {sc : Nat} (hs : isScr sc) (s : rSg) (y2 y3 z0 z1 z2 : Int32) : g_30_28 sc y2 y3 z0 z1 z2 s (fun v t => ∃ n, v = some (.inl n) ∧ t = s) := by
  refine w_30_28 s sc hs y2 y3 z0 z1 z2 ⟨fun _ => ⟨_, rfl, rfl⟩, fun _ => ⟨fun _ => ⟨_, rfl, rfl⟩, fun _ => ⟨fun _ => ⟨_, rfl, rfl⟩, fun h0 => ⟨fun h1 => ?_, fun _ => ⟨_, rfl, rfl⟩⟩⟩⟩⟩
  have hr := rIn_of (n := 1280) (by decide) h0 (Int32.not_le.mpr h1)
  refine ⟨fun _ => ⟨hr, _, rfl, rfl⟩, fun _ => ⟨hr, (c_secS s _).imp ?_⟩⟩
  rintro _ _ ⟨n, rfl, rfl⟩
  exact ⟨_, rfl, _, rfl, rfl⟩
theorem c_halfS {sc : Nat} (hs : isScr sc) (s : rSg) (x k : Int32) : EvS rSkel 2 30 [.inr (.inr (some sc)), .inl x, .inl k] s (fun v t => ∃ n, v = some (.inl n) ∧ t = s) := w_30 s sc hs x k ⟨fun _ => c_half_S hs s _ _ _ _ _, fun _ => c_half_S hs s _ _ _ _ _⟩
theorem c_nameS (s : rSg) (x : Int32) : EvS rSkel 1 62 [.inr (.inr (some 682)), .inl x] s (fun v t => ∃ n, v = some (.inl n) ∧ tf s t) := by
  refine w_62 s x ⟨fun _ => ⟨_, rfl, tf.rfl'⟩, fun h0 => ⟨fun h1 => ?_, fun _ => ⟨_, rfl, tf.rfl'⟩⟩⟩
  have hr := rIn_of (n := 64) (by decide) h0 (Int32.not_le.mpr h1)
  exact ⟨hr, fun _ => ⟨hr, _, rfl, tf.rfl'⟩, fun _ => ⟨hr, hr, _, rfl, (tf.rfl'.up (by decide)).up (by decide)⟩⟩
theorem c_ttS {sc : Nat} (hs : isScr sc) (s : rSg) (x : Int32) : EvS rSkel 3 61 [.inr (.inr (some 682)), .inr (.inr (some sc)), .inl x] s (fun v t => v = none ∧ tf s t) := by
  have put : ∀ (t : rSg) (y : Int32), tf s t → EvS rSkel 1 60 [.inr (.inr (some 682)), .inl y] t (fun v u => v = none ∧ (none : Option rv) = none ∧ tf s u) := fun t y ht => (c_putS t y).imp (fun v u h => ⟨h.1, rfl, ht.trans h.2⟩)
  have key : ∀ n : Int32, (n = 0 → (¬ x = 138 → EvS rSkel 1 77 [.inl x] s (fun v7 t8 => ∃ n10, v7 = some (.inl n10) ∧ (n10 = 0 → EvS rSkel 1 60 [.inr (.inr (some 682)), .inl ((48 + x) - 128)] t8 (fun v12 t13 => v12 = none ∧ (none : Option rv) = none ∧ tf s t13)) ∧ (¬ (n10 = 0) → EvS rSkel 1 60 [.inr (.inr (some 682)), .inl 95] t8 (fun v15 t16 => v15 = none ∧ EvS rSkel 1 62 [.inr (.inr (some 682)), .inl x] t16 (fun v18 t19 => ∃ n21, v18 = some (.inl n21) ∧ EvS rSkel 1 60 [.inr (.inr (some 682)), .inl (48 + (irem n21 10))] t19 (fun v22 t23 => v22 = none ∧ (none : Option rv) = none ∧ tf s t23)))))) ∧ (¬ (¬ x = 138) → EvS rSkel 1 60 [.inr (.inr (some 682)), .inl 110] s (fun v25 t26 => v25 = none ∧ (none : Option rv) = none ∧ tf s t26))) ∧ (¬ (n = 0) → EvS rSkel 1 60 [.inr (.inr (some 682)), .inl 40] s (fun v28 t29 => v28 = none ∧ EvS rSkel 1 59 [.inr (.inr (some 682)), .inl ((-41))] t29 (fun v31 t32 => v31 = none ∧ EvS rSkel 2 30 [.inr (.inr (some sc)), .inl x, .inl 1] t32 (fun v34 t35 => ∃ n37, v34 = some (.inl n37) ∧ EvS rSkel 1 59 [.inr (.inr (some 682)), .inl n37] t35 (fun v38 t39 => v38 = none ∧ EvS rSkel 1 59 [.inr (.inr (some 682)), .inl ((-46))] t39 (fun v41 t42 => v41 = none ∧ EvS rSkel 2 30 [.inr (.inr (some sc)), .inl x, .inl 0] t42 (fun v44 t45 => ∃ n47, v44 = some (.inl n47) ∧ EvS rSkel 1 59 [.inr (.inr (some 682)), .inl n47] t45 (fun v48 t49 => v48 = none ∧ (none : Option rv) = none ∧ tf s t49)))))))) := by
    intro n
    refine ⟨fun _ => ⟨fun _ => ?_, fun _ => put s _ tf.rfl'⟩, fun _ => ?_⟩
    · have v77 : ∀ m : Int32, (∃ n10, some (.inl m : rv) = some (.inl n10) ∧ (n10 = 0 → EvS rSkel 1 60 [.inr (.inr (some 682)), .inl ((48 + x) - 128)] s (fun v12 t13 => v12 = none ∧ (none : Option rv) = none ∧ tf s t13)) ∧ (¬ (n10 = 0) → EvS rSkel 1 60 [.inr (.inr (some 682)), .inl 95] s (fun v15 t16 => v15 = none ∧ EvS rSkel 1 62 [.inr (.inr (some 682)), .inl x] t16 (fun v18 t19 => ∃ n21, v18 = some (.inl n21) ∧ EvS rSkel 1 60 [.inr (.inr (some 682)), .inl (48 + (irem n21 10))] t19 (fun v22 t23 => v22 = none ∧ (none : Option rv) = none ∧ tf s t23))))) := by
        intro m
        refine ⟨m, rfl, fun _ => put s _ tf.rfl', fun _ => (c_putS s 95).imp ?_⟩
        rintro _ t ⟨rfl, ht⟩
        refine ⟨rfl, (c_nameS t x).imp ?_⟩
        rintro _ u ⟨n21, rfl, hu⟩
        exact ⟨_, rfl, put u _ (ht.trans hu)⟩
      exact w_77 s x ⟨fun _ => v77 0, fun _ => ⟨fun _ => v77 0, fun _ => v77 1⟩⟩
    · refine (c_putS s 40).imp ?_
      rintro _ t1 ⟨rfl, h1⟩
      refine ⟨rfl, (c_pushS t1 _).imp ?_⟩
      rintro _ t2 ⟨rfl, h2⟩
      refine ⟨rfl, (c_halfS hs t2 x 1).imp ?_⟩
      rintro _ _ ⟨n3, rfl, rfl⟩
      refine ⟨_, rfl, (c_pushS _ _).imp ?_⟩
      rintro _ t4 ⟨rfl, h4⟩
      refine ⟨rfl, (c_pushS t4 _).imp ?_⟩
      rintro _ t5 ⟨rfl, h5⟩
      refine ⟨rfl, (c_halfS hs t5 x 0).imp ?_⟩
      rintro _ _ ⟨n6, rfl, rfl⟩
      refine ⟨_, rfl, (c_pushS _ _).imp ?_⟩
      rintro _ t7 ⟨rfl, h7⟩
      exact ⟨rfl, rfl, (((h1.trans h2).trans h4).trans h5).trans h7⟩
  exact w_61 s sc hs x (w_74 s x ⟨fun _ => ⟨_, rfl, key 0⟩, fun _ => ⟨_, rfl, key 1⟩⟩)
theorem c_tell_loopS {sc k : Nat} (hs : isScr sc) (hk : isSt k) {s0 : rSg} {P : Option rv → rSg → Prop} (hP : ∀ t, tf s0 t → P none t) : ∀ (m y : Nat) (s : rSg), y + m = 200 → tf s0 s → g_58_31 sc k (nI y) s P := by
  have harr : isArr (k + 1) 64 := ⟨by have := hk.1; omega, hk.2.2.1⟩
  intro m
  induction m with
  | zero =>
    intro y s hy hf
    obtain rfl : y = 200 := by omega
    exact w_58_31 s sc hs k hk (nI 200) ⟨fun _ => hP s hf, fun q => absurd (by decide) q⟩
  | succ m ih =>
    intro y s hy hf
    refine w_58_31 s sc hs k hk (nI y) ⟨fun _ => hP s hf, fun _ => ⟨fun _ => hP s hf, fun h0 => ⟨fun _ => hP s hf, fun h1 => ?_⟩⟩⟩
    have hr : rIn (s 682 4 - 1) 604 = true := by
      obtain ⟨n, hn, e⟩ := nn_of (x := s 682 4) (fun q => h0 (Int32.le_iff_toInt_le.mpr (by have := Int32.lt_iff_toInt_lt.mp q; omega)))
      rw [e] at h0 h1 ⊢
      have n0 : n ≠ 0 := fun q => h0 (by rw [q]; decide)
      have n1 : n ≤ 604 := by
        have h9 : ¬ 604 < n := fun q => h1 ((nI_ltI (a := 604) (by decide) hn).mpr q)
        omega
      obtain ⟨j, rfl⟩ : ∃ j, n = j + 1 := ⟨n - 1, by omega⟩
      rw [show nI (j + 1) - 1 = nI j from nI_pred j]
      exact rIn_nI (by omega) (by decide)
    refine ⟨hr, fun _ => (c_walkS harr (by decide) _ _).imp ?_, fun _ => (c_putS _ _).imp ?_⟩
    · rintro _ _ ⟨n, rfl, rfl⟩
      refine ⟨_, rfl, (c_ttS hs _ n).imp ?_⟩
      rintro _ t ⟨rfl, ht⟩
      refine ⟨rfl, ?_⟩
      rw [nI_1]
      exact ih (y + 1) t (by omega) ((hf.up (by decide)).trans ht)
    · rintro _ t ⟨rfl, ht⟩
      refine ⟨rfl, ?_⟩
      rw [nI_1]
      exact ih (y + 1) t (by omega) ((hf.up (by decide)).trans ht)
/-- tell: whatever the bindings are, it ends -/
theorem c_tellS {sc k : Nat} (hs : isScr sc) (hk : isSt k) (s : rSg) (x : Int32) : EvS rSkel 4 58 [.inr (.inr (some 682)), .inr (.inr (some sc)), .inr (.inr (some k)), .inl x] s (fun v t => v = none ∧ tf s t) := by
  refine w_58 s sc hs k hk x ((c_fill (Sk := rSkel) (kb := 685) (nb := 64) ⟨by decide, sk_685⟩ (by decide) _ (-1)).imp ?_)
  rintro _ t ⟨rfl, t0, _⟩
  have h1 : tf s (up2 t 682 4 0) := by
    refine tf.up (fun q hq => ?_) (by decide)
    rw [t0 q (by omega), up2_nk _ _ _ (by omega), up2_nk _ _ _ (by omega)]
  refine ⟨rfl, (c_pushS _ x).imp ?_⟩
  rintro _ u ⟨rfl, hu⟩
  exact ⟨rfl, c_tell_loopS hs hk (fun w hw => ⟨rfl, hw⟩) 200 0 u rfl (h1.trans hu)⟩
/-- the bits, atom by atom -/
def bw : Nat → Nat → Int32 → Int32
  | 0, _, B => B
  | n + 1, a, B => bw n (a + 1) (B ||| (1 <<< (nI a &&& 31)))
theorem c_which_loop {s0 : rSg} {x : Nat} (hx : x < 6) {P : Option rv → rSg → Prop} {r : Int32} (hP : ∀ t, fr s0 t → P (some (.inl r)) t) : ∀ (n a l : Nat) (B : Int32) (s : rSg), a + n = 10 → bw n a B = r → fr s0 s → cTold s → s 689 1 = 0 → cSn s l → l ≤ 66 * a → g_102_17 (nI x) B (nI a) s P := by
  intro n
  induction n with
  | zero =>
    intro a l B s ha hB hf _ _ _ _
    obtain rfl : a = 10 := by omega
    refine w_102_17 s (nI x) B (nI 10) ⟨fun _ => ?_, fun q => absurd (by decide) q⟩
    rw [show B = r from hB]
    exact hP s hf
  | succ n ih =>
    intro a l B s ha hB hf ht h689 hsn hl
    refine w_102_17 s (nI x) B (nI a) ⟨fun q => absurd ((nI_leI (a := 10) (by decide) (by omega)).mp q) (by omega), fun _ => ?_⟩
    refine c_left ht hsn (by omega) (x := x) (a := a) (y2 := 1) hx (by omega) (by decide) (by decide) (fun t l2 t0 tsn tl t10 => ⟨rfl, fun q => absurd q (by rw [t10]; decide), fun _ => ?_⟩)
    have hst : isSt (230 + 127 + 3 * 0) := seaA230.2.2 0 (by decide)
    refine w_40 t 230 sea230 0 ⟨fun q => absurd q (by decide), fun _ => ⟨fun q => absurd q (by decide), fun _ => ⟨by decide, _, rfl, hst, _, rfl, hst, ?_⟩⟩⟩
    refine (c_tellS scr231 hst t 0).imp ?_
    rintro _ u ⟨rfl, hu⟩
    have u0 : ∀ q, (q = 0 ∨ 5 < q) → (q < 230 ∨ (453 < q ∧ (q < 682 ∨ 685 < q))) → u q = s q := fun q h1 h2 => by rw [hu q (by omega), t0 q h1 (by omega)]
    have u689 : u 689 1 = 0 := by rw [u0 689 (by omega) (by omega)]; exact h689
    refine ⟨rfl, w_103 u (w_16 u 689 32 row689 ⟨_, rfl, ?_⟩)⟩
    rw [u689]
    refine w_103_10 u 0 0 ⟨fun _ => ⟨_, rfl, w_16 u 689 32 row689 ⟨_, rfl, ?_⟩⟩, fun q => absurd (by decide) q⟩
    rw [u689]
    refine ⟨fun q => absurd rfl q, fun _ => ?_⟩
    rw [nI_1]
    refine ih (a + 1) l2 _ u (by omega) hB (hf.trans (fun q hq => u0 q (by omega) (by omega))) ?_ u689 (cSn_ext (hu 1 (by omega)) (hu 5 (by omega)) tsn) (by omega)
    unfold cTold at *
    rw [u0 7 (by omega) (by omega), u0 8 (by omega) (by omega)]
    exact ht
/-! the reference's text -/
theorem m_load_loop {s0 : rSg} {P : Option rv → rSg → Prop} (hP : ∀ t : rSg, (∀ q, q ≠ 736 → t q = s0 q) → (∀ j, j < 64 → t 736 j = s0 743 (64 * 30 + j)) → (∀ j, 64 ≤ j → t 736 j = s0 736 j) → P none t) : ∀ (n y : Nat) (s : rSg), y + n = 64 → (∀ q, q ≠ 736 → s q = s0 q) → (∀ j, j < y → s 736 j = s0 743 (64 * 30 + j)) → (∀ j, y ≤ j → s 736 j = s0 736 j) → g_167_16 (nI 30) (nI y) s P := by
  intro n
  induction n with
  | zero =>
    intro y s hy h0 h1 h2
    obtain rfl : y = 64 := by omega
    exact w_167_16 s (nI 30) (nI 64) ⟨fun _ => hP s h0 h1 h2, fun q => absurd (by decide) q⟩
  | succ n ih =>
    intro y s hy h0 h1 h2
    have e : (64 : Int32) * nI 30 + nI y = nI (64 * 30 + y) := by rw [show (64 : Int32) = nI 64 from rfl, pk_mul, nI_add]
    refine w_167_16 s (nI 30) (nI y) ⟨fun q => absurd ((nI_leI (a := 64) (by decide) (by omega)).mp q) (by omega), fun _ => ?_⟩
    rw [e, nI_clamp (by omega), nI_clamp (by omega), nI_1]
    refine ⟨rIn_nI (by omega) (by decide), rIn_nI (by omega) (by decide), ih (y + 1) _ (by omega) (fun q hq => by rw [up2_nk _ _ _ hq, h0 q hq]) (fun j hj => ?_) (fun j hj => ?_)⟩
    · by_cases hjy : j = y
      · subst hjy; rw [up2_same, h0 743 (by decide)]
      · rw [up2_nj _ _ _ (by omega), h1 j (by omega)]
    · rw [up2_nj _ _ _ (by omega), h2 j (by omega)]
theorem m_writes {s : rSg} {w : Nat} (h : s 725 51 = nI w) (hw : w < 200) (x : Int32) : EvS rSkel 1 169 [.inr (.inr (some 725)), .inl x] s (fun v t => v = none ∧ t 725 51 = nI (w + 1) ∧ (∀ q, q ≠ 725 → q ≠ 756 → t q = s q) ∧ (∀ j, j ≠ 51 → t 725 j = s 725 j)) := by
  refine w_169 s x ⟨fun q => absurd ((nI_leI (a := 200) (b := w) (by decide) (by omega)).mp (by rw [← h]; exact q)) (by omega), fun _ => ⟨by rw [h]; exact rIn_nI hw (by decide), rfl, ?_, fun q g1 g2 => ?_, fun j g1 => ?_⟩⟩
  · rw [up2_same, h, nI_1]
  · rw [up2_nk _ _ _ g1, up2_nk _ _ _ g2]
  · rw [up2_nj _ _ _ g1, up2_nk _ _ _ (by decide)]
theorem m_text0 {s : rSg} (hst : mSt s 75) {P : Option rv → rSg → Prop} (k : ∀ t : rSg, (∀ q, q ≠ 725 → q ≠ 738 → q ≠ 756 → q ≠ 757 → t q = s q) → (∀ j, j ≠ 17 → j ≠ 51 → j ≠ 52 → t 725 j = s 725 j) → (∃ w, w ≤ 200 ∧ t 725 51 = nI w) → P none t) : EvS rSkel 4 168 [.inr (.inr (some 725)), .inl 0] s P := by
  obtain ⟨hw, rk, hok⟩ := hst
  refine w_168 s 0 ?_
  generalize eA : up2 (up2 (up2 s 725 51 0) 725 52 0) 725 17 0 = A
  have a0 : ∀ q, q ≠ 725 → A q = s q := fun q h => by rw [← eA, up2_nk _ _ _ h, up2_nk _ _ _ h, up2_nk _ _ _ h]
  have a1 : ∀ j, j ≠ 17 → j ≠ 51 → j ≠ 52 → A 725 j = s 725 j := fun j g1 g2 g3 => by rw [← eA, up2_nj _ _ _ g1, up2_nj _ _ _ g3, up2_nj _ _ _ g2]
  have a17 : A 725 17 = nI 0 := by rw [← eA, up2_same]; rfl
  have a51 : A 725 51 = nI 0 := by rw [← eA, up2_nj _ _ _ (by decide), up2_nj _ _ _ (by decide), up2_same]; rfl
  have a52 : A 725 52 = nI 0 := by rw [← eA, up2_nj _ _ _ (by decide), up2_same]; rfl
  refine (ev_m_piles 0 A (p := 0) _ a17 (by decide)).imp ?_
  rintro _ _ ⟨rfl, rfl⟩
  refine ⟨rfl, ?_⟩
  generalize eB : up2 (up2 A 738 0 (2 * 0)) 725 17 (nI (0 + 1)) = B
  have b0 : ∀ q, q ≠ 725 → q ≠ 738 → B q = A q := fun q g1 g2 => by rw [← eB, up2_nk _ _ _ g1, up2_nk _ _ _ g2]
  have b1 : ∀ j, j ≠ 17 → B 725 j = A 725 j := fun j g => by rw [← eB, up2_nj _ _ _ g, up2_nk _ _ _ (by decide)]
  have b17 : B 725 17 = nI 1 := by rw [← eB, up2_same]
  have b38 : B 738 0 = nI 0 := by rw [← eB, up2_nk _ _ _ (by decide), up2_same]; rfl
  refine w_168_22 B ⟨fun q => absurd q (by rw [b17]; decide), fun _ => ⟨fun q => absurd q (by rw [b1 51 (by decide), a51]; decide), fun _ => w_116 B ⟨by rw [b17]; decide, ?_⟩⟩⟩
  rw [b17, show (nI 1 - 1) = nI 0 from rfl, show (nI 0).toNatClampNeg = 0 from rfl, b38]
  refine ⟨_, rfl, fun _ => ?_, fun q => absurd (by decide) q⟩
  generalize eC : up2 B 725 17 (nI 0) = C
  have c0 : ∀ q, q ≠ 725 → q ≠ 738 → C q = s q := fun q g1 g2 => by rw [← eC, up2_nk _ _ _ g1, b0 q g1 g2, a0 q g1]
  have c1 : ∀ j, j ≠ 17 → C 725 j = A 725 j := fun j g => by rw [← eC, up2_nj _ _ _ g, b1 j g]
  have c17 : C 725 17 = nI 0 := by rw [← eC, up2_same]
  have VC : mV C = mV s := mV_ext (c0 727 (by decide) (by decide)) (c0 728 (by decide) (by decide)) (c0 736 (by decide) (by decide))
  have wC : mWF C 75 := (mWF_ext (c0 727 (by decide) (by decide)) (c0 728 (by decide) (by decide)) (c0 736 (by decide) (by decide))).mpr hw
  -- the end
  have fin : ∀ (t : rSg) (w : Nat), w ≤ 3 → t 725 51 = nI w → (∀ q, q ≠ 725 → q ≠ 738 → q ≠ 756 → q ≠ 757 → t q = s q) → (∀ j, j ≠ 17 → j ≠ 51 → j ≠ 52 → t 725 j = s 725 j) → t 725 17 = nI 0 → g_168_22 t P := by
    intro t w hw3 t51 t0 t1 t17
    have le : t 725 51 ≤ 200 := by rw [t51]; exact (nI_leI (b := 200) (by omega) (by decide)).mpr (by omega)
    exact w_168_22 t ⟨fun _ => ⟨fun _ => k t t0 t1 ⟨w, by omega, t51⟩, fun q => absurd le q⟩, fun q => absurd (by rw [t17]; decide) q⟩
  have one : ∀ (x : Int32), EvS rSkel 1 169 [.inr (.inr (some 725)), .inl x] C (fun v t => v = none ∧ (none : Option rv) = none ∧ g_168_22 t P) := by
    intro x
    refine (m_writes (w := 0) (by rw [c1 51 (by decide), a51]) (by decide) x).imp ?_
    rintro _ t ⟨rfl, t51, t0, t1⟩
    exact ⟨rfl, rfl, fin t 1 (by decide) t51 (fun q g1 g2 g3 g4 => by rw [t0 q g1 g3, c0 q g1 g2]) (fun j g1 g2 g3 => by rw [t1 j g2, c1 j g1, a1 j g1 g2 g3]) (by rw [t1 17 (by decide), c17])⟩
  refine w_170 C (nI 0) ((mw_walk wC (VC ▸ hok) (c := 0) (by decide)).imp ?_)
  rintro _ C ⟨rfl, c2, rfl, hc2, hres, _⟩
  refine ⟨_, rfl, (m_isOpen C (by omega)).imp ?_⟩
  rintro _ C ⟨rfl, rfl⟩
  refine ⟨_, rfl, fun h0 => ?_, fun h0 => ?_⟩
  · rw [nI_half (by omega)]
    refine ⟨fun _ => ⟨fun hne => ?_, fun _ => one _⟩, fun _ => one _⟩
    exfalso
    have h64 : ¬ c2 / 2 < 64 := fun q => by rw [if_pos q] at h0; exact absurd h0 (by decide)
    by_cases h74 : c2 / 2 = 74
    · exact hne (by rw [h74]; rfl)
    · have h7 : (74 : Int32) ≤ nI (c2 / 2) := by assumption
      have := (nI_leI (a := 74) (b := c2 / 2) (by decide) (by omega)).mp h7
      omega
  · refine (m_writes (w := 0) (by rw [c1 51 (by decide), a51]) (by decide) 95).imp ?_
    rintro _ t ⟨rfl, t51, t0, t1⟩
    refine ⟨rfl, (m_openOf t (by omega)).imp ?_⟩
    rintro _ t ⟨rfl, rfl⟩
    have t52 : t 725 52 = nI 0 := by rw [t1 52 (by decide), c1 52 (by decide), a52]
    refine ⟨_, rfl, w_171 t _ (w_171_2 t _ 0 ⟨fun _ => ⟨by rw [t52]; decide, _, rfl, ?_⟩, fun q => absurd (by rw [t52]; decide) q⟩)⟩
    generalize eU : up2 (up2 t 757 (t 725 52).toNatClampNeg (nI (opn c2))) 725 52 (t 725 52 + 1) = U
    have u51 : U 725 51 = nI 1 := by rw [← eU, up2_nj _ _ _ (by decide), up2_nk _ _ _ (by decide), t51]
    refine (m_writes (w := 1) u51 (by decide) _).imp ?_
    rintro _ v ⟨rfl, v51, v0, v1⟩
    refine ⟨rfl, rfl, fin v 2 (by decide) v51 (fun q g1 g2 g3 g4 => ?_) (fun j g1 g2 g3 => ?_) ?_⟩
    · rw [v0 q g1 g3, ← eU, up2_nk _ _ _ g1, up2_nk _ _ _ g4, t0 q g1 g3, c0 q g1 g2]
    · rw [v1 j g2, ← eU, up2_nj _ _ _ g3, up2_nk _ _ _ (by decide), t1 j g2, c1 j g1, a1 j g1 g2 g3]
    · rw [v1 17 (by decide), ← eU, up2_nj _ _ _ (by decide), up2_nk _ _ _ (by decide), t1 17 (by decide), c17]
