/-! SAFETY OF THE CLASS: telling a text -/
def tf (s t : rSg) : Prop := ∀ q, q < 682 ∨ 685 < q → t q = s q
theorem tf.rfl' {s : rSg} : tf s s := fun _ _ => rfl
theorem tf.trans {a b c : rSg} (h1 : tf a b) (h2 : tf b c) : tf a c := fun q hq => (h2 q hq).trans (h1 q hq)
theorem tf.up {s t : rSg} {k j : Nat} {x : Int32} (h : tf s t) (hk : 682 ≤ k ∧ k ≤ 685) : tf s (up2 t k j x) := fun q hq => by rw [up2_nk _ _ _ (by omega)]; exact h q hq
theorem s_59 (s : rSg) (x : Int32) : EvS rSkel 1 59 [.inr (.inr (some 682)), .inl x] s (fun v t => v = none ∧ tf s t) := by
  refine w_59 s x ⟨fun _ => ⟨rfl, tf.rfl'⟩, fun h0 => ⟨fun _ => ⟨rfl, tf.rfl'⟩, fun h1 => ⟨rIn_of (n := 604) (by decide) h0 h1, rfl, (tf.rfl'.up (by decide)).up (by decide)⟩⟩⟩
theorem s_60 (s : rSg) (x : Int32) : EvS rSkel 1 60 [.inr (.inr (some 682)), .inl x] s (fun v t => v = none ∧ tf s t) := by
  refine w_60 s x ⟨fun _ => ⟨rfl, tf.rfl'⟩, fun h0 => ⟨fun _ => ⟨rfl, tf.rfl'⟩, fun h1 => ⟨rIn_of (n := 200) (by decide) h0 h1, rfl, (tf.rfl'.up (by decide)).up (by decide)⟩⟩⟩
theorem s_62 (s : rSg) (x : Int32) : EvS rSkel 1 62 [.inr (.inr (some 682)), .inl x] s (fun v t => ∃ n, v = some (.inl n) ∧ tf s t) := by
  refine w_62 s x ⟨fun _ => ⟨_, rfl, tf.rfl'⟩, fun h0 => ⟨fun h1 => ?_, fun _ => ⟨_, rfl, tf.rfl'⟩⟩⟩
  have hr := rIn_of (n := 64) (by decide) h0 (Int32.not_le.mpr h1)
  exact ⟨hr, fun _ => ⟨hr, _, rfl, tf.rfl'⟩, fun _ => ⟨hr, hr, _, rfl, (tf.rfl'.up (by decide)).up (by decide)⟩⟩
theorem s_61 {sc : Nat} (hs : isScr sc) (s : rSg) (x : Int32) : EvS rSkel 3 61 [.inr (.inr (some 682)), .inr (.inr (some sc)), .inl x] s (fun v t => v = none ∧ tf s t) := by
  have put : ∀ (t : rSg) (y : Int32), tf s t → EvS rSkel 1 60 [.inr (.inr (some 682)), .inl y] t (fun v u => v = none ∧ (none : Option rv) = none ∧ tf s u) := fun t y ht => (s_60 t y).imp (fun v u h => ⟨h.1, rfl, ht.trans h.2⟩)
  have key : ∀ n : Int32, (n = 0 → (¬ x = 138 → EvS rSkel 1 77 [.inl x] s (fun v7 t8 => ∃ n10, v7 = some (.inl n10) ∧ (n10 = 0 → EvS rSkel 1 60 [.inr (.inr (some 682)), .inl ((48 + x) - 128)] t8 (fun v12 t13 => v12 = none ∧ (none : Option rv) = none ∧ tf s t13)) ∧ (¬ (n10 = 0) → EvS rSkel 1 60 [.inr (.inr (some 682)), .inl 95] t8 (fun v15 t16 => v15 = none ∧ EvS rSkel 1 62 [.inr (.inr (some 682)), .inl x] t16 (fun v18 t19 => ∃ n21, v18 = some (.inl n21) ∧ EvS rSkel 1 60 [.inr (.inr (some 682)), .inl (48 + (irem n21 10))] t19 (fun v22 t23 => v22 = none ∧ (none : Option rv) = none ∧ tf s t23)))))) ∧ (¬ (¬ x = 138) → EvS rSkel 1 60 [.inr (.inr (some 682)), .inl 110] s (fun v25 t26 => v25 = none ∧ (none : Option rv) = none ∧ tf s t26))) ∧ (¬ (n = 0) → EvS rSkel 1 60 [.inr (.inr (some 682)), .inl 40] s (fun v28 t29 => v28 = none ∧ EvS rSkel 1 59 [.inr (.inr (some 682)), .inl ((-41))] t29 (fun v31 t32 => v31 = none ∧ EvS rSkel 2 30 [.inr (.inr (some sc)), .inl x, .inl 1] t32 (fun v34 t35 => ∃ n37, v34 = some (.inl n37) ∧ EvS rSkel 1 59 [.inr (.inr (some 682)), .inl n37] t35 (fun v38 t39 => v38 = none ∧ EvS rSkel 1 59 [.inr (.inr (some 682)), .inl ((-46))] t39 (fun v41 t42 => v41 = none ∧ EvS rSkel 2 30 [.inr (.inr (some sc)), .inl x, .inl 0] t42 (fun v44 t45 => ∃ n47, v44 = some (.inl n47) ∧ EvS rSkel 1 59 [.inr (.inr (some 682)), .inl n47] t45 (fun v48 t49 => v48 = none ∧ (none : Option rv) = none ∧ tf s t49)))))))) := by
    intro n
    refine ⟨fun _ => ⟨fun _ => ?_, fun _ => put s _ tf.rfl'⟩, fun _ => ?_⟩
    · have v77 : ∀ m : Int32, (∃ n10, some (.inl m : rv) = some (.inl n10) ∧ (n10 = 0 → EvS rSkel 1 60 [.inr (.inr (some 682)), .inl ((48 + x) - 128)] s (fun v12 t13 => v12 = none ∧ (none : Option rv) = none ∧ tf s t13)) ∧ (¬ (n10 = 0) → EvS rSkel 1 60 [.inr (.inr (some 682)), .inl 95] s (fun v15 t16 => v15 = none ∧ EvS rSkel 1 62 [.inr (.inr (some 682)), .inl x] t16 (fun v18 t19 => ∃ n21, v18 = some (.inl n21) ∧ EvS rSkel 1 60 [.inr (.inr (some 682)), .inl (48 + (irem n21 10))] t19 (fun v22 t23 => v22 = none ∧ (none : Option rv) = none ∧ tf s t23))))) := by
        intro m
        refine ⟨m, rfl, fun _ => put s _ tf.rfl', fun _ => (s_60 s 95).imp ?_⟩
        rintro _ t ⟨rfl, ht⟩
        refine ⟨rfl, (s_62 t x).imp ?_⟩
        rintro _ u ⟨n21, rfl, hu⟩
        exact ⟨_, rfl, put u _ (ht.trans hu)⟩
      exact w_77 s x ⟨fun _ => v77 0, fun _ => ⟨fun _ => v77 0, fun _ => v77 1⟩⟩
    · refine (s_60 s 40).imp ?_
      rintro _ t1 ⟨rfl, h1⟩
      refine ⟨rfl, (s_59 t1 _).imp ?_⟩
      rintro _ t2 ⟨rfl, h2⟩
      refine ⟨rfl, (s_30 hs t2 x 1).imp ?_⟩
      rintro _ _ ⟨n3, rfl, rfl⟩
      refine ⟨_, rfl, (s_59 _ _).imp ?_⟩
      rintro _ t4 ⟨rfl, h4⟩
      refine ⟨rfl, (s_59 t4 _).imp ?_⟩
      rintro _ t5 ⟨rfl, h5⟩
      refine ⟨rfl, (s_30 hs t5 x 0).imp ?_⟩
      rintro _ _ ⟨n6, rfl, rfl⟩
      refine ⟨_, rfl, (s_59 _ _).imp ?_⟩
      rintro _ t7 ⟨rfl, h7⟩
      exact ⟨rfl, rfl, (((h1.trans h2).trans h4).trans h5).trans h7⟩
  exact w_61 s sc hs x (w_74 s x ⟨fun _ => ⟨_, rfl, key 0⟩, fun _ => ⟨_, rfl, key 1⟩⟩)
theorem s_58b {sc k : Nat} (hs : isScr sc) (hk : isSt k) {s0 : rSg} {P : Option rv → rSg → Prop} (hP : ∀ t, tf s0 t → P none t) : ∀ (m y : Nat) (s : rSg), y + m = 200 → tf s0 s → g_58_31 sc k (nI y) s P := by
  have harr : isArr (k + 1) 64 := ⟨by have := hk.1; omega, hk.2.2.1⟩
  intro m
  induction m with
  | zero =>
    intro y s hy hf
    obtain rfl : y = 200 := by omega
    exact w_58_31 s sc hs k hk (nI 200) ⟨fun _ => hP s hf, fun q => absurd (by decide) q⟩
  | succ m ih =>
    intro y s hy hf
    refine w_58_31 s sc hs k hk (nI y) ⟨fun _ => hP s hf, fun _ => ⟨fun _ => hP s hf, fun h0 => ⟨fun _ => hP s hf, fun h1 => ?_⟩⟩⟩
    have hr : rIn (s 682 4 - 1) 604 = true := by
      obtain ⟨n, hn, e⟩ := nn_of (x := s 682 4) (fun q => h0 (Int32.le_iff_toInt_le.mpr (by have := Int32.lt_iff_toInt_lt.mp q; omega)))
      rw [e] at h0 h1 ⊢
      have n0 : n ≠ 0 := fun q => h0 (by rw [q]; decide)
      have n1 : n ≤ 604 := by
        have h9 : ¬ 604 < n := fun q => h1 ((nI_ltI (a := 604) (by decide) hn).mpr q)
        omega
      obtain ⟨j, rfl⟩ : ∃ j, n = j + 1 := ⟨n - 1, by omega⟩
      rw [show nI (j + 1) - 1 = nI j from nI_pred j]
      exact rIn_nI (by omega) (by decide)
    refine ⟨hr, fun _ => (s_76 harr (by decide) _ _).imp ?_, fun _ => (s_60 _ _).imp ?_⟩
    · rintro _ _ ⟨n, rfl, rfl⟩
      refine ⟨_, rfl, (s_61 hs _ n).imp ?_⟩
      rintro _ t ⟨rfl, ht⟩
      refine ⟨rfl, ?_⟩
      rw [nI_1]
      exact ih (y + 1) t (by omega) ((hf.up (by decide)).trans ht)
    · rintro _ t ⟨rfl, ht⟩
      refine ⟨rfl, ?_⟩
      rw [nI_1]
      exact ih (y + 1) t (by omega) ((hf.up (by decide)).trans ht)
/-- tell: whatever the bindings are, it ends -/
theorem s_58 {sc k : Nat} (hs : isScr sc) (hk : isSt k) (s : rSg) (x : Int32) : EvS rSkel 4 58 [.inr (.inr (some 682)), .inr (.inr (some sc)), .inr (.inr (some k)), .inl x] s (fun v t => v = none ∧ tf s t) := by
  refine w_58 s sc hs k hk x ((c_fill (Sk := rSkel) (kb := 685) (nb := 64) ⟨by decide, sk_685⟩ (by decide) _ (-1)).imp ?_)
  rintro _ t ⟨rfl, t0, _⟩
  have h1 : tf s (up2 t 682 4 0) := by
    refine tf.up (fun q hq => ?_) (by decide)
    rw [t0 q (by omega), up2_nk _ _ _ (by omega), up2_nk _ _ _ (by omega)]
  refine ⟨rfl, (s_59 _ x).imp ?_⟩
  rintro _ u ⟨rfl, hu⟩
  exact ⟨rfl, s_58b hs hk (fun w hw => ⟨rfl, hw⟩) 200 0 u rfl (h1.trans hu)⟩
