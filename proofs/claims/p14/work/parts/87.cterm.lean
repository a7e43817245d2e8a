/-! THE CLASS's READER: a term's sign, exactly -/
theorem cs_11b {s : rSg} {l : List Int32} (hs : cw s l) (hl : l.length < 192) (c z y n : Int32) {P : Option rv → rSg → Prop} (hP : ∀ t, cw t (tAw c ++ l) → cK [4] s t → P (some (.inl 1)) t) : g_11_52 c z y n s P := by
  have put : ∀ (t : rSg) (m x : Int32), cw t (tAw c ++ l) → cK [4] s t → (m = 0 → EvS rSkel 1 22 [.inr (.inr (some 231)), .inl z, .inl y, .inl x] t (fun v17 t18 => v17 = none ∧ P (some (.inl 1)) t18)) ∧ (¬ (m = 0) → EvS rSkel 1 24 [.inr (.inr (some 231)), .inl z, .inl y, .inl x] t (fun v20 t21 => v20 = none ∧ P (some (.inl 1)) t21)) := by
    intro t m x ht kt
    refine ⟨fun _ => (s_22 scr231 t _ _ _).imp ?_, fun _ => (s_24 scr231 t _ _ _).imp ?_⟩
    all_goals
      rintro _ u ⟨rfl, hu⟩
      exact ⟨rfl, hP u (ht.sc hu) (kt.sc hu)⟩
  have three : ∀ (t : rSg) (p : Int32), c = 40 → cw t l → cK [4] s t → EvS rSkel 1 7 [.inr (.inr (some 678)), .inl 2, .inl (-1), .inl 0] t (fun v24 t25 => v24 = none ∧ EvS rSkel 1 7 [.inr (.inr (some 678)), .inl 1, .inl p, .inl 1] t25 (fun v27 t28 => v27 = none ∧ EvS rSkel 1 7 [.inr (.inr (some 678)), .inl 1, .inl p, .inl 0] t28 (fun v30 t31 => v30 = none ∧ EvS rSkel 1 74 [.inl z] t31 (fun v33 t34 => ∃ n36, v33 = some (.inl n36) ∧ (n36 = 0 → EvS rSkel 1 22 [.inr (.inr (some 231)), .inl z, .inl y, .inl p] t34 (fun v38 t39 => v38 = none ∧ P (some (.inl 1)) t39)) ∧ (¬ (n36 = 0) → EvS rSkel 1 24 [.inr (.inr (some 231)), .inl z, .inl y, .inl p] t34 (fun v41 t42 => v41 = none ∧ P (some (.inl 1)) t42)))))) := by
    intro t p hc ht kt
    refine (cs_7 ht (by omega) 41 (-1) 0).imp ?_
    rintro _ t1 ⟨rfl, h1, k1⟩
    refine ⟨rfl, (cs_7 h1 (by simp; omega) 116 p 1).imp ?_⟩
    rintro _ t2 ⟨rfl, h2, k2⟩
    refine ⟨rfl, (cs_7 h2 (by simp; omega) 116 p 0).imp ?_⟩
    rintro _ t3 ⟨rfl, h3, k3⟩
    refine ⟨rfl, (s_74 t3 _).imp ?_⟩
    rintro _ t3 ⟨m, rfl, rfl⟩
    refine ⟨_, rfl, put t3 m p ?_ (((kt.trans k1).trans k2).trans k3)⟩
    unfold tAw
    rw [if_pos hc]
    exact h3
  refine w_11_52 s c z y n ⟨fun h => (s_74 s _).imp ?_, fun h => ⟨fun _ => three s (-1) (Classical.not_not.mp h) hs cK.rfl', fun _ => (s_23 scr231 s _ _).imp ?_⟩⟩
  · rintro _ s ⟨m, rfl, rfl⟩
    refine ⟨_, rfl, put s m n ?_ cK.rfl'⟩
    unfold tAw
    rw [if_neg h]
    exact hs
  · rintro _ t ⟨p, rfl, ht⟩
    exact ⟨_, rfl, three t p (Classical.not_not.mp h) (hs.sc ht) (cK.rfl'.sc ht)⟩
