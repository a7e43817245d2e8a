/-! THE CLASS's READER: takesTerm, exactly -/
theorem cs_11 {s : rSg} {l : List Int32} {ng nt i : Nat} {bad : Option Nat} (hs : cRd s (l, ng, nt, bad)) (hi : i < 96) (hl : l.length ≤ 2 * i) (ho : nt ≤ i) (hb : ∀ b, bad = some b → b ≤ i) (h40 : bad = none → nt ≤ 40) (c z y : Int32) : EvS rSkel 2 11 [.inr (.inr (some 678)), .inl c, .inl (nI i), .inl z, .inl y] s (fun v t => (tSg c ∧ v = some (.inl 1) ∧ cRd t (tAw c ++ l, ng, nt + 1, tBad nt bad i) ∧ rd s t) ∨ (¬ tSg c ∧ v = some (.inl 0) ∧ t = s)) := by
  obtain ⟨a1, a2, a3, a4⟩ := hs
  simp only at a1 a2 a3 a4
  have hb9 : ∀ x, bad = some x → x < 1000 := fun x hx => by have := hb x hx; omega
  refine w_11 s c _ z y ((cs_12 s c).imp ?_)
  rintro v s ⟨⟨n, rfl, hn⟩, rfl⟩
  have yes : tSg c → (((s 678 6) + 1) ≤ 40 → g_11_52 c z y n (up2 s 678 6 ((s 678 6) + 1)) (fun v t => (tSg c ∧ v = some (.inl 1) ∧ cRd t (tAw c ++ l, ng, nt + 1, tBad nt bad i) ∧ rd s t) ∨ (¬ tSg c ∧ v = some (.inl 0) ∧ t = s))) ∧ (¬ (((s 678 6) + 1) ≤ 40) → (¬ (s 678 7) = ((-1)) → g_11_52 c z y n (up2 s 678 6 ((s 678 6) + 1)) (fun v t => (tSg c ∧ v = some (.inl 1) ∧ cRd t (tAw c ++ l, ng, nt + 1, tBad nt bad i) ∧ rd s t) ∨ (¬ tSg c ∧ v = some (.inl 0) ∧ t = s))) ∧ (¬ (¬ (s 678 7) = ((-1))) → g_11_52 c z y n (up2 (up2 s 678 6 ((s 678 6) + 1)) 678 7 (nI i)) (fun v t => (tSg c ∧ v = some (.inl 1) ∧ cRd t (tAw c ++ l, ng, nt + 1, tBad nt bad i) ∧ rd s t) ∨ (¬ tSg c ∧ v = some (.inl 0) ∧ t = s)))) := by
    intro hc
    have fin : ∀ (u : rSg), cw u l → u 678 6 = nI (nt + 1) → u 678 5 = nI ng → u 678 7 = badI (tBad nt bad i) → rd s u → g_11_52 c z y n u (fun v t => (tSg c ∧ v = some (.inl 1) ∧ cRd t (tAw c ++ l, ng, nt + 1, tBad nt bad i) ∧ rd s t) ∨ (¬ tSg c ∧ v = some (.inl 0) ∧ t = s)) := fun u h1 h2 h3 h4 h5 => cs_11b h1 (by omega) c z y n (fun t ht kt => Or.inl ⟨hc, rfl, ⟨ht, by rw [kt.2 5 (by simp)]; exact h3, by rw [kt.2 6 (by simp)]; exact h2, by rw [kt.2 7 (by simp)]; exact h4⟩, h5.trans kt.1⟩)
    have au : ∀ {u : rSg}, u 679 = s 679 → u 678 4 = s 678 4 → cw u l := fun h1 h2 => ⟨by rw [h2]; exact a1.1, cwl_ext (fun j _ => by rw [h1]) a1.2⟩
    have one : ¬ (nt = 40 ∧ bad = none) → g_11_52 c z y n (up2 s 678 6 (s 678 6 + 1)) (fun v t => (tSg c ∧ v = some (.inl 1) ∧ cRd t (tAw c ++ l, ng, nt + 1, tBad nt bad i) ∧ rd s t) ∨ (¬ tSg c ∧ v = some (.inl 0) ∧ t = s)) := fun h => fin _ (au (up2_nk _ _ _ (by decide)) (up2_nj _ _ _ (by decide))) (by rw [up2_same, a3, nI_1]) (by rw [up2_nj _ _ _ (by decide)]; exact a2) (by rw [up2_nj _ _ _ (by decide), a4, tBad, if_neg h]) (rd.rfl'.up (by omega))
    refine ⟨fun h => one (fun q => ?_), fun h => ⟨fun h2 => one (fun q => h2 (by rw [a4, q.2]; rfl)), fun h2 => ?_⟩⟩
    · rw [a3, nI_1] at h
      have := (nI_leI (a := nt + 1) (b := 40) (by omega) (by decide)).mp h
      omega
    · have hn : bad = none := (badI_m1 hb9).mp (by rw [← a4]; exact Classical.not_not.mp h2)
      have hg : nt = 40 := by
        rw [a3, nI_1] at h
        have h9 := h40 hn
        have : ¬ nt + 1 ≤ 40 := fun q => h ((nI_leI (b := 40) (by omega) (by decide)).mpr q)
        omega
      refine fin _ (au ?_ ?_) ?_ ?_ ?_ ((rd.rfl'.up (by omega)).up (by omega))
      · rw [up2_nk _ _ _ (by decide), up2_nk _ _ _ (by decide)]
      · rw [up2_nj _ _ _ (by decide), up2_nj _ _ _ (by decide)]
      · rw [up2_nj _ _ _ (by decide), up2_same, a3, nI_1]
      · rw [up2_nj _ _ _ (by decide), up2_nj _ _ _ (by decide)]; exact a2
      · rw [up2_same, tBad, if_pos ⟨hg, hn⟩]; rfl
  refine ⟨_, rfl, fun h => ?_, fun h => ⟨fun h2 => yes (Or.inr (Or.inr (Or.inr h2))), fun h2 => Or.inr ⟨?_, rfl, rfl⟩⟩⟩
  · rcases hn with ⟨_, q, _⟩ | ⟨q, _⟩
    · exact yes q
    · exact absurd q h
  · rcases hn with ⟨q, _, _⟩ | ⟨_, q⟩
    · exact absurd q h
    · exact fun e => h2 (q e)
