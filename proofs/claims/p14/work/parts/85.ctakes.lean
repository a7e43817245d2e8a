/-! THE CLASS's READER: a goal's sign -/
theorem gAw_rep {c : Int32} (h : gSg c) : gAw c = List.replicate (gAw c).length (if c = 38 ∨ c = 124 then 103 else 116) := by
  rcases h with rfl | rfl | rfl | rfl | rfl | rfl | rfl | rfl <;> decide
theorem cs_10 (s : rSg) (c : Int32) : EvS rSkel 1 10 [.inl c] s (fun v t => ((gSg c ∧ v = some (.inl (nI (gAw c).length))) ∨ (¬ gSg c ∧ v = some (.inl (-1)))) ∧ t = s) := by
  refine w_10 s c ⟨?_, ?_, ?_, ?_, ?_, ?_, ?_, ?_, ?_⟩
  · rintro rfl; exact ⟨Or.inl ⟨by unfold gSg; decide, by decide⟩, rfl⟩
  · rintro rfl; exact ⟨Or.inl ⟨by unfold gSg; decide, by decide⟩, rfl⟩
  · rintro rfl; exact ⟨Or.inl ⟨by unfold gSg; decide, by decide⟩, rfl⟩
  · rintro rfl; exact ⟨Or.inl ⟨by unfold gSg; decide, by decide⟩, rfl⟩
  · rintro rfl; exact ⟨Or.inl ⟨by unfold gSg; decide, by decide⟩, rfl⟩
  · rintro rfl; exact ⟨Or.inl ⟨by unfold gSg; decide, by decide⟩, rfl⟩
  · rintro rfl; exact ⟨Or.inl ⟨by unfold gSg; decide, by decide⟩, rfl⟩
  · rintro rfl; exact ⟨Or.inl ⟨by unfold gSg; decide, by decide⟩, rfl⟩
  · rintro ⟨h1, h2, h3, h4, h5, h6, h7, h8⟩
    refine ⟨Or.inr ⟨?_, rfl⟩, rfl⟩
    intro q
    rcases q with q | q | q | q | q | q | q | q
    · exact h5 q
    · exact h2 q
    · exact h3 q
    · exact h8 q
    · exact h6 q
    · exact h7 q
    · exact h4 q
    · exact h1 q
theorem cs_9b {s : rSg} {l : List Int32} (hs : cw s l) (hl : l.length < 192) {c : Int32} (hc : gSg c) (z y : Int32) {P : Option rv → rSg → Prop} (hP : ∀ t, cw t (gAw c ++ l) → cK [4] s t → P (some (.inl 1)) t) : g_9_45 c z y (nI (gAw c).length) s P := by
  have hlen := gAw_len c
  have body : ∀ (a : Int32) (t : rSg), cw t l → cK [4] s t → (c = 38 → g_9_104 a 0 (nI (gAw c).length - 1) t P) ∧ (¬ (c = 38) → (¬ c = 124 → g_9_104 a 1 (nI (gAw c).length - 1) t P) ∧ (¬ (¬ c = 124) → g_9_104 a 0 (nI (gAw c).length - 1) t P)) := by
    intro a t ht kt
    have both : (c = 38 ∨ c = 124) → g_9_104 a (kdI 103) (nI (gAw c).length - 1) t P := fun h => cs_9c a 103 _ l t (by omega) ht kt (fun u hu ku => hP u (by
      rw [gAw_rep hc, if_pos h]
      exact hu) ku)
    have term : ¬ (c = 38 ∨ c = 124) → g_9_104 a (kdI 116) (nI (gAw c).length - 1) t P := fun h => cs_9c a 116 _ l t (by omega) ht kt (fun u hu ku => hP u (by
      rw [gAw_rep hc, if_neg h]
      exact hu) ku)
    exact ⟨fun h => both (Or.inl h), fun h => ⟨fun h2 => term (fun q => q.elim h h2), fun h2 => both (Or.inr (Classical.not_not.mp h2))⟩⟩
  refine w_9_45 s c z y _ ⟨fun _ => (s_22 scr231 s _ _ _).imp ?_, fun _ => (s_21 scr231 s _).imp ?_⟩
  · rintro _ t ⟨rfl, ht⟩
    exact ⟨rfl, body _ t (hs.sc ht) (cK.rfl'.sc ht)⟩
  · rintro _ t ⟨n1, rfl, ht⟩
    refine ⟨_, rfl, (s_22 scr231 t _ _ _).imp ?_⟩
    rintro _ u ⟨rfl, hu⟩
    exact ⟨rfl, body _ u (hs.sc (ht.trans hu)) (cK.rfl'.sc (ht.trans hu))⟩
