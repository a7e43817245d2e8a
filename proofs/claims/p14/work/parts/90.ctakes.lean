/-! THE CLASS's READER: one sign is the pure reader's step -/
theorem cs_8 {s : rSg} {w : Int32} {l : List Int32} {ng nt i : Nat} {bad : Option Nat} (hs : cRd s (w :: l, ng, nt, bad)) (hw : w = 103 ∨ w = 116 ∨ w = 41) (hi : i < 96) (hok : rdOK i (w :: l, ng, nt, bad)) (c : Int32) : EvS rSkel 3 8 [.inr (.inr (some 678)), .inl c, .inl (nI i)] s (fun v t => (∃ S2, RStep i c w (l, ng, nt, bad) S2 ∧ v = some (.inl 1) ∧ cRd t S2 ∧ rd s t) ∨ (aNo c w ∧ v = some (.inl 0) ∧ rd s t)) := by
  obtain ⟨a1, a2, a3, a4⟩ := hs
  obtain ⟨o1, o2, o3, o4, o5⟩ := hok
  simp only at a1 a2 a3 a4 o1 o2 o3 o4 o5
  have hl : l.length ≤ 2 * i := by simp at o1; omega
  have e4 : s 678 4 = nI (l.length + 1) := a1.1
  have u1 : cRd (up2 s 678 4 (nI l.length)) (l, ng, nt, bad) := ⟨⟨up2_same _ _ _ _, cwl_ext (fun j _ => by rw [up2_nk _ _ _ (by decide)]) a1.2.2⟩, by rw [up2_nj _ _ _ (by decide)]; exact a2, by rw [up2_nj _ _ _ (by decide)]; exact a3, by rw [up2_nj _ _ _ (by decide)]; exact a4⟩
  have ru : rd s (up2 s 678 4 (nI l.length)) := rd.rfl'.up (by omega)
  refine w_8 s c (nI i) ?_
  rw [e4, show nI (l.length + 1) - 1 = nI l.length from nI_pred _, nI_clamp (by omega), a1.2.1]
  have r := rIn_nI (t := l.length) (n := 196) (by omega) (by decide)
  refine ⟨fun q => absurd q (nI_pos (by omega)), fun _ => ⟨fun _ => ⟨r, r, r, fun h => (cs_9 u1 hi hl o2 o4 (fun q => (o5 q).1) c _ _).imp ?_, fun h => (cs_11 u1 hi hl o3 o4 (fun q => (o5 q).2) c _ _).imp ?_, fun h => ?_⟩, fun q => absurd ((nI_ltI (b := 196) (by omega) (by decide)).mpr (by omega)) q⟩⟩
  · have w0 : w = 103 := by
      rcases hw with e | e | e
      · exact e
      · rw [e] at h; exact absurd h (by decide)
      · rw [e] at h; exact absurd h (by decide)
    rintro _ t (⟨g, rfl, ht, rt⟩ | ⟨g, rfl, rfl⟩)
    · exact ⟨_, rfl, by decide, Or.inl ⟨_, Or.inr (Or.inr ⟨by rw [w0]; decide, by rw [w0]; decide, g, rfl⟩), rfl, ht, ru.trans rt⟩⟩
    · exact ⟨_, rfl, by decide, Or.inr ⟨Or.inr (Or.inr ⟨by rw [w0]; decide, by rw [w0]; decide, g⟩), rfl, ru⟩⟩
  · have w0 : w = 116 := by
      rcases hw with e | e | e
      · rw [e] at h; exact absurd h (by decide)
      · exact e
      · rw [e] at h; exact absurd h (by decide)
    rintro _ t (⟨g, rfl, ht, rt⟩ | ⟨g, rfl, rfl⟩)
    · exact ⟨_, rfl, by decide, Or.inl ⟨_, Or.inr (Or.inl ⟨by rw [w0]; decide, w0, g, rfl⟩), rfl, ht, ru.trans rt⟩⟩
    · exact ⟨_, rfl, by decide, Or.inr ⟨Or.inr (Or.inl ⟨by rw [w0]; decide, w0, g⟩), rfl, ru⟩⟩
  · have w0 : w = 41 := by
      rcases hw with e | e | e
      · rw [e] at h; exact absurd (by decide) h.1
      · rw [e] at h; exact absurd (by decide) h.2
      · exact e
    exact ⟨fun q => Or.inr ⟨Or.inl ⟨w0, q⟩, rfl, ru⟩, fun q => Or.inl ⟨_, Or.inl ⟨w0, Classical.not_not.mp q, rfl⟩, rfl, u1, ru⟩⟩
