/-! THE CLASS's READER: termOf, takesTerm -/
theorem i_lt {x y : Int32} : x < y ↔ x.toInt < y.toInt := Int32.lt_iff_toInt_lt
theorem i_le {x y : Int32} : x ≤ y ↔ x.toInt ≤ y.toInt := Int32.le_iff_toInt_le
theorem cs_12b {s : rSg} {c : Int32} (hv : ¬ (97 ≤ c ∧ c ≤ 102)) : g_12_17 c s (fun v t => (∃ n : Int32, v = some (.inl n) ∧ ((¬ n = -1 ∧ tSg c ∧ c ≠ 40) ∨ (n = -1 ∧ (tSg c → c = 40)))) ∧ t = s) := by
  have no : c ≠ 110 → ¬ (48 ≤ c ∧ c ≤ 57) → (∃ n : Int32, some (.inl (-1) : rv) = some (.inl n) ∧ ((¬ n = -1 ∧ tSg c ∧ c ≠ 40) ∨ (n = -1 ∧ (tSg c → c = 40)))) ∧ s = s := fun h1 h2 => ⟨⟨_, rfl, Or.inr ⟨rfl, fun q => by
    rcases q with q | q | q | q
    · exact absurd q hv
    · exact absurd q h2
    · exact absurd q h1
    · exact q⟩⟩, rfl⟩
  have yes : c = 110 → (∃ n : Int32, some (.inl 138 : rv) = some (.inl n) ∧ ((¬ n = -1 ∧ tSg c ∧ c ≠ 40) ∨ (n = -1 ∧ (tSg c → c = 40)))) ∧ s = s := fun h => ⟨⟨_, rfl, Or.inl ⟨by decide, Or.inr (Or.inr (Or.inl h)), by rw [h]; decide⟩⟩, rfl⟩
  refine w_12_17 s c ⟨fun h1 => ⟨fun h2 => no h2 (fun q => absurd q.1 (Int32.not_le.mpr h1)), fun h2 => yes (Classical.not_not.mp h2)⟩, fun h1 => ⟨fun h2 => ⟨fun h3 => no h3 (fun q => ?_), fun h3 => yes (Classical.not_not.mp h3)⟩, fun h2 => ?_⟩⟩
  · have a := i_le.mp h2
    have b := i_le.mp q.2
    have e1 : (58 : Int32).toInt = 58 := rfl
    have e2 : (57 : Int32).toInt = 57 := rfl
    omega
  · have lo : 48 ≤ c := Int32.not_lt.mp h1
    have hi : c < 58 := Int32.not_le.mp h2
    have a := i_le.mp lo
    have b := i_lt.mp hi
    have e1 : (58 : Int32).toInt = 58 := rfl
    have e2 : (48 : Int32).toInt = 48 := rfl
    have hn : ¬ c < 0 := fun q => by
      have := i_lt.mp q
      have e0 : (0 : Int32).toInt = 0 := rfl
      omega
    obtain ⟨k, hk, rfl⟩ := nn_of hn
    have k1 : 48 ≤ k := (nI_leI (a := 48) (by decide) hk).mp lo
    have k2 : k < 58 := (nI_ltI hk (b := 58) (by decide)).mp hi
    obtain ⟨j, rfl⟩ : ∃ j, k = j + 48 := ⟨k - 48, by omega⟩
    have ev : (128 + nI (j + 48)) - 48 = nI (128 + j) := by
      rw [show (128 : Int32) = nI 128 from rfl, nI_add, show 128 + (j + 48) = (128 + j) + 48 by omega, ← nI_add (128 + j) 48]
      exact Int32.add_sub_cancel _ _
    rw [ev]
    refine ⟨⟨_, rfl, Or.inl ⟨fun q => ?_, Or.inr (Or.inl ⟨lo, ?_⟩), fun q => ?_⟩⟩, rfl⟩
    · exact nI_pos (n := 128 + j) (by omega) (by rw [q]; decide)
    · exact nI_le (a := j + 48) (b := 57) (by omega) (by decide)
    · exact absurd ((nI_eq (b := 40) (by omega) (by decide)).mp q) (by omega)
theorem cs_12 (s : rSg) (c : Int32) : EvS rSkel 1 12 [.inl c] s (fun v t => (∃ n : Int32, v = some (.inl n) ∧ ((¬ n = -1 ∧ tSg c ∧ c ≠ 40) ∨ (n = -1 ∧ (tSg c → c = 40)))) ∧ t = s) := by
  refine w_12 s c ⟨fun h => cs_12b (fun q => absurd q.1 (Int32.not_le.mpr h)), fun h => ⟨fun h2 => cs_12b (fun q => ?_), fun h2 => ?_⟩⟩
  · have a := i_le.mp h2
    have b := i_le.mp q.2
    have e1 : (103 : Int32).toInt = 103 := rfl
    have e2 : (102 : Int32).toInt = 102 := rfl
    omega
  · have lo : 97 ≤ c := Int32.not_lt.mp h
    have hi : c < 103 := Int32.not_le.mp h2
    have a := i_le.mp lo
    have e2 : (97 : Int32).toInt = 97 := rfl
    have hn : ¬ c < 0 := fun q => by
      have := i_lt.mp q
      have e0 : (0 : Int32).toInt = 0 := rfl
      omega
    obtain ⟨k, hk, rfl⟩ := nn_of hn
    have k1 : 97 ≤ k := (nI_leI (a := 97) (by decide) hk).mp lo
    have k2 : k < 103 := (nI_ltI hk (b := 103) (by decide)).mp hi
    obtain ⟨j, rfl⟩ : ∃ j, k = j + 97 := ⟨k - 97, by omega⟩
    have ev : nI (j + 97) - 97 = nI j := by
      rw [← nI_add j 97]
      exact Int32.add_sub_cancel _ _
    rw [ev]
    refine ⟨⟨_, rfl, Or.inl ⟨fun q => ?_, Or.inl ⟨lo, ?_⟩, fun q => ?_⟩⟩, rfl⟩
    · exact nI_pos (n := j) (by omega) (by rw [q]; decide)
    · exact nI_le (a := j + 97) (b := 102) (by omega) (by decide)
    · exact absurd ((nI_eq (b := 40) (by omega) (by decide)).mp q) (by omega)
