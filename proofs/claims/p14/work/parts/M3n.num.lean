/-! THE NUMBERS: what is decided -/
def okZ (h g e N D : Nat) : Prop := (513 + 10 * h) * 42 * D ≤ 8550 * N ∧ (1710 + 100 * g) * 42 * 1562500 * D ≤ 7125 * 7015764 * N ∧ (855 + 100 * e) * 42 * D ≤ 285 * 84 * N
def allR (f : Nat → Bool) : Nat → Bool
  | 0 => true
  | n + 1 => f n && allR f n
theorem allR_at {f : Nat → Bool} : ∀ {n : Nat}, allR f n = true → ∀ i, i < n → f i = true
  | 0, _, i, h => by omega
  | n + 1, h, i, hi => by
    unfold allR at h
    rw [Bool.and_eq_true] at h
    by_cases e : i = n
    · rw [e]; exact h.1
    · exact allR_at h.2 i (by omega)
def okFb (h g e N D : Nat) : Bool :=
  (if 60 ≤ h then Nat.ble ((12 + h) * D) (12 * N) else Nat.ble ((24 + h) * D) (14 * N)) &&
  ((if 24 ≤ h then Nat.ble ((12 + h) * D) (12 * N) else Nat.ble ((504 + 25 * h) * D) (300 * N)) &&
  ((if 20 < g then Nat.ble (1562500 * (4 + g) * D) (7015764 * N) else Nat.ble (4687500 * (8 + g) * D) (24555174 * N)) &&
  ((if 8 ≤ g then Nat.ble (1562500 * (4 + g) * D) (7015764 * N) else Nat.ble (1562500 * (168 + 25 * g) * D) (175394100 * N)) &&
  ((if 10 < e then Nat.ble (25 * (2 + e) * D) (84 * N) else Nat.ble (25 * (4 + e) * D) (98 * N)) &&
  (if 4 ≤ e then Nat.ble (25 * (2 + e) * D) (84 * N) else Nat.ble ((84 + 25 * e) * D) (84 * N))))))
theorem ite_ble {c : Prop} [Decidable c] {a b d e : Nat} (h : (if c then Nat.ble a b else Nat.ble d e) = true) : (c → a ≤ b) ∧ (¬ c → d ≤ e) := by
  by_cases q : c
  · rw [if_pos q] at h
    exact ⟨fun _ => Nat.le_of_ble_eq_true h, fun z => absurd q z⟩
  · rw [if_neg q] at h
    exact ⟨fun z => absurd z q, fun _ => Nat.le_of_ble_eq_true h⟩
theorem okF_of {h g e N D : Nat} (q : okFb h g e N D = true) : okF h g e N D := by
  unfold okFb at q
  simp only [Bool.and_eq_true] at q
  obtain ⟨q1, q2, q3, q4, q5, q6⟩ := q
  have r1 := ite_ble q1
  have r2 := ite_ble q2
  have r3 := ite_ble q3
  have r4 := ite_ble q4
  have r5 := ite_ble q5
  have r6 := ite_ble q6
  exact ⟨r1.1, fun z => r1.2 (by omega), r2.1, fun z => r2.2 (by omega), r3.1, fun z => r3.2 (by omega), r4.1, fun z => r4.2 (by omega), r5.1, fun z => r5.2 (by omega), r6.1, fun z => r6.2 (by omega)⟩
def okZb (h g e N D : Nat) : Bool := Nat.ble ((513 + 10 * h) * 42 * D) (8550 * N) && (Nat.ble ((1710 + 100 * g) * 42 * 1562500 * D) (7125 * 7015764 * N) && Nat.ble ((855 + 100 * e) * 42 * D) (285 * 84 * N))
theorem okZ_of {h g e N D : Nat} (q : okZb h g e N D = true) : okZ h g e N D := by
  unfold okZb at q
  simp only [Bool.and_eq_true] at q
  exact ⟨Nat.le_of_ble_eq_true q.1, Nat.le_of_ble_eq_true q.2.1, Nat.le_of_ble_eq_true q.2.2⟩
theorem okV {T U : Nat} (hT : T < 21) (hU : U < 37) : okF (12 * T + max 6 (max (2 * T + 4) (3 * T)) * U) (4 * T + max 2 (T + 1) * U) (2 * T + max T 1 * U) (fN 1 (2 * T + 3) U) (fD 1 (2 * T + 3) U) := by
  have h := (by decide +kernel : allR (fun T => allR (fun U => okFb (12 * T + max 6 (max (2 * T + 4) (3 * T)) * U) (4 * T + max 2 (T + 1) * U) (2 * T + max T 1 * U) (fN 1 (2 * T + 3) U) (fD 1 (2 * T + 3) U)) 37) 21 = true)
  have h3 := allR_at h T hT
  exact okF_of (allR_at h3 U hU)
theorem okP {T U : Nat} (hT : T < 21) (hU : U < 37) : okF (12 * T + 6 * (max T 1 * U)) (4 * T + 2 * (max T 1 * U)) (2 * T + max T 1 * U) (fN 2 (2 * T + 3) U) (fD 2 (2 * T + 3) U) := by
  have h := (by decide +kernel : allR (fun T => allR (fun U => okFb (12 * T + 6 * (max T 1 * U)) (4 * T + 2 * (max T 1 * U)) (2 * T + max T 1 * U) (fN 2 (2 * T + 3) U) (fD 2 (2 * T + 3) U)) 37) 21 = true)
  have h3 := allR_at h T hT
  exact okF_of (allR_at h3 U hU)
theorem okZV {T U : Nat} (hT : T < 21) (hU : U < 37) (h2 : 2 ≤ T) : okZ (12 * T + max 6 (max (2 * T + 8) (3 * T)) * U) (4 * T + max 2 (T + 2) * U) (2 * T + max T 1 * U) (fN 1 (2 * T + 3) U) (fD 1 (2 * T + 3) U) := by
  have h := (by decide +kernel : allR (fun T => decide (T < 2) || allR (fun U => okZb (12 * T + max 6 (max (2 * T + 8) (3 * T)) * U) (4 * T + max 2 (T + 2) * U) (2 * T + max T 1 * U) (fN 1 (2 * T + 3) U) (fD 1 (2 * T + 3) U)) 37) 21 = true)
  have h3 := allR_at h T hT
  simp only [Bool.or_eq_true, decide_eq_true_eq] at h3
  have h3 := h3.resolve_left (by omega)
  exact okZ_of (allR_at h3 U hU)
theorem okZP {T U : Nat} (hT : T < 21) (hU : U < 37) (h2 : 2 ≤ T) : okZ (12 * T + 6 * (max T 1 * U)) (4 * T + 2 * (max T 1 * U)) (2 * T + max T 1 * U) (fN 2 (2 * T + 3) U) (fD 2 (2 * T + 3) U) := by
  have h := (by decide +kernel : allR (fun T => decide (T < 2) || allR (fun U => okZb (12 * T + 6 * (max T 1 * U)) (4 * T + 2 * (max T 1 * U)) (2 * T + max T 1 * U) (fN 2 (2 * T + 3) U) (fD 2 (2 * T + 3) U)) 37) 21 = true)
  have h3 := allR_at h T hT
  simp only [Bool.or_eq_true, decide_eq_true_eq] at h3
  have h3 := h3.resolve_left (by omega)
  exact okZ_of (allR_at h3 U hU)
theorem okX {T U h : Nat} (hT : T < 21) (hU : U < 37) (hh : h < 3) (h2 : 2 ≤ T) (u2 : 2 ≤ U) : okF (12 * T + 6 * (T * U) - 4 * (T * h)) (4 * T + 2 * (T * U) - T * h) (2 * T + T * U) (fN 1 (2 * T + 3) (U + 2 - h)) (fD 1 (2 * T + 3) (U + 2 - h)) := by
  have q := (by decide +kernel : allR (fun T => decide (T < 2) || allR (fun U => decide (U < 2) || allR (fun h => okFb (12 * T + 6 * (T * U) - 4 * (T * h)) (4 * T + 2 * (T * U) - T * h) (2 * T + T * U) (fN 1 (2 * T + 3) (U + 2 - h)) (fD 1 (2 * T + 3) (U + 2 - h))) 3) 37) 21 = true)
  have q1 := allR_at q T hT
  simp only [Bool.or_eq_true, decide_eq_true_eq] at q1
  have q2 := allR_at (q1.resolve_left (by omega)) U hU
  simp only [Bool.or_eq_true, decide_eq_true_eq] at q2
  exact okF_of (allR_at (q2.resolve_left (by omega)) h hh)
theorem okZX {T U h : Nat} (hT : T < 21) (hU : U < 37) (hh : h < 3) (h2 : 2 ≤ T) (u2 : 2 ≤ U) : okZ (12 * T + 6 * (T * U) - 4 * (T * h)) (4 * T + 2 * (T * U) - T * h) (2 * T + T * U) (fN 1 (2 * T + 3) (U + 2 - h)) (fD 1 (2 * T + 3) (U + 2 - h)) := by
  have q := (by decide +kernel : allR (fun T => decide (T < 2) || allR (fun U => decide (U < 2) || allR (fun h => okZb (12 * T + 6 * (T * U) - 4 * (T * h)) (4 * T + 2 * (T * U) - T * h) (2 * T + T * U) (fN 1 (2 * T + 3) (U + 2 - h)) (fD 1 (2 * T + 3) (U + 2 - h))) 3) 37) 21 = true)
  have q1 := allR_at q T hT
  simp only [Bool.or_eq_true, decide_eq_true_eq] at q1
  have q2 := allR_at (q1.resolve_left (by omega)) U hU
  simp only [Bool.or_eq_true, decide_eq_true_eq] at q2
  exact okZ_of (allR_at (q2.resolve_left (by omega)) h hh)
theorem okN {T : Nat} (hT : T < 21) (h2 : 2 ≤ T) : (1 + T) * fD 1 (2 * T) 0 ≤ 1 * fN 1 (2 * T) 0 := by
  have h := (by decide +kernel : allR (fun T => decide (T < 2) || Nat.ble ((1 + T) * fD 1 (2 * T) 0) (1 * fN 1 (2 * T) 0)) 21 = true)
  have h3 := allR_at h T hT
  simp only [Bool.or_eq_true, decide_eq_true_eq] at h3
  exact Nat.le_of_ble_eq_true (h3.resolve_left (by omega))
theorem okSM {T V : Nat} (hT : T < 21) (h1 : 1 ≤ T) (hV : V < 37) : (684 * (1 + T) + 180 * V) * fD 1 (2 * T) V ≤ 684 * fN 1 (2 * T) V := by
  have h := (by decide +kernel : allR (fun T => decide (T < 1) || allR (fun V => Nat.ble ((684 * (1 + T) + 180 * V) * fD 1 (2 * T) V) (684 * fN 1 (2 * T) V)) 37) 21 = true)
  have h3 := allR_at h T hT
  simp only [Bool.or_eq_true, decide_eq_true_eq] at h3
  exact Nat.le_of_ble_eq_true (allR_at (h3.resolve_left (by omega)) V hV)
theorem okZM {T V : Nat} (hT : T < 21) (h1 : 2 ≤ T) (hV : V < 37) : (282 + 120 * T + 90 * V) * 42 * fD 1 (2 * T) V ≤ 8550 * fN 1 (2 * T) V := by
  have h := (by decide +kernel : allR (fun T => decide (T < 2) || allR (fun V => Nat.ble ((282 + 120 * T + 90 * V) * 42 * fD 1 (2 * T) V) (8550 * fN 1 (2 * T) V)) 37) 21 = true)
  have h3 := allR_at h T hT
  simp only [Bool.or_eq_true, decide_eq_true_eq] at h3
  exact Nat.le_of_ble_eq_true (allR_at (h3.resolve_left (by omega)) V hV)
theorem okBern {V : Nat} (hV : V < 37) : (5000 + 537 * V) * fD 0 0 V ≤ 5000 * fN 0 0 V := by
  have h := (by decide +kernel : allR (fun V => Nat.ble ((5000 + 537 * V) * fD 0 0 V) (5000 * fN 0 0 V)) 37 = true)
  exact Nat.le_of_ble_eq_true (allR_at h V hV)
def bS0 (T V M : Nat) : Nat := 2 * max 4 (2 + 2 * T + V) + 3 * M
def bS1 (T V M : Nat) : Nat := 2 * max 4 (2 + 2 * T + 2 * V) + 3 * M
theorem okB0 {T V M : Nat} (hT : T < 21) (hV : V + M < 37) (hM : M = 0 ∨ 1 ≤ T) : (6 * bS0 T V M + 2 * V + 12) * 700 * fD 0 (2 * T) (V + M) ≤ 47880 * fN 0 (2 * T) (V + M) ∧ (bS0 T V M + 2 * V) * 700 * fD 0 (2 * T) (V + M) ≤ 11970 * fN 0 (2 * T) (V + M) := by
  have h := (by decide +kernel : allR (fun T => allR (fun V => allR (fun M => (decide (T < 1) && decide (1 ≤ M)) || (Nat.ble ((6 * bS0 T V M + 2 * V + 12) * 700 * fD 0 (2 * T) (V + M)) (47880 * fN 0 (2 * T) (V + M)) && Nat.ble ((bS0 T V M + 2 * V) * 700 * fD 0 (2 * T) (V + M)) (11970 * fN 0 (2 * T) (V + M)))) (37 - V)) 37) 21 = true)
  have h3 := allR_at (allR_at (allR_at h T hT) V (by omega)) M (by omega)
  simp only [Bool.or_eq_true, Bool.and_eq_true, decide_eq_true_eq] at h3
  rcases h3 with h3 | h3
  · omega
  · exact ⟨Nat.le_of_ble_eq_true h3.1, Nat.le_of_ble_eq_true h3.2⟩
theorem okB1 {T V M : Nat} (hT : T < 21) (hV : V + M < 37) (hM : M = 0 ∨ 1 ≤ T) : (6 * bS1 T V M + 12) * 700 * fD 0 (2 * T + 3) (V + M) ≤ 47880 * fN 0 (2 * T + 3) (V + M) ∧ (bS1 T V M) * 700 * fD 0 (2 * T + 3) (V + M) ≤ 11970 * fN 0 (2 * T + 3) (V + M) := by
  have h := (by decide +kernel : allR (fun T => allR (fun V => allR (fun M => (decide (T < 1) && decide (1 ≤ M)) || (Nat.ble ((6 * bS1 T V M + 12) * 700 * fD 0 (2 * T + 3) (V + M)) (47880 * fN 0 (2 * T + 3) (V + M)) && Nat.ble ((bS1 T V M) * 700 * fD 0 (2 * T + 3) (V + M)) (11970 * fN 0 (2 * T + 3) (V + M)))) (37 - V)) 37) 21 = true)
  have h3 := allR_at (allR_at (allR_at h T hT) V (by omega)) M (by omega)
  simp only [Bool.or_eq_true, Bool.and_eq_true, decide_eq_true_eq] at h3
  rcases h3 with h3 | h3
  · omega
  · exact ⟨Nat.le_of_ble_eq_true h3.1, Nat.le_of_ble_eq_true h3.2⟩
