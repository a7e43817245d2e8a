/-! THE NUMBERS: the start, the first level above no names, what 'M' adds -/
theorem pot_bern {t u n V : Nat} (ht : t ≤ 40) (hu : u + V ≤ 36) (hn : n ≤ 6) : (5000 + 537 * V) * pot t u n ≤ 5000 * pot t (u + V) n := by
  have := pot_gain (t := t) (u := u) (n := n) (s := 0) (v := V) (m := 0) (by omega) (by omega) (by omega) (okBern (by omega : V < 37))
  exact this
theorem pot_00 : 95 * potS = 56 * pot 0 0 0 := by decide +kernel
theorem pot_low {t u n : Nat} (ht : t ≤ 40) (hu : u ≤ 36) (hn : n ≤ 6) (h1 : 1 ≤ n) : 57 * potS ≤ 20 * pot t u n := by
  have h2 : 57 * potS ≤ 20 * pot 0 0 1 := by decide +kernel
  have := pot_mono (t := 0) (u := 0) (n := 1) (t2 := t) (u2 := u) (n2 := n) (by omega) (by omega) h1 ht hu hn
  omega
theorem pot_sev1 {t u n : Nat} (h3 : 3 ≤ t) (ht : t ≤ 40) (hu : u ≤ 36) (hn : n ≤ 6) (h1 : 2 ≤ n) : 7 * potS ≤ pot t u n := by
  have h2 : 7 * potS ≤ pot 3 0 2 := by decide +kernel
  have := pot_mono (t := 3) (u := 0) (n := 2) (t2 := t) (u2 := u) (n2 := n) h3 (by omega) h1 ht hu hn
  omega
theorem pot_sev2 {t u n : Nat} (h3 : 7 ≤ t) (ht : t ≤ 40) (hu : u ≤ 36) (hn : n ≤ 6) (h1 : 1 ≤ n) : 7 * potS ≤ pot t u n := by
  have h2 : 7 * potS ≤ pot 7 0 1 := by decide +kernel
  have := pot_mono (t := 7) (u := 0) (n := 1) (t2 := t) (u2 := u) (n2 := n) h3 (by omega) h1 ht hu hn
  omega
theorem num_M1 {x y m q q2 S V : Nat} (h7 : 7 * S ≤ q) (hb : (5000 + 537 * V) * q ≤ 5000 * q2) (hm : 2 * m ≤ 3 * (V * S)) (h : x + 2 * y ≤ 6 * q ∧ 1562500 * (x + y) ≤ 7015764 * q ∧ 25 * x ≤ 84 * q) : (x + m) + 2 * (y + m) ≤ 6 * q2 ∧ 1562500 * ((x + m) + (y + m)) ≤ 7015764 * q2 ∧ 25 * (x + m) ≤ 84 * q2 := by
  have e1 : V * (7 * S) ≤ V * q := Nat.mul_le_mul_left _ h7
  rw [Nat.mul_left_comm] at e1
  rw [Nat.add_mul, Nat.mul_assoc] at hb
  obtain ⟨h1, h2, h3⟩ := h
  refine ⟨by omega, by omega, by omega⟩
theorem num_M2 {x w m q q2 S V : Nat} (h7 : 7 * S ≤ q) (hb : (5000 + 537 * V) * q ≤ 5000 * q2) (hm : 2 * m ≤ 3 * (V * S)) (h : nFl x w q) : nFl (x + m) w q2 := by
  have e1 : V * (7 * S) ≤ V * q := Nat.mul_le_mul_left _ h7
  rw [Nat.mul_left_comm] at e1
  rw [Nat.add_mul, Nat.mul_assoc] at hb
  obtain ⟨h1, h2⟩ := h
  exact ⟨by omega, by omega⟩
theorem num_M3 {x w b m p q S V T : Nat} (k2 : b ≤ p) (hs : nFl x w p) (hS : 57 * S ≤ 20 * p) (hg : (684 * (1 + T) + 180 * V) * p ≤ 684 * q) (hm : 2 * m ≤ 3 * (V * S)) : nFl (x + 2 * T * b + m) w q := by
  obtain ⟨h1, h2⟩ := hs
  have e1 : T * b ≤ T * p := Nat.mul_le_mul_left _ k2
  have e2 : V * (57 * S) ≤ V * (20 * p) := Nat.mul_le_mul_left _ hS
  rw [Nat.mul_left_comm, Nat.mul_left_comm V 20] at e2
  rw [Nat.add_mul, Nat.mul_assoc, Nat.mul_assoc, Nat.add_mul] at hg
  rw [Nat.mul_assoc]
  exact ⟨by omega, by omega⟩
theorem num_ZN {x w p q S : Nat} (h : 25 * (6 * x + w + 6 * S) ≤ 504 * p) (hw : w ≤ x) (g : 42 * p ≤ 25 * q) : nFl x w q := ⟨by omega, hw⟩
theorem num_ZM {x w m p q S V T : Nat} (h : 25 * (6 * x + w + 6 * S) ≤ 504 * p) (hw : w ≤ x) (h2 : 2 ≤ T) (hS : 1425 * S ≤ 840 * p) (hg : (282 + 120 * T + 90 * V) * 42 * p ≤ 8550 * q) (hm : 2 * m ≤ 3 * (V * S)) : nFl (x + 2 * T * S + m) w q := by
  obtain ⟨r, rfl⟩ := Nat.le.dest h2
  have e1 : r * (1425 * S) ≤ r * (840 * p) := Nat.mul_le_mul_left _ hS
  have e2 : V * (1425 * S) ≤ V * (840 * p) := Nat.mul_le_mul_left _ hS
  rw [Nat.mul_left_comm, Nat.mul_left_comm r 840] at e1
  rw [Nat.mul_left_comm, Nat.mul_left_comm V 840] at e2
  have e3 : (282 + 120 * (2 + r) + 90 * V) * 42 * p = 42 * (522 * p + 120 * (r * p) + 90 * (V * p)) := by
    rw [Nat.mul_comm _ 42, Nat.mul_assoc, Nat.add_mul, Nat.add_mul, Nat.mul_assoc, Nat.mul_assoc, Nat.add_mul]
    omega
  rw [e3] at hg
  have e4 : 2 * (2 + r) * S = 4 * S + 2 * (r * S) := by
    rw [Nat.mul_assoc, Nat.add_mul]
    omega
  rw [e4]
  exact ⟨by omega, by omega⟩
theorem num_ZR {x w p q S h2 g e N D : Nat} (hB : 25 * (x + w) ≤ 126 * p) (hS : 1425 * S ≤ 840 * p) (hok : okZ h2 g e N D) (hg : ∀ a c, a * D ≤ c * N → a * p ≤ c * q) {x2 y d E2 G2 : Nat} (hd : 2 * d ≤ 2 * w) (hx : x2 ≤ x + d + G2 * S) (hy : y ≤ x + d + E2 * S)
    (b1 : 2 * G2 + 4 * E2 ≤ h2) (b2 : G2 + E2 ≤ g) (b3 : G2 ≤ e) : x2 + 2 * y ≤ 6 * q ∧ 1562500 * (x2 + y) ≤ 7015764 * q ∧ 25 * x2 ≤ 84 * q := by
  obtain ⟨n1, n2, n3⟩ := hok
  have g1 := hg _ _ n1
  have g2 := hg _ _ n2
  have g3 := hg _ _ n3
  have m1 : (2 * G2 + 4 * E2) * S ≤ h2 * S := Nat.mul_le_mul_right _ b1
  have m2 : (G2 + E2) * S ≤ g * S := Nat.mul_le_mul_right _ b2
  have m3 : G2 * S ≤ e * S := Nat.mul_le_mul_right _ b3
  rw [Nat.add_mul, Nat.mul_assoc, Nat.mul_assoc] at m1
  rw [Nat.add_mul] at m2
  have s1 : h2 * (1425 * S) ≤ h2 * (840 * p) := Nat.mul_le_mul_left _ hS
  have s2 : g * (1425 * S) ≤ g * (840 * p) := Nat.mul_le_mul_left _ hS
  have s3 : e * (1425 * S) ≤ e * (840 * p) := Nat.mul_le_mul_left _ hS
  rw [Nat.mul_left_comm, Nat.mul_left_comm h2 840] at s1
  rw [Nat.mul_left_comm, Nat.mul_left_comm g 840] at s2
  rw [Nat.mul_left_comm, Nat.mul_left_comm e 840] at s3
  have f1 : (513 + 10 * h2) * 42 * p = 42 * (513 * p + 10 * (h2 * p)) := by
    rw [Nat.mul_comm _ 42, Nat.mul_assoc, Nat.add_mul, Nat.mul_assoc]
  have f2 : (1710 + 100 * g) * 42 * 1562500 * p = 1562500 * (42 * (1710 * p + 100 * (g * p))) := by
    rw [Nat.mul_comm _ 1562500, Nat.mul_assoc, Nat.mul_comm _ 42, Nat.mul_assoc, Nat.add_mul, Nat.mul_assoc 100]
  have f3 : (855 + 100 * e) * 42 * p = 42 * (855 * p + 100 * (e * p)) := by
    rw [Nat.mul_comm _ 42, Nat.mul_assoc, Nat.add_mul, Nat.mul_assoc]
  rw [f1] at g1
  rw [f2] at g2
  rw [f3] at g3
  refine ⟨by omega, by omega, by omega⟩
/-- the start -/
theorem num_B {T V M ow a m S : Nat} (hT : T < 21) (hV : V + M < 37) (hM : M = 0 ∨ 1 ≤ T) (ho : ow ≤ 1) (ht : 2 * T + 3 * ow ≤ 40) (hS : S = potS) (ha : a = max 4 (2 + 2 * T + V + ow * V)) (hm : 2 * m ≤ 3 * (M * S)) :
    25 * (6 * (a * S + m) + (V - ow * V) * S + 6 * S) ≤ 504 * pot (2 * T + 3 * ow) (V + M) 0 ∧ 25 * ((a * S + m) + (V - ow * V) * S) ≤ 126 * pot (2 * T + 3 * ow) (V + M) 0 ∧ (V - ow * V) * S ≤ a * S + m ∧ 4 * S ≤ a * S + m := by
  have p0 := pot_00
  rw [← hS] at p0
  have ha4 : 4 * S ≤ a * S := Nat.mul_le_mul_right _ (by omega)
  have haV : (V - ow * V) * S ≤ a * S := Nat.mul_le_mul_right _ (by omega)
  have fin : ∀ (B W p : Nat), B * S = 2 * (a * S) + 3 * (M * S) → W = V - ow * V → (6 * B + 2 * W + 12) * 700 * pot 0 0 0 ≤ 47880 * p → (B + 2 * W) * 700 * pot 0 0 0 ≤ 11970 * p → 25 * (6 * (a * S + m) + (V - ow * V) * S + 6 * S) ≤ 504 * p ∧ 25 * ((a * S + m) + (V - ow * V) * S) ≤ 126 * p := by
    intro B W p hB hW g1 g2
    rw [← hW]
    have c1 : (6 * B + 2 * W + 12) * (95 * S) = (6 * B + 2 * W + 12) * (56 * pot 0 0 0) := by rw [p0]
    have c2 : (B + 2 * W) * (95 * S) = (B + 2 * W) * (56 * pot 0 0 0) := by rw [p0]
    rw [Nat.mul_left_comm _ 95, Nat.mul_left_comm _ 56] at c1 c2
    rw [Nat.mul_right_comm] at g1 g2
    have e1 : (6 * B + 2 * W + 12) * S = 6 * (B * S) + 2 * (W * S) + 12 * S := by
      rw [Nat.add_mul, Nat.add_mul, Nat.mul_assoc, Nat.mul_assoc]
    have e2 : (B + 2 * W) * S = B * S + 2 * (W * S) := by rw [Nat.add_mul, Nat.mul_assoc]
    rw [e1] at c1
    rw [e2] at c2
    rw [hB] at c1 c2
    refine ⟨by omega, by omega⟩
  match ow, ho with
  | 0, _ =>
    obtain ⟨h1, h2⟩ := okB0 hT hV hM
    have g1 := pot_gain (t := 0) (u := 0) (n := 0) (s := 2 * T) (v := V + M) (m := 0) (by omega) (by omega) (by omega) h1
    have g2 := pot_gain (t := 0) (u := 0) (n := 0) (s := 2 * T) (v := V + M) (m := 0) (by omega) (by omega) (by omega) h2
    rw [Nat.zero_add, Nat.zero_add] at g1 g2
    have hB : bS0 T V M * S = 2 * (a * S) + 3 * (M * S) := by
      unfold bS0
      rw [ha, Nat.zero_mul, Nat.add_zero, Nat.add_mul, Nat.mul_assoc, Nat.mul_assoc]
    obtain ⟨q1, q2⟩ := fin _ V _ hB (by omega) g1 g2
    exact ⟨q1, q2, by omega, by omega⟩
  | 1, _ =>
    obtain ⟨h1, h2⟩ := okB1 hT hV hM
    have g1 := pot_gain (t := 0) (u := 0) (n := 0) (s := 2 * T + 3) (v := V + M) (m := 0) (by omega) (by omega) (by omega) h1
    have g2 := pot_gain (t := 0) (u := 0) (n := 0) (s := 2 * T + 3) (v := V + M) (m := 0) (by omega) (by omega) (by omega) h2
    rw [Nat.zero_add, Nat.zero_add] at g1 g2
    have hB : bS1 T V M * S = 2 * (a * S) + 3 * (M * S) := by
      unfold bS1
      rw [ha, Nat.one_mul, show 2 + 2 * T + V + V = 2 + 2 * T + 2 * V by omega, Nat.add_mul, Nat.mul_assoc, Nat.mul_assoc]
    obtain ⟨q1, q2⟩ := fin _ 0 _ hB (by omega) (by
      rw [Nat.mul_zero, Nat.add_zero]
      exact g1) (by
      rw [Nat.mul_zero, Nat.add_zero]
      exact g2)
    exact ⟨q1, q2, by omega, by omega⟩
