/-! THE REFERENCE's TERMS: what they can be (solutions), and that they have an end (ranks) -/
def nd (a b : Nat) : Nat := 2 ^ a * (2 * b + 1) + 11
theorem nd_inj0 : ∀ (a a2 b b2 : Nat), 2 ^ a * (2 * b + 1) = 2 ^ a2 * (2 * b2 + 1) → a = a2 ∧ b = b2 := by
  intro a
  induction a with
  | zero =>
    intro a2 b b2 h
    cases a2 with
    | zero => simp at h; exact ⟨rfl, by omega⟩
    | succ k =>
      rw [Nat.pow_succ, Nat.mul_assoc, Nat.mul_left_comm] at h
      generalize 2 ^ k * (2 * b2 + 1) = m at h
      simp at h
      omega
  | succ k ih =>
    intro a2 b b2 h
    cases a2 with
    | zero =>
      rw [Nat.pow_succ, Nat.mul_assoc, Nat.mul_left_comm] at h
      generalize 2 ^ k * (2 * b + 1) = m at h
      simp at h
      omega
    | succ k2 =>
      rw [Nat.pow_succ, Nat.pow_succ, Nat.mul_right_comm, Nat.mul_right_comm (2 ^ k2)] at h
      have := ih k2 b b2 (Nat.eq_of_mul_eq_mul_right (by decide) h)
      exact ⟨by rw [this.1], this.2⟩
theorem nd_inj {a b a2 b2 : Nat} (h : nd a b = nd a2 b2) : a = a2 ∧ b = b2 := nd_inj0 a a2 b b2 (by unfold nd at h; omega)
theorem nd_gt1 (a b : Nat) : a < nd a b := by
  have h1 : a < 2 ^ a := Nat.lt_two_pow_self
  have h2 : 2 ^ a ≤ 2 ^ a * (2 * b + 1) := Nat.le_mul_of_pos_right _ (by omega)
  unfold nd
  omega
theorem nd_gt2 (a b : Nat) : b < nd a b := by
  have h1 : 0 < 2 ^ a := Nat.two_pow_pos a
  have h2 : 2 * b + 1 ≤ 2 ^ a * (2 * b + 1) := Nat.le_mul_of_pos_left _ h1
  unfold nd
  omega
theorem nd_big (a b : Nat) : 11 < nd a b := by
  have h1 : 0 < 2 ^ a * (2 * b + 1) := Nat.mul_pos (Nat.two_pow_pos a) (by omega)
  unfold nd
  omega
/-- the place of an open variable's binding, and its code -/
def opn (c : Nat) : Nat := c / 2 + 64 * (c % 2)
def vcd (i : Nat) : Nat := if i < 64 then 2 * i else 2 * (i - 64) + 1
theorem vcd_opn {c : Nat} (h : c / 2 < 64) : vcd (opn c) = c := by
  unfold vcd opn
  rcases Nat.mod_two_eq_zero_or_one c with h2 | h2 <;> rw [h2]
  · rw [if_pos (by omega)]; omega
  · rw [if_neg (by omega)]; omega
theorem opn_vcd {i : Nat} (h : i < 128) : opn (vcd i) = i ∧ vcd i / 2 < 64 := by
  unfold vcd opn
  by_cases h2 : i < 64
  · rw [if_pos h2]; omega
  · rw [if_neg h2]; omega
theorem opn_lt {c : Nat} (h : c / 2 < 64) : opn c < 128 := by unfold opn; omega
theorem nI_ne9 {c : Nat} (h : c < 2 ^ 31) : nI c ≠ -9 := by
  intro q
  have h1 := nI_pos h
  rw [q] at h1
  exact h1 (by decide)
theorem nI_inj {a b : Nat} (ha : a < 2 ^ 31) (hb : b < 2 ^ 31) (h : nI a = nI b) : a = b := (nI_eq ha hb).mp h
