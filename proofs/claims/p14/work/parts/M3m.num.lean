/-! THE NUMBERS: a bound that grows by letters told, unfolds and names -/
def fN (m s v : Nat) : Nat := 42 ^ m * 289 ^ s * 5537 ^ v
def fD (m s v : Nat) : Nat := 25 ^ m * 250 ^ s * 5000 ^ v
def pot (t u n : Nat) : Nat := 95 * (42 ^ n * 25 ^ (6 - n)) * (289 ^ t * 250 ^ (40 - t)) * (5537 ^ u * 5000 ^ (36 - u))
def potS : Nat := 56 * 25 ^ 6 * 250 ^ 40 * 5000 ^ 36
theorem pow_step {a b m n k : Nat} (h : n + m ≤ k) : a ^ n * b ^ (k - n) * a ^ m = a ^ (n + m) * b ^ (k - (n + m)) * b ^ m := by
  have e : k - n = (k - (n + m)) + m := by omega
  rw [e, Nat.pow_add, Nat.pow_add]
  generalize b ^ (k - (n + m)) = c1
  simp only [Nat.mul_assoc, Nat.mul_left_comm, Nat.mul_comm]
theorem pot_step {t u n s v m : Nat} (h1 : t + s ≤ 40) (h2 : u + v ≤ 36) (h3 : n + m ≤ 6) : pot t u n * fN m s v = pot (t + s) (u + v) (n + m) * fD m s v := by
  unfold pot fN fD
  have e1 := pow_step (a := 42) (b := 25) h3
  have e2 := pow_step (a := 289) (b := 250) h1
  have e3 := pow_step (a := 5537) (b := 5000) h2
  have gen : ∀ c a1 a2 a3 b1 b2 b3 : Nat, c * a1 * a2 * a3 * (b1 * b2 * b3) = c * (a1 * b1) * (a2 * b2) * (a3 * b3) := fun c a1 a2 a3 b1 b2 b3 => by
    simp only [Nat.mul_assoc, Nat.mul_left_comm, Nat.mul_comm]
  rw [gen, gen, e1, e2, e3]
theorem fD_pos (m s v : Nat) : 0 < fD m s v := by
  unfold fD
  exact Nat.mul_pos (Nat.mul_pos (Nat.pow_pos (by decide)) (Nat.pow_pos (by decide))) (Nat.pow_pos (by decide))
theorem pot_gain {t u n s v m a b : Nat} (h1 : t + s ≤ 40) (h2 : u + v ≤ 36) (h3 : n + m ≤ 6) (h : a * fD m s v ≤ b * fN m s v) : a * pot t u n ≤ b * pot (t + s) (u + v) (n + m) := by
  have e := pot_step (t := t) (u := u) (n := n) h1 h2 h3
  refine Nat.le_of_mul_le_mul_right ?_ (fD_pos m s v)
  calc a * pot t u n * fD m s v = a * fD m s v * pot t u n := Nat.mul_right_comm _ _ _
    _ ≤ b * fN m s v * pot t u n := Nat.mul_le_mul_right _ h
    _ = b * (pot t u n * fN m s v) := by rw [Nat.mul_assoc, Nat.mul_comm (fN m s v)]
    _ = b * pot (t + s) (u + v) (n + m) * fD m s v := by rw [e, Nat.mul_assoc]
theorem fDN (m s v : Nat) : fD m s v ≤ fN m s v := by
  unfold fN fD
  exact Nat.mul_le_mul (Nat.mul_le_mul (Nat.pow_le_pow_left (by decide) _) (Nat.pow_le_pow_left (by decide) _)) (Nat.pow_le_pow_left (by decide) _)
theorem pot_mono {t u n t2 u2 n2 : Nat} (h1 : t ≤ t2) (h2 : u ≤ u2) (h3 : n ≤ n2) (b1 : t2 ≤ 40) (b2 : u2 ≤ 36) (b3 : n2 ≤ 6) : pot t u n ≤ pot t2 u2 n2 := by
  have := pot_gain (t := t) (u := u) (n := n) (s := t2 - t) (v := u2 - u) (m := n2 - n) (a := 1) (b := 1) (by omega) (by omega) (by omega) (by rw [Nat.one_mul, Nat.one_mul]; exact fDN _ _ _)
  rw [Nat.one_mul, Nat.one_mul, show t + (t2 - t) = t2 by omega, show u + (u2 - u) = u2 by omega, show n + (n2 - n) = n2 by omega] at this
  exact this
theorem pot_end : pot 40 36 6 ≤ 500000 * potS := by decide +kernel
/-- flat: with what is still to come (w); rough: list and names apart -/
def nFl (x w p : Nat) : Prop := 6 * x + w ≤ 12 * p ∧ w ≤ x
def nRo (x b p : Nat) : Prop := x + 4 * b ≤ 6 * p ∧ 1562500 * (x + 2 * b) ≤ 7015764 * p ∧ 25 * x ≤ 84 * p
def nSt (x w b p : Nat) : Prop := nFl x w p ∨ (w = 0 ∧ nRo x b p)
/-- a level where nothing lies over itself -/
theorem num_N {x w b p q T : Nat} (h2 : 2 * b ≤ x) (hb : b ≤ p) (hs : nSt x w b p) (g0 : T = 0 → 42 * p ≤ 25 * q) (g1 : T = 1 → 3507882 * p ≤ 1562500 * q) (g2 : 2 ≤ T → (1 + T) * p ≤ q) : nFl (x + 2 * T * b) w q := by
  unfold nSt nFl nRo at hs
  unfold nFl
  match T, g0, g1, g2 with
  | 0, g0, _, _ =>
    have := g0 rfl
    rcases hs with h | ⟨e, h⟩ <;> constructor <;> omega
  | 1, _, g1, _ =>
    have := g1 rfl
    rcases hs with h | ⟨e, h⟩ <;> constructor <;> omega
  | T + 2, _, _, g2 =>
    have g := g2 (by omega)
    rw [Nat.add_mul, Nat.add_mul] at g
    have e1 : 2 * (T + 2) * b = 2 * (T * b) + 4 * b := by rw [Nat.mul_assoc, Nat.add_mul]; omega
    have e2 : T * b ≤ T * p := Nat.mul_le_mul_left _ hb
    have e3 : T * (2 * b) ≤ T * x := Nat.mul_le_mul_left _ h2
    rw [Nat.mul_left_comm] at e3
    rw [e1]
    rcases hs with h | ⟨e, h⟩ <;> constructor <;> omega
/-- a level where something lies over itself: what the numbers must be -/
def okF (h g e N D : Nat) : Prop :=
  (60 ≤ h → (12 + h) * D ≤ 12 * N) ∧ (h < 60 → (24 + h) * D ≤ 14 * N) ∧ (24 ≤ h → (12 + h) * D ≤ 12 * N) ∧ (h < 24 → (504 + 25 * h) * D ≤ 300 * N) ∧
  (20 < g → 1562500 * (4 + g) * D ≤ 7015764 * N) ∧ (g ≤ 20 → 4687500 * (8 + g) * D ≤ 24555174 * N) ∧ (8 ≤ g → 1562500 * (4 + g) * D ≤ 7015764 * N) ∧ (g < 8 → 1562500 * (168 + 25 * g) * D ≤ 175394100 * N) ∧
  (10 < e → 25 * (2 + e) * D ≤ 84 * N) ∧ (e ≤ 10 → 25 * (4 + e) * D ≤ 98 * N) ∧ (4 ≤ e → 25 * (2 + e) * D ≤ 84 * N) ∧ (e < 4 → (84 + 25 * e) * D ≤ 84 * N)
/-- two parts, weighed: flat states -/
theorem num_fl {x w p q h c : Nat} (hs : nFl x w p) (c1 : 5 * c < h → (c + h) * p ≤ 6 * q) (c2 : h ≤ 5 * c → (2 * c + h) * p ≤ 7 * q) : (c + h) * x + c * w ≤ 12 * q := by
  obtain ⟨h1, h2⟩ := hs
  by_cases hc : 5 * c < h
  · have g := c1 hc
    -- (c + h) * (6 x + w) ≤ (c + h) * 12 p
    have e1 : (c + h) * (6 * x + w) ≤ (c + h) * (12 * p) := Nat.mul_le_mul_left _ h1
    have e2 : 6 * c * w ≤ (c + h) * w := Nat.mul_le_mul_right _ (by omega)
    rw [Nat.mul_add, Nat.mul_left_comm (c + h) 6, Nat.mul_left_comm (c + h) 12] at e1
    rw [Nat.mul_assoc] at e2
    omega
  · have g := c2 (by omega)
    -- a = 2 c + h: a (6 x + w) + (7 c - a) w .. with w ≤ x
    obtain ⟨r, hr⟩ := Nat.le.dest (show h ≤ 5 * c by omega)
    have e1 : (2 * c + h) * (6 * x + w) ≤ (2 * c + h) * (12 * p) := Nat.mul_le_mul_left _ h1
    have e2 : r * w ≤ r * x := Nat.mul_le_mul_left _ h2
    rw [Nat.mul_add, Nat.mul_left_comm (2 * c + h) 6, Nat.mul_left_comm (2 * c + h) 12] at e1
    have f1 : 5 * (c * x) = h * x + r * x := by rw [← Nat.mul_assoc, ← hr, Nat.add_mul]
    have f2 : 5 * (c * w) = h * w + r * w := by rw [← Nat.mul_assoc, ← hr, Nat.add_mul]
    have q : ∀ z, (2 * c + h) * z = 2 * (c * z) + h * z := fun z => by rw [Nat.add_mul, Nat.mul_assoc]
    rw [q, q, q] at e1
    rw [q] at g
    rw [Nat.add_mul]
    omega
/-- such a level: x2 is the next list, y twice the next names -/
theorem num_R {x w b p q h2 g e N D S : Nat} (k2 : 2 * b ≤ x) (hb : b ≤ p) (hs : nSt x w b p) (hok : okF h2 g e N D) (hg : ∀ a c, a * D ≤ c * N → a * p ≤ c * q) {x2 y o d E2 G2 : Nat} (ho : o = 0 ∨ nFl x w p) (hd : 2 * d ≤ 2 * w + o * x)
    (hx : x2 ≤ x + d + G2 * b) (hy : y ≤ x + d + E2 * b) (b1 : 2 * G2 + 4 * E2 + 6 * o ≤ h2) (b2 : G2 + E2 + 2 * o ≤ g) (b3 : G2 + o ≤ e) (hw : w = 0 ∨ nFl x w p) : x2 + 2 * y ≤ 6 * q ∧ 1562500 * (x2 + y) ≤ 7015764 * q ∧ 25 * x2 ≤ 84 * q := by
  obtain ⟨n1, n2, n3, n4, n5, n6, n7, n8, n9, n10, n11, n12⟩ := hok
  by_cases hf : nFl x w p
  · -- flat
    have eG : G2 * (2 * b) ≤ G2 * x := Nat.mul_le_mul_left _ k2
    have eE : E2 * (2 * b) ≤ E2 * x := Nat.mul_le_mul_left _ k2
    rw [Nat.mul_left_comm] at eG eE
    have m1 : (2 * G2 + 4 * E2 + 6 * o) * x ≤ h2 * x := Nat.mul_le_mul_right _ b1
    have m2 : (G2 + E2 + 2 * o) * x ≤ g * x := Nat.mul_le_mul_right _ b2
    have m3 : (G2 + o) * x ≤ e * x := Nat.mul_le_mul_right _ b3
    rw [Nat.add_mul, Nat.add_mul, Nat.mul_assoc, Nat.mul_assoc, Nat.mul_assoc] at m1
    rw [Nat.add_mul, Nat.add_mul, Nat.mul_assoc] at m2
    rw [Nat.add_mul] at m3
    have sc : ∀ K, nFl (K * x) (K * w) (K * p) := fun K => by
      refine ⟨?_, Nat.mul_le_mul_left _ hf.2⟩
      have := Nat.mul_le_mul_left K hf.1
      rw [Nat.mul_add, Nat.mul_left_comm K 6, Nat.mul_left_comm K 12] at this
      exact this
    have r1 := num_fl (q := 2 * q) (h := h2) (c := 12) hf (fun z => by
      have := hg _ _ (n1 (by omega))
      omega) (fun z => by
      by_cases z2 : h2 = 60
      · have := hg _ _ (n1 (by omega))
        rw [z2] at this ⊢
        omega
      · have := hg _ _ (n2 (by omega))
        show (24 + h2) * p ≤ _
        omega)
    have r2 := num_fl (q := 1169294 * q) (h := g) (c := 4) (sc 1562500) (fun z => by
      have := hg _ _ (n5 (by omega))
      rw [← Nat.mul_assoc, Nat.mul_comm (4 + g)]
      omega) (fun z => by
      have := hg _ _ (n6 (by omega))
      rw [← Nat.mul_assoc, Nat.mul_comm (2 * 4 + g)]
      rw [show 4687500 * (8 + g) = 3 * (1562500 * (8 + g)) by omega, Nat.mul_assoc] at this
      show 1562500 * (8 + g) * p ≤ _
      omega)
    have r3 := num_fl (q := 14 * q) (h := e) (c := 2) (sc 25) (fun z => by
      have := hg _ _ (n9 (by omega))
      rw [← Nat.mul_assoc, Nat.mul_comm (2 + e)]
      omega) (fun z => by
      have := hg _ _ (n10 (by omega))
      rw [← Nat.mul_assoc, Nat.mul_comm (2 * 2 + e)]
      show 25 * (4 + e) * p ≤ _
      omega)
    rw [Nat.add_mul] at r1 r2 r3
    rw [Nat.mul_left_comm g] at r2
    rw [Nat.mul_left_comm e] at r3
    refine ⟨by omega, by omega, by omega⟩
  · -- rough
    have hw0 : w = 0 := hw.resolve_right hf
    have ho0 : o = 0 := ho.resolve_right hf
    obtain ⟨q1, q2, q3⟩ := (hs.resolve_left hf).2
    subst hw0 ho0
    rw [Nat.zero_mul] at hd
    have hd0 : d = 0 := by omega
    subst hd0
    have m1 : (2 * G2 + 4 * E2 + 6 * 0) * b ≤ h2 * b := Nat.mul_le_mul_right _ b1
    have m2 : (G2 + E2 + 2 * 0) * b ≤ g * b := Nat.mul_le_mul_right _ b2
    have m3 : (G2 + 0) * b ≤ e * b := Nat.mul_le_mul_right _ b3
    rw [Nat.add_mul, Nat.add_mul, Nat.mul_assoc, Nat.mul_assoc] at m1
    rw [Nat.add_mul, Nat.add_mul] at m2
    rw [Nat.add_zero] at m3
    refine ⟨?_, ?_, ?_⟩
    · -- 2 (x2 + 2 y) ≤ 6 x + h2 b
      by_cases z : 24 ≤ h2
      · have g1 := hg _ _ (n3 z)
        obtain ⟨r, hr⟩ := Nat.le.dest z
        have e1 : h2 * b = 24 * b + r * b := by rw [← hr, Nat.add_mul]
        have e2 : r * b ≤ r * p := Nat.mul_le_mul_left _ hb
        have e3 : (12 + h2) * p = 36 * p + r * p := by rw [← hr, ← Nat.add_mul]; congr 1; omega
        omega
      · have g1 := hg _ _ (n4 (by omega))
        have e2 : h2 * b ≤ h2 * p := Nat.mul_le_mul_left _ hb
        rw [Nat.add_mul, Nat.mul_assoc] at g1
        omega
    · by_cases z : 8 ≤ g
      · have g1 := hg _ _ (n7 z)
        obtain ⟨r, hr⟩ := Nat.le.dest z
        have e1 : g * b = 8 * b + r * b := by rw [← hr, Nat.add_mul]
        have e2 : r * b ≤ r * p := Nat.mul_le_mul_left _ hb
        have e3 : (4 + g) * p = 12 * p + r * p := by rw [← hr, ← Nat.add_mul]; congr 1; omega
        rw [Nat.mul_assoc, e3] at g1
        omega
      · have g1 := hg _ _ (n8 (by omega))
        have e2 : g * b ≤ g * p := Nat.mul_le_mul_left _ hb
        rw [Nat.mul_assoc, Nat.add_mul, Nat.mul_assoc 25] at g1
        omega
    · by_cases z : 4 ≤ e
      · have g1 := hg _ _ (n11 z)
        obtain ⟨r, hr⟩ := Nat.le.dest z
        have e1 : e * b = 4 * b + r * b := by rw [← hr, Nat.add_mul]
        have e2 : r * b ≤ r * p := Nat.mul_le_mul_left _ hb
        have e3 : (2 + e) * p = 6 * p + r * p := by rw [← hr, ← Nat.add_mul]; congr 1; omega
        rw [Nat.mul_assoc, e3] at g1
        omega
      · have g1 := hg _ _ (n12 (by omega))
        have e2 : e * b ≤ e * p := Nat.mul_le_mul_left _ hb
        rw [Nat.add_mul, Nat.mul_assoc] at g1
        omega
