/-! Integer.bitCount, exactly -/
theorem and_split (w q r m k : Nat) (hr : r < 2 ^ w) (hk : k < 2 ^ w) : (2 ^ w * q + r) &&& (2 ^ w * m + k) = 2 ^ w * (q &&& m) + (r &&& k) := by
  have hrk : r &&& k < 2 ^ w := Nat.lt_of_le_of_lt Nat.and_le_left hr
  apply Nat.eq_of_testBit_eq
  intro j
  rw [Nat.testBit_and, Nat.testBit_two_pow_mul_add _ hr, Nat.testBit_two_pow_mul_add _ hk, Nat.testBit_two_pow_mul_add _ hrk]
  by_cases h : j < w
  · simp [h]
  · simp [h]
def b1 (n : Nat) : Nat := n - ((n / 2) &&& 0x55)
def b2 (n : Nat) : Nat := (n &&& 0x33) + ((n / 4) &&& 0x33)
def b3 (n : Nat) : Nat := (n + n / 16) &&& 0x0f
def pop8 (n : Nat) : Nat := b3 (b2 (b1 n))
set_option maxRecDepth 100000 in
theorem b1_ok : ∀ r, r < 256 → (r / 2 &&& 0x55) ≤ r ∧ b1 r < 256 ∧ (128 + r / 2) &&& 0x55 = (r / 2) &&& 0x55 := by decide
set_option maxRecDepth 100000 in
theorem b2_ok : ∀ r, r < 256 → b2 r ≤ 0x66 ∧ ∀ b, b < 4 → (64 * b + r / 4) &&& 0x33 = (r / 4) &&& 0x33 := by decide
set_option maxRecDepth 100000 in
theorem b12_ok : ∀ r, r < 256 → b2 (b1 r) % 16 ≤ 4 ∧ b2 (b1 r) ≤ 0x44 ∧ pop8 r ≤ 8 := by decide
set_option maxRecDepth 100000 in
theorem b3_ok : ∀ r, r < 0x45 → ∀ b, b < 5 → (16 * b + r + r / 16) &&& 0x0f = b3 r := by decide
set_option maxRecDepth 100000 in
theorem pop8_bits : ∀ r, r < 256 → pop8 r = (((((((r % 2 + r / 2 % 2) + r / 4 % 2) + r / 8 % 2) + r / 16 % 2) + r / 32 % 2) + r / 64 % 2) + r / 128 % 2) := by decide
theorem b1_step {q r m : Nat} (hr : r < 256) : (256 * q + r) - (((256 * q + r) / 2) &&& (256 * m + 0x55)) = 256 * (q - ((q / 2) &&& m)) + b1 r := by
  obtain ⟨k1, k2, k3⟩ := b1_ok r hr
  have e : (256 * q + r) / 2 = 2 ^ 8 * (q / 2) + (128 * (q % 2) + r / 2) := by omega
  have e2 : 256 * m + 0x55 = 2 ^ 8 * m + 0x55 := rfl
  rw [e, e2, and_split 8 _ _ _ _ (by omega) (by decide)]
  have e3 : (128 * (q % 2) + r / 2) &&& 0x55 = r / 2 &&& 0x55 := by
    have : q % 2 = 0 ∨ q % 2 = 1 := by omega
    rcases this with h | h
    · rw [h]; simp
    · rw [h]; exact k3
  rw [e3]
  have h4 : (q / 2) &&& m ≤ q := Nat.le_trans Nat.and_le_left (Nat.div_le_self _ _)
  unfold b1
  have e8 : (2 : Nat) ^ 8 = 256 := rfl
  rw [e8]
  omega
theorem b2_step {q r m : Nat} (hr : r < 256) : ((256 * q + r) &&& (256 * m + 0x33)) + (((256 * q + r) / 4) &&& (256 * m + 0x33)) = 256 * ((q &&& m) + ((q / 4) &&& m)) + b2 r := by
  obtain ⟨k1, k2⟩ := b2_ok r hr
  have e8 : (2 : Nat) ^ 8 = 256 := rfl
  have e : (256 * q + r) / 4 = 2 ^ 8 * (q / 4) + (64 * (q % 4) + r / 4) := by omega
  have e2 : 256 * m + 0x33 = 2 ^ 8 * m + 0x33 := rfl
  have e1 : 256 * q + r = 2 ^ 8 * q + r := rfl
  rw [e, e2, e1, and_split 8 _ _ _ _ (by omega) (by decide), and_split 8 _ _ _ _ (by omega) (by decide), k2 (q % 4) (by omega)]
  unfold b2
  rw [e8]
  omega
theorem b3_step {q r m : Nat} (hr : r ≤ 0x44) (hq : q % 16 ≤ 4) : ((256 * q + r) + (256 * q + r) / 16) &&& (256 * m + 0x0f) = 256 * ((q + q / 16) &&& m) + b3 r := by
  have e8 : (2 : Nat) ^ 8 = 256 := rfl
  have e : (256 * q + r) + (256 * q + r) / 16 = 2 ^ 8 * (q + q / 16) + (16 * (q % 16) + r + r / 16) := by omega
  have e2 : 256 * m + 0x0f = 2 ^ 8 * m + 0x0f := rfl
  rw [e, e2, and_split 8 _ _ _ _ (by omega) (by decide), b3_ok r (by omega) (q % 16) (by omega), e8]
/-- the sum of the four bytes' counts -/
theorem swar {b0 b1' b2' b3' : Nat} (h0 : b0 < 256) (h1 : b1' < 256) (h2 : b2' < 256) (h3 : b3' < 256) : ∃ x1 x2 x3, x1 = (256 * (256 * (256 * b3' + b2') + b1') + b0) - (((256 * (256 * (256 * b3' + b2') + b1') + b0) / 2) &&& 0x55555555) ∧ x2 = (x1 &&& 0x33333333) + ((x1 / 4) &&& 0x33333333) ∧ x3 = (x2 + x2 / 16) &&& 0x0f0f0f0f ∧ ((256 * (256 * (256 * b3' + b2') + b1') + b0) / 2) &&& 0x55555555 ≤ 256 * (256 * (256 * b3' + b2') + b1') + b0 ∧ x2 ≤ 0x44444444 ∧ x3 = 256 * (256 * (256 * pop8 b3' + pop8 b2') + pop8 b1') + pop8 b0 := by
  refine ⟨_, _, _, rfl, rfl, rfl, Nat.le_trans Nat.and_le_left (Nat.div_le_self _ _), ?_⟩
  have m1 : 0x55555555 = 256 * (256 * (256 * 0x55 + 0x55) + 0x55) + 0x55 := rfl
  have m2 : 0x33333333 = 256 * (256 * (256 * 0x33 + 0x33) + 0x33) + 0x33 := rfl
  have m3 : 0x0f0f0f0f = 256 * (256 * (256 * 0x0f + 0x0f) + 0x0f) + 0x0f := rfl
  rw [m1, m2, m3, b1_step h0, b1_step h1, b1_step h2]
  have z : b3' - (b3' / 2 &&& 85) = b1 b3' := rfl
  rw [z]
  rw [b2_step (b1_ok b0 h0).2.1, b2_step (b1_ok b1' h1).2.1, b2_step (b1_ok b2' h2).2.1]
  have z2 : (b1 b3' &&& 51) + (b1 b3' / 4 &&& 51) = b2 (b1 b3') := rfl
  rw [z2]
  obtain ⟨p0, r0, _⟩ := b12_ok b0 h0
  obtain ⟨p1, r1, _⟩ := b12_ok b1' h1
  obtain ⟨p2, r2, _⟩ := b12_ok b2' h2
  obtain ⟨p3, r3, _⟩ := b12_ok b3' h3
  refine ⟨by omega, ?_⟩
  rw [b3_step r0 (by omega), b3_step r1 (by omega), b3_step r2 (by omega)]
  rfl
theorem swar_end {p0 p1 p2 p3 : Nat} (h0 : p0 ≤ 8) (h1 : p1 ≤ 8) (h2 : p2 ≤ 8) (h3 : p3 ≤ 8) {x3 x4 x5 : Nat} (e3 : x3 = 256 * (256 * (256 * p3 + p2) + p1) + p0) (e4 : x4 = x3 + x3 / 256) (e5 : x5 = x4 + x4 / 65536) : x5 &&& 63 = p0 + p1 + p2 + p3 ∧ x4 < 2 ^ 31 ∧ x5 < 2 ^ 31 := by
  have a : x5 &&& 63 = x5 % 64 := Nat.and_two_pow_sub_one_eq_mod x5 6
  have q1 : x3 / 256 = 256 * (256 * p3 + p2) + p1 := by omega
  have q2 : x4 = 256 * (256 * (256 * p3 + (p2 + p3)) + (p1 + p2)) + (p0 + p1) := by omega
  have q3 : x4 / 65536 = 256 * p3 + (p2 + p3) := by omega
  have q4 : x5 = 256 * (256 * (256 * p3 + (p2 + p3)) + (p1 + p2 + p3)) + (p0 + p1 + p2 + p3) := by omega
  refine ⟨by rw [a]; omega, by omega, by omega⟩
/-! Int32 as numbers from 0 on -/
def uN (x : Int32) : Nat := x.toBitVec.toNat
theorem uN_lt (x : Int32) : uN x < 2 ^ 32 := x.toBitVec.isLt
theorem uN_and (x y : Int32) : uN (x &&& y) = uN x &&& uN y := by
  unfold uN
  rw [Int32.toBitVec_and, BitVec.toNat_and]
theorem uN_add {x y : Int32} (h : uN x + uN y < 2 ^ 32) : uN (x + y) = uN x + uN y := by
  unfold uN at h ⊢
  rw [Int32.toBitVec_add, BitVec.toNat_add, Nat.mod_eq_of_lt h]
theorem uN_sub {x y : Int32} (h : uN y ≤ uN x) : uN (x - y) = uN x - uN y := by
  unfold uN at h ⊢
  rw [Int32.toBitVec_sub, BitVec.toNat_sub_of_le (by exact h)]
theorem uN_ush (x : Int32) {k : Nat} (hk : k < 32) : uN (iush x (nI k)) = uN x / 2 ^ k := by
  unfold uN
  apply Nat.eq_of_testBit_eq
  intro j
  have := ush_bit x (g := j) hk
  rw [Nat.testBit_div_two_pow]
  simp only [BitVec.getLsbD] at this
  rw [this, Nat.add_comm]
theorem uN_ush2 (x y : Int32) {k : Nat} (e : y = nI k) (hk : k < 32) : uN (iush x y) = uN x / 2 ^ k := by rw [e]; exact uN_ush x hk
theorem uN_inj {x y : Int32} (h : uN x = uN y) : x = y := Int32.toBitVec_inj.mp (BitVec.eq_of_toNat_eq h)
theorem uN_nI {k : Nat} (h : k < 2 ^ 32) : uN (nI k) = k := by
  unfold uN
  show (BitVec.ofNat 32 k).toNat = k
  rw [BitVec.toNat_ofNat, Nat.mod_eq_of_lt h]
def sB (f : Nat → Nat) : Nat → Nat
  | 0 => 0
  | n + 1 => sB f n + f n
theorem sB_congr {f g : Nat → Nat} : ∀ {n : Nat}, (∀ j, j < n → f j = g j) → sB f n = sB g n
  | 0, _ => rfl
  | n + 1, h => by simp only [sB, sB_congr (n := n) (fun j hj => h j (by omega)), h n (by omega)]
theorem sB_len : ∀ (n : Nat) (ks : List Nat), ks.Nodup → (∀ g ∈ ks, g < n) → sB (fun g => if g ∈ ks then 1 else 0) n = ks.length
  | 0, ks, _, h => by
    cases ks with
    | nil => rfl
    | cons a l => have := h a List.mem_cons_self; omega
  | n + 1, ks, hn, h => by
    by_cases e : n ∈ ks
    · have ih := sB_len n (ks.erase n) (hn.erase n) (fun g hg => by
        have h1 := h g (List.mem_of_mem_erase hg)
        have h2 : g ≠ n := fun q => by rw [q] at hg; exact (hn.mem_erase_iff.mp hg).1 rfl
        omega)
      have c : sB (fun g => if g ∈ ks then 1 else 0) n = sB (fun g => if g ∈ ks.erase n then 1 else 0) n := sB_congr (fun j hj => by
        have : j ∈ ks.erase n ↔ j ∈ ks := ⟨fun q => List.mem_of_mem_erase q, fun q => hn.mem_erase_iff.mpr ⟨by omega, q⟩⟩
        simp only [this])
      have l := List.length_erase_of_mem e
      have l2 : 0 < ks.length := List.length_pos_of_mem e
      simp only [sB, c, ih, if_pos e]
      omega
    · have ih := sB_len n ks hn (fun g hg => by
        have h1 := h g hg
        have h2 : g ≠ n := fun q => e (q ▸ hg)
        omega)
      simp only [sB, ih, if_neg e]
      rfl
theorem byt (n a j : Nat) (h : j < 8) : (n / 2 ^ a % 256) / 2 ^ j % 2 = n / 2 ^ (a + j) % 2 := by
  rw [← Nat.toNat_testBit, ← Nat.toNat_testBit, show (256 : Nat) = 2 ^ 8 from rfl, Nat.testBit_mod_two_pow, Nat.testBit_div_two_pow]
  simp [h, Nat.add_comm]
theorem byt0 (n j : Nat) (h : j < 8) : (n % 256) / 2 ^ j % 2 = n / 2 ^ j % 2 := by
  have := byt n 0 j h
  rwa [Nat.pow_zero, Nat.div_one, Nat.zero_add] at this
theorem pops (n : Nat) : pop8 (n % 256) + pop8 (n / 256 % 256) + pop8 (n / 65536 % 256) + pop8 (n / 16777216 % 256) = sB (fun g => n / 2 ^ g % 2) 32 := by
  rw [pop8_bits _ (Nat.mod_lt _ (by decide)), pop8_bits _ (Nat.mod_lt _ (by decide)), pop8_bits _ (Nat.mod_lt _ (by decide)), pop8_bits _ (Nat.mod_lt _ (by decide))]
  have e0 : (n % 256) % 2 = n / 2 ^ 0 % 2 := by simp
  have e1 : (n % 256) / 2 % 2 = n / 2 ^ 1 % 2 := byt0 n 1 (by decide)
  have e2 : (n % 256) / 4 % 2 = n / 2 ^ 2 % 2 := byt0 n 2 (by decide)
  have e3 : (n % 256) / 8 % 2 = n / 2 ^ 3 % 2 := byt0 n 3 (by decide)
  have e4 : (n % 256) / 16 % 2 = n / 2 ^ 4 % 2 := byt0 n 4 (by decide)
  have e5 : (n % 256) / 32 % 2 = n / 2 ^ 5 % 2 := byt0 n 5 (by decide)
  have e6 : (n % 256) / 64 % 2 = n / 2 ^ 6 % 2 := byt0 n 6 (by decide)
  have e7 : (n % 256) / 128 % 2 = n / 2 ^ 7 % 2 := byt0 n 7 (by decide)
  have e8 : (n / 256 % 256) % 2 = n / 2 ^ 8 % 2 := by
    have := byt n 8 0 (by decide)
    rwa [Nat.pow_zero, Nat.div_one] at this
  have e9 : (n / 256 % 256) / 2 % 2 = n / 2 ^ 9 % 2 := byt n 8 1 (by decide)
  have e10 : (n / 256 % 256) / 4 % 2 = n / 2 ^ 10 % 2 := byt n 8 2 (by decide)
  have e11 : (n / 256 % 256) / 8 % 2 = n / 2 ^ 11 % 2 := byt n 8 3 (by decide)
  have e12 : (n / 256 % 256) / 16 % 2 = n / 2 ^ 12 % 2 := byt n 8 4 (by decide)
  have e13 : (n / 256 % 256) / 32 % 2 = n / 2 ^ 13 % 2 := byt n 8 5 (by decide)
  have e14 : (n / 256 % 256) / 64 % 2 = n / 2 ^ 14 % 2 := byt n 8 6 (by decide)
  have e15 : (n / 256 % 256) / 128 % 2 = n / 2 ^ 15 % 2 := byt n 8 7 (by decide)
  have e16 : (n / 65536 % 256) % 2 = n / 2 ^ 16 % 2 := by
    have := byt n 16 0 (by decide)
    rwa [Nat.pow_zero, Nat.div_one] at this
  have e17 : (n / 65536 % 256) / 2 % 2 = n / 2 ^ 17 % 2 := byt n 16 1 (by decide)
  have e18 : (n / 65536 % 256) / 4 % 2 = n / 2 ^ 18 % 2 := byt n 16 2 (by decide)
  have e19 : (n / 65536 % 256) / 8 % 2 = n / 2 ^ 19 % 2 := byt n 16 3 (by decide)
  have e20 : (n / 65536 % 256) / 16 % 2 = n / 2 ^ 20 % 2 := byt n 16 4 (by decide)
  have e21 : (n / 65536 % 256) / 32 % 2 = n / 2 ^ 21 % 2 := byt n 16 5 (by decide)
  have e22 : (n / 65536 % 256) / 64 % 2 = n / 2 ^ 22 % 2 := byt n 16 6 (by decide)
  have e23 : (n / 65536 % 256) / 128 % 2 = n / 2 ^ 23 % 2 := byt n 16 7 (by decide)
  have e24 : (n / 16777216 % 256) % 2 = n / 2 ^ 24 % 2 := by
    have := byt n 24 0 (by decide)
    rwa [Nat.pow_zero, Nat.div_one] at this
  have e25 : (n / 16777216 % 256) / 2 % 2 = n / 2 ^ 25 % 2 := byt n 24 1 (by decide)
  have e26 : (n / 16777216 % 256) / 4 % 2 = n / 2 ^ 26 % 2 := byt n 24 2 (by decide)
  have e27 : (n / 16777216 % 256) / 8 % 2 = n / 2 ^ 27 % 2 := byt n 24 3 (by decide)
  have e28 : (n / 16777216 % 256) / 16 % 2 = n / 2 ^ 28 % 2 := byt n 24 4 (by decide)
  have e29 : (n / 16777216 % 256) / 32 % 2 = n / 2 ^ 29 % 2 := byt n 24 5 (by decide)
  have e30 : (n / 16777216 % 256) / 64 % 2 = n / 2 ^ 30 % 2 := byt n 24 6 (by decide)
  have e31 : (n / 16777216 % 256) / 128 % 2 = n / 2 ^ 31 % 2 := byt n 24 7 (by decide)
  rw [e0, e1, e2, e3, e4, e5, e6, e7, e8, e9, e10, e11, e12, e13, e14, e15, e16, e17, e18, e19, e20, e21, e22, e23, e24, e25, e26, e27, e28, e29, e30, e31]
  simp only [sB, Nat.zero_add, Nat.add_assoc]
/-- Integer.bitCount -/
theorem cx_208 {x : Int32} {ks : List Nat} (h : kbt x ks) (s : rSg) {P : Option rv → rSg → Prop} (hP : P (some (.inl (nI ks.length))) s) : EvS rSkel 1 208 [.inl x] s P := by
  refine w_208 s x ?_
  generalize e1 : x - ((iush x 1) &&& 1431655765) = y1
  generalize e2 : (y1 &&& 858993459) + ((iush y1 2) &&& 858993459) = y2
  generalize e3 : (y2 + iush y2 4) &&& 252645135 = y3
  generalize e4 : y3 + iush y3 8 = y4
  generalize e5 : y4 + iush y4 16 = y5
  have hl := uN_lt x
  obtain ⟨x1, x2, x3, f1, f2, f3, f4, f5, f6⟩ := swar (b0 := uN x % 256) (b1' := uN x / 256 % 256) (b2' := uN x / 65536 % 256) (b3' := uN x / 16777216 % 256) (Nat.mod_lt _ (by decide)) (Nat.mod_lt _ (by decide)) (Nat.mod_lt _ (by decide)) (Nat.mod_lt _ (by decide))
  have en : 256 * (256 * (256 * (uN x / 16777216 % 256) + uN x / 65536 % 256) + uN x / 256 % 256) + uN x % 256 = uN x := by omega
  rw [en] at f1 f4
  have l1 : uN (iush x 1) = uN x / 2 := uN_ush2 x 1 (k := 1) rfl (by decide)
  have u1 : uN y1 = x1 := by
    rw [← e1, f1, uN_sub (by rw [uN_and, l1]; exact f4), uN_and, l1]; rfl
  have l2 : uN (iush y1 2) = uN y1 / 4 := uN_ush2 y1 2 (k := 2) rfl (by decide)
  have c2 : uN (858993459 : Int32) = 858993459 := rfl
  have u2 : uN y2 = x2 := by
    rw [← e2, f2, uN_add (by rw [uN_and, uN_and, l2, c2, u1, ← f2]; omega), uN_and, uN_and, l2, u1]; rfl
  have l4 : uN (iush y2 4) = uN y2 / 16 := uN_ush2 y2 4 (k := 4) rfl (by decide)
  have u3 : uN y3 = x3 := by
    rw [← e3, f3, uN_and, uN_add (by rw [l4, u2]; omega), l4, u2]; rfl
  have b := fun r hr => (b12_ok r hr).2.2
  obtain ⟨g1, g2, g3⟩ := swar_end (b _ (Nat.mod_lt (uN x) (by decide))) (b _ (Nat.mod_lt (uN x / 256) (by decide))) (b _ (Nat.mod_lt (uN x / 65536) (by decide))) (b _ (Nat.mod_lt (uN x / 16777216) (by decide))) f6 rfl rfl
  have l8 : uN (iush y3 8) = uN y3 / 256 := uN_ush2 y3 8 (k := 8) rfl (by decide)
  have u4 : uN y4 = x3 + x3 / 256 := by
    rw [← e4, uN_add (by rw [l8, u3]; omega), l8, u3]
  have l16 : uN (iush y4 16) = uN y4 / 65536 := uN_ush2 y4 16 (k := 16) rfl (by decide)
  have u5 : uN y5 = (x3 + x3 / 256) + (x3 + x3 / 256) / 65536 := by
    rw [← e5, uN_add (by rw [l16, u4]; omega), l16, u4]
  have u6 : uN (y5 &&& 63) = ks.length := by
    rw [uN_and, u5]
    show _ &&& 63 = _
    rw [g1, pops, ← sB_len 32 ks h.2.1 h.2.2]
    refine sB_congr (fun j hj => ?_)
    have hb := h.1 j hj
    have hb2 : (uN x).testBit j = decide (j ∈ ks) := hb
    rw [Nat.testBit_eq_decide_div_mod_eq] at hb2
    by_cases m : j ∈ ks
    · rw [if_pos m]
      simp [m] at hb2
      exact hb2
    · rw [if_neg m]
      simp [m] at hb2
      omega
  have hk : ks.length < 2 ^ 32 := by
    rw [← u6]; exact uN_lt _
  have : y5 &&& 63 = nI ks.length := uN_inj (by rw [u6, uN_nI hk])
  rw [this]
  exact hP
