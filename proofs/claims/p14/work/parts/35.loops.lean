/-! copies and fills, place by place -/
theorem upC_self (sg : rSg) (k : Nat) : upC sg k (sg k) = sg := by
  funext q
  by_cases h : q = k
  · subst h; exact upC_same sg q _
  · exact upC_ne sg _ h
theorem upC_up2 (sg : rSg) (k j : Nat) (x : Int32) (f : Nat → Int32) : upC (up2 sg k j x) k f = upC sg k f := by
  funext q
  by_cases h : q = k
  · subst h; rw [upC_same, upC_same]
  · rw [upC_ne _ _ h, upC_ne _ _ h, up2_nk _ _ _ h]
theorem cpy_zero (sg : rSg) (a b i j : Nat) : upC sg b (va_cpy (sg a) (sg b) i j 0) = sg := by
  have : va_cpy (sg a) (sg b) i j 0 = sg b := by
    funext q
    unfold va_cpy
    rw [if_neg (by omega)]
  rw [this, upC_self]
theorem cpy_step (sg : rSg) {a b : Nat} (hab : a ≠ b) (i j n : Nat) : upC (up2 sg b j (sg a i)) b (va_cpy (up2 sg b j (sg a i) a) (up2 sg b j (sg a i) b) (i + 1) (j + 1) n) = upC sg b (va_cpy (sg a) (sg b) i j (n + 1)) := by
  rw [upC_up2, up2_nk _ _ _ hab]
  congr 1
  funext q
  unfold va_cpy
  by_cases h : q = j
  · subst h
    rw [if_neg (by omega), if_pos (by omega), up2_same, Nat.sub_self, Nat.add_zero]
  · rw [up2_nj _ _ _ h]
    by_cases h2 : j + 1 ≤ q ∧ q < j + 1 + n
    · rw [if_pos h2, if_pos (by omega), show i + 1 + (q - (j + 1)) = i + (q - j) by omega]
    · rw [if_neg h2, if_neg (by omega)]
/-- places i .. i + n - 1 hold x -/
def fillF (f : Nat → Int32) (i n : Nat) (x : Int32) : Nat → Int32 := fun q => if i ≤ q ∧ q < i + n then x else f q
theorem fill_zero (sg : rSg) (b i : Nat) (x : Int32) : upC sg b (fillF (sg b) i 0 x) = sg := by
  have : fillF (sg b) i 0 x = sg b := by
    funext q
    unfold fillF
    rw [if_neg (by omega)]
  rw [this, upC_self]
theorem fill_step (sg : rSg) (b i n : Nat) (x : Int32) : upC (up2 sg b i x) b (fillF (up2 sg b i x b) (i + 1) n x) = upC sg b (fillF (sg b) i (n + 1) x) := by
  rw [upC_up2]
  congr 1
  funext q
  unfold fillF
  by_cases h : q = i
  · subst h
    rw [if_neg (by omega), if_pos (by omega), up2_same]
  · rw [up2_nj _ _ _ h]
    by_cases h2 : i + 1 ≤ q ∧ q < i + 1 + n
    · rw [if_pos h2, if_pos (by omega)]
    · rw [if_neg h2, if_neg (by omega)]
theorem nI_rem {a d : Nat} (ha : a < 2 ^ 31) (h0 : 0 < d) (hd : d < 2 ^ 31) : nI a - nI a / nI d * nI d = nI (a % d) := pk_rem ha h0 hd
