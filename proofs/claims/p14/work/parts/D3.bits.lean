/-! KEPT ones as bits -/
def kbt (x : Int32) (ks : List Nat) : Prop := (∀ g, g < 32 → x.toBitVec.getLsbD g = decide (g ∈ ks)) ∧ ks.Nodup ∧ ∀ g ∈ ks, g < 32
theorem i32_ext {x y : Int32} (h : ∀ g, g < 32 → x.toBitVec.getLsbD g = y.toBitVec.getLsbD g) : x = y := by
  apply Int32.toBitVec_inj.mp
  exact BitVec.eq_of_getLsbD_eq (fun i hi => h i hi)
theorem kbt_zero {x : Int32} {ks : List Nat} (h : kbt x ks) : x = 0 ↔ ks = [] := by
  constructor
  · intro e
    cases ks with
    | nil => rfl
    | cons g gs =>
      have h1 := h.1 g (h.2.2 g List.mem_cons_self)
      rw [e] at h1
      simp at h1
  · intro e
    refine i32_ext (fun g hg => ?_)
    rw [h.1 g hg, e]
    simp
theorem nI_31 {y : Nat} (h : y < 32) : nI y &&& 31 = nI y := by
  have : ∀ y, y < 32 → nI y &&& 31 = nI y := by decide
  exact this y h
theorem sh_bit {y g : Nat} (hy : y < 32) (hg : g < 32) : ((1 : Int32) <<< (nI y &&& 31)).toBitVec.getLsbD g = decide (g = y) := by
  have : ∀ y, y < 32 → ∀ g, g < 32 → ((1 : Int32) <<< (nI y &&& 31)).toBitVec.getLsbD g = decide (g = y) := by decide
  exact this y hy g hg
theorem m1_bit {g : Nat} (hg : g < 32) : (-1 : Int32).toBitVec.getLsbD g = true := by
  have : ∀ g, g < 32 → (-1 : Int32).toBitVec.getLsbD g = true := by decide
  exact this g hg
theorem iush_sh {y : Nat} (h : y < 32) : (nI y).toUInt32 &&& Int32.toUInt32 31 = UInt32.ofNat y := by
  have : ∀ y, y < 32 → (nI y).toUInt32 &&& Int32.toUInt32 31 = UInt32.ofNat y := by decide
  exact this y h
theorem ush_bit (x : Int32) {y g : Nat} (hy : y < 32) : (iush x (nI y)).toBitVec.getLsbD g = x.toBitVec.getLsbD (y + g) := by
  show (x.toUInt32 >>> ((nI y).toUInt32 &&& Int32.toUInt32 31)).toInt32.toBitVec.getLsbD g = _
  rw [iush_sh hy]
  show ((x.toUInt32 >>> UInt32.ofNat y).toBitVec).getLsbD g = _
  rw [UInt32.toBitVec_shiftRight]
  have e : (UInt32.ofNat y).toBitVec % 32 = BitVec.ofNat 32 y := by
    have : ∀ y, y < 32 → (UInt32.ofNat y).toBitVec % 32 = BitVec.ofNat 32 y := by decide
    exact this y hy
  rw [e]
  show (x.toBitVec >>> (BitVec.ofNat 32 y).toNat).getLsbD g = _
  rw [BitVec.getLsbD_ushiftRight]
  congr 1
  rw [BitVec.toNat_ofNat, Nat.mod_eq_of_lt (by omega)]
theorem one_bit {g : Nat} (hg : g < 32) : (1 : Int32).toBitVec.getLsbD g = decide (g = 0) := by
  have : ∀ g, g < 32 → (1 : Int32).toBitVec.getLsbD g = decide (g = 0) := by decide
  exact this g hg
theorem kbt_test {x : Int32} {ks : List Nat} (h : kbt x ks) {y : Nat} (hy : y < 32) : (iush x (nI y) &&& 1) = 0 ↔ y ∉ ks := by
  have hb : ∀ g, g < 32 → (iush x (nI y) &&& 1).toBitVec.getLsbD g = (x.toBitVec.getLsbD (y + g) && decide (g = 0)) := fun g hg => by
    rw [Int32.toBitVec_and, BitVec.getLsbD_and, ush_bit x hy, one_bit hg]
  constructor
  · intro e hm
    have h1 := hb 0 (by decide)
    rw [e] at h1
    rw [Nat.add_zero, h.1 y hy] at h1
    simp [hm] at h1
  · intro hm
    refine i32_ext (fun g hg => ?_)
    rw [hb g hg]
    by_cases g0 : g = 0
    · subst g0
      rw [Nat.add_zero, h.1 y hy]
      simp [hm]
    · simp [g0]
theorem kbt_set {x : Int32} {ks : List Nat} (h : kbt x ks) {y : Nat} (hy : y < 32) (hn : y ∉ ks) : kbt (x ||| ((1 : Int32) <<< (nI y &&& 31))) (y :: ks) := by
  refine ⟨fun g hg => ?_, List.nodup_cons.mpr ⟨hn, h.2.1⟩, fun g hg => ?_⟩
  · rw [Int32.toBitVec_or, BitVec.getLsbD_or, h.1 g hg, sh_bit hy hg]
    by_cases e : g = y <;> simp [e]
  · rcases List.mem_cons.mp hg with rfl | hg
    · exact hy
    · exact h.2.2 g hg
theorem kbt_clr {x : Int32} {ks : List Nat} (h : kbt x ks) {y : Nat} (hy : y < 32) : kbt (x &&& (((1 : Int32) <<< (nI y &&& 31)) ^^^ (-1))) (ks.filter (fun g => decide (g ≠ y))) := by
  refine ⟨fun g hg => ?_, h.2.1.filter _, fun g hg => h.2.2 g (List.mem_filter.mp hg).1⟩
  rw [Int32.toBitVec_and, BitVec.getLsbD_and, Int32.toBitVec_xor, BitVec.getLsbD_xor, h.1 g hg, sh_bit hy hg, m1_bit hg]
  by_cases e : g = y <;> simp [e]
theorem kbt_0 : kbt 0 [] := ⟨fun g hg => by simp, List.nodup_nil, fun g hg => by cases hg⟩
theorem kbt_mem {x : Int32} {a b : List Nat} (h : kbt x a) (hn : b.Nodup) (hm : ∀ g, g ∈ b ↔ g ∈ a) : kbt x b := ⟨fun g hg => by rw [h.1 g hg]; simp [hm g], hn, fun g hg => h.2.2 g ((hm g).mp hg)⟩
