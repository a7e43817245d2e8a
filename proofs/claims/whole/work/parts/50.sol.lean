/-! THE REFERENCE's TERMS: what they can be (solutions), and that they have an end (ranks) -/
def nd (a b : Nat) : Nat := 2 ^ a * (2 * b + 1) + 11
theorem nd_inj0 : ∀ (a a2 b b2 : Nat), 2 ^ a * (2 * b + 1) = 2 ^ a2 * (2 * b2 + 1) → a = a2 ∧ b = b2 := by
  intro a
  induction a with
  | zero =>
    intro a2 b b2 h
    cases a2 with
    | zero => simp at h; exact ⟨rfl, by omega⟩
    | succ k =>
      rw [Nat.pow_succ, Nat.mul_assoc, Nat.mul_left_comm] at h
      generalize 2 ^ k * (2 * b2 + 1) = m at h
      simp at h
      omega
  | succ k ih =>
    intro a2 b b2 h
    cases a2 with
    | zero =>
      rw [Nat.pow_succ, Nat.mul_assoc, Nat.mul_left_comm] at h
      generalize 2 ^ k * (2 * b + 1) = m at h
      simp at h
      omega
    | succ k2 =>
      rw [Nat.pow_succ, Nat.pow_succ, Nat.mul_right_comm, Nat.mul_right_comm (2 ^ k2)] at h
      have := ih k2 b b2 (Nat.eq_of_mul_eq_mul_right (by decide) h)
      exact ⟨by rw [this.1], this.2⟩
theorem nd_inj {a b a2 b2 : Nat} (h : nd a b = nd a2 b2) : a = a2 ∧ b = b2 := nd_inj0 a a2 b b2 (by unfold nd at h; omega)
theorem nd_gt1 (a b : Nat) : a < nd a b := by
  have h1 : a < 2 ^ a := Nat.lt_two_pow_self
  have h2 : 2 ^ a ≤ 2 ^ a * (2 * b + 1) := Nat.le_mul_of_pos_right _ (by omega)
  unfold nd
  omega
theorem nd_gt2 (a b : Nat) : b < nd a b := by
  have h1 : 0 < 2 ^ a := Nat.two_pow_pos a
  have h2 : 2 * b + 1 ≤ 2 ^ a * (2 * b + 1) := Nat.le_mul_of_pos_left _ h1
  unfold nd
  omega
theorem nd_big (a b : Nat) : 11 < nd a b := by
  have h1 : 0 < 2 ^ a * (2 * b + 1) := Nat.mul_pos (Nat.two_pow_pos a) (by omega)
  unfold nd
  omega
/-- the place of an open variable's binding, and its code -/
def opn (c : Nat) : Nat := c / 2 + 64 * (c % 2)
def vcd (i : Nat) : Nat := if i < 64 then 2 * i else 2 * (i - 64) + 1
theorem vcd_opn {c : Nat} (h : c / 2 < 64) : vcd (opn c) = c := by
  unfold vcd opn
  rcases Nat.mod_two_eq_zero_or_one c with h2 | h2 <;> rw [h2]
  · rw [if_pos (by omega)]; omega
  · rw [if_neg (by omega)]; omega
theorem opn_vcd {i : Nat} (h : i < 128) : opn (vcd i) = i ∧ vcd i / 2 < 64 := by
  unfold vcd opn
  by_cases h2 : i < 64
  · rw [if_pos h2]; omega
  · rw [if_neg h2]; omega
theorem opn_lt {c : Nat} (h : c / 2 < 64) : opn c < 128 := by unfold opn; omega
theorem nI_ne9 {c : Nat} (h : c < 2 ^ 31) : nI c ≠ -9 := by
  intro q
  have h1 := nI_pos h
  rw [q] at h1
  exact h1 (by decide)
theorem nI_inj {a b : Nat} (ha : a < 2 ^ 31) (hb : b < 2 ^ 31) (h : nI a = nI b) : a = b := (nI_eq ha hb).mp h
/-- the store of terms is well made: parts lie lower than pairs, what is bound lies lower than its variable -/
def mOK (sg : rSg) (T : Nat) (rk : Nat → Nat) : Prop := 75 ≤ T ∧ T ≤ 6000 ∧
  (∀ t, 75 ≤ t → t < T → ∃ a b, sg 727 t = nI a ∧ sg 728 t = nI b ∧ a < T ∧ b < T ∧ ∀ s, s < 2 → rk (2 * a + s) < rk (2 * t + s) ∧ rk (2 * b + s) < rk (2 * t + s)) ∧
  (∀ i, i < 128 → sg 736 i = -9 ∨ ∃ c, sg 736 i = nI c ∧ c < 2 * T ∧ rk c < rk (vcd i))
/-- a solution: what each term is -/
def mSol (sg : rSg) (T : Nat) (th : Nat → Nat) : Prop :=
  (∀ t a b s, 75 ≤ t → t < T → sg 727 t = nI a → sg 728 t = nI b → a < T → b < T → s < 2 → th (2 * t + s) = nd (th (2 * a + s)) (th (2 * b + s))) ∧
  (∀ i c, i < 128 → sg 736 i = nI c → c < 2 * T → th (vcd i) = th c) ∧ (∀ t s, 64 ≤ t → t < 75 → s < 2 → th (2 * t + s) = t - 64)
/-- nothing is bound at the outside -/
def mRes (sg : rSg) (c : Nat) : Prop := c / 2 < 64 → sg 736 (opn c) = -9
/-- a set of terms with all that is in them -/
def mCl (sg : rSg) (T : Nat) (S : Nat → Prop) : Prop := ∀ c, S c → (∀ c2, c / 2 < 64 → sg 736 (opn c) = nI c2 → c2 < 2 * T → S c2) ∧ (∀ a b, 75 ≤ c / 2 → c / 2 < T → sg 727 (c / 2) = nI a → sg 728 (c / 2) = nI b → a < T → b < T → S (2 * a + c % 2) ∧ S (2 * b + c % 2))
/-- two stores that agree in what terms are made of -/
theorem mSol_ext {sg s2 : rSg} {T : Nat} {th : Nat → Nat} (h1 : s2 727 = sg 727) (h2 : s2 728 = sg 728) (h3 : s2 736 = sg 736) : mSol s2 T th ↔ mSol sg T th := by
  unfold mSol
  rw [h1, h2, h3]
theorem mOK_ext {sg s2 : rSg} {T : Nat} {rk : Nat → Nat} (h1 : s2 727 = sg 727) (h2 : s2 728 = sg 728) (h3 : s2 736 = sg 736) : mOK s2 T rk ↔ mOK sg T rk := by
  unfold mOK
  rw [h1, h2, h3]
/-- v becomes t: the solutions are those in which they are the same -/
theorem mSol_bind {sg s2 : rSg} {T i c : Nat} {th : Nat → Nat} (h1 : s2 727 = sg 727) (h2 : s2 728 = sg 728) (h3 : s2 736 = upd (sg 736) i (nI c)) (hi : i < 128) (hc : c < 2 * T) (hT : T ≤ 6000) (ho : sg 736 i = -9) : mSol s2 T th ↔ mSol sg T th ∧ th (vcd i) = th c := by
  unfold mSol
  rw [h1, h2, h3]
  constructor
  · rintro ⟨a1, a2, a3⟩
    refine ⟨⟨a1, fun j e hj he hl => ?_, a3⟩, ?_⟩
    · by_cases hji : j = i
      · subst hji
        rw [ho] at he
        exact absurd he.symm (nI_ne9 (by omega))
      · exact a2 j e hj (by rw [show upd (sg 736) i (nI c) j = sg 736 j from if_neg hji]; exact he) hl
    · exact a2 i c hi (by rw [show upd (sg 736) i (nI c) i = nI c from if_pos rfl]) hc
  · rintro ⟨⟨a1, a2, a3⟩, a4⟩
    refine ⟨a1, fun j e hj he hl => ?_, a3⟩
    by_cases hji : j = i
    · subst hji
      rw [show upd (sg 736) j (nI c) j = nI c from if_pos rfl] at he
      have := nI_inj (by omega) (by omega) he
      rw [← this]
      exact a4
    · rw [show upd (sg 736) i (nI c) j = sg 736 j from if_neg hji] at he
      exact a2 j e hj he hl
/-- .. and the store stays well made, if v isn't in t -/
theorem mOK_bind {sg s2 : rSg} {T i c : Nat} {rk : Nat → Nat} (h1 : s2 727 = sg 727) (h2 : s2 728 = sg 728) (h3 : s2 736 = upd (sg 736) i (nI c)) (hi : i < 128) (hc : c < 2 * T) (hok : mOK sg T rk) {S : Nat → Prop} (hcl : mCl sg T S) (hS : S c) (hv : ¬ S (vcd i)) : ∃ rk2, mOK s2 T rk2 := by
  obtain ⟨hT1, hT2, hp, hb⟩ := hok
  -- x reaches v: every closed set with x has v
  obtain ⟨Rc, hRd⟩ : ∃ Rc : Nat → Prop, ∀ x, Rc x ↔ ∀ Z : Nat → Prop, mCl sg T Z → Z x → Z (vcd i) := ⟨_, fun _ => Iff.rfl⟩
  have hRc : ¬ Rc c := fun q => hv ((hRd c).mp q S hcl hS)
  have hRv : Rc (vcd i) := (hRd _).mpr (fun Z _ h => h)
  classical
  refine ⟨fun x => if Rc x then rk x + rk c + 1 else rk x, hT1, hT2, fun t ht ht2 => ?_, fun j hj => ?_⟩
  · obtain ⟨a, b, ha, hb2, haT, hbT, hr⟩ := hp t ht ht2
    refine ⟨a, b, by rw [h1]; exact ha, by rw [h2]; exact hb2, haT, hbT, fun s hs => ?_⟩
    have e1 : (2 * t + s) / 2 = t := by omega
    have e2 : (2 * t + s) % 2 = s := by omega
    have up : ∀ Z : Nat → Prop, mCl sg T Z → Z (2 * t + s) → Z (2 * a + s) ∧ Z (2 * b + s) := fun Z hZ hz => by
      have := (hZ _ hz).2 a b (by rw [e1]; exact ht) (by rw [e1]; exact ht2) (by rw [e1]; exact ha) (by rw [e1]; exact hb2) haT hbT
      rwa [e2] at this
    have ra : Rc (2 * a + s) → Rc (2 * t + s) := fun q => (hRd _).mpr (fun Z hZ hz => (hRd _).mp q Z hZ (up Z hZ hz).1)
    have rb : Rc (2 * b + s) → Rc (2 * t + s) := fun q => (hRd _).mpr (fun Z hZ hz => (hRd _).mp q Z hZ (up Z hZ hz).2)
    have := hr s hs
    constructor
    · by_cases q : Rc (2 * a + s)
      · simp only [if_pos q, if_pos (ra q)]; omega
      · by_cases q2 : Rc (2 * t + s)
        · simp only [if_neg q, if_pos q2]; omega
        · simp only [if_neg q, if_neg q2]; omega
    · by_cases q : Rc (2 * b + s)
      · simp only [if_pos q, if_pos (rb q)]; omega
      · by_cases q2 : Rc (2 * t + s)
        · simp only [if_neg q, if_pos q2]; omega
        · simp only [if_neg q, if_neg q2]; omega
  · rw [h3]
    by_cases hji : j = i
    · subst hji
      refine Or.inr ⟨c, if_pos rfl, hc, ?_⟩
      simp only [if_neg hRc, if_pos hRv]
      omega
    · rw [show upd (sg 736) i (nI c) j = sg 736 j from if_neg hji]
      rcases hb j hj with h | ⟨e, he, heT, her⟩
      · exact Or.inl h
      · refine Or.inr ⟨e, he, heT, ?_⟩
        have re : Rc e → Rc (vcd j) := fun q => (hRd _).mpr (fun Z hZ hz => (hRd _).mp q Z hZ ((hZ _ hz).1 e (opn_vcd hj).2 (by rw [(opn_vcd hj).1]; exact he) heT))
        by_cases q : Rc e
        · simp only [if_pos q, if_pos (re q)]; omega
        · by_cases q2 : Rc (vcd j)
          · simp only [if_neg q, if_pos q2]; omega
          · simp only [if_neg q, if_neg q2]; omega
