/-! RANK: vectors with steps, in the span of n vectors, are at most n -/
def lc : Nat → (Nat → Int) → (Nat → Nat → Int) → Nat → Int
  | 0, _, _, _ => 0
  | n + 1, u, c, j => lc n u c j + u n * c n j
theorem lc_sub (n : Nat) (x y : Int) (u v : Nat → Int) (c : Nat → Nat → Int) (j : Nat) : lc n (fun t => x * u t - y * v t) c j = x * lc n u c j - y * lc n v c j := by
  induction n with
  | zero => simp [lc]
  | succ n ih =>
    simp only [lc]
    rw [ih, Int.sub_mul, Int.mul_add, Int.mul_add, Int.mul_assoc, Int.mul_assoc]
    omega
def spI (c : Nat → Nat → Int) (n : Nat) (b : Nat → Int) : Prop := ∃ u, ∀ j, b j = lc n u c j
/-- the steps rise -/
def triV (c : Nat → Nat → Int) (n : Nat) : List (Nat × (Nat → Int)) → Prop
  | [] => True
  | q :: r => spI c n q.2 ∧ q.2 q.1 ≠ 0 ∧ (∀ j, q.1 < j → q.2 j = 0) ∧ (∀ p ∈ r, q.1 < p.1) ∧ triV c n r
theorem triV_elim {c : Nat → Nat → Int} {n s : Nat} {b u : Nat → Int} (hb : ∀ j, b j = lc (n + 1) u c j) (hu : u n ≠ 0) (hz : ∀ j, s < j → b j = 0) : ∀ {l : List (Nat × (Nat → Int))}, triV c (n + 1) l → (∀ p ∈ l, s < p.1) → ∃ l2, triV c n l2 ∧ l2.length = l.length ∧ ∀ p ∈ l2, ∃ q ∈ l, q.1 = p.1
  | [], _, _ => ⟨[], trivial, rfl, fun p hp => by cases hp⟩
  | q :: r, ⟨⟨v, hv⟩, h1, h2, h3, h4⟩, hs => by
    obtain ⟨l2, g1, g2, g3⟩ := triV_elim hb hu hz h4 (fun p hp => hs p (List.mem_cons_of_mem _ hp))
    have hq := hs q List.mem_cons_self
    refine ⟨(q.1, fun j => u n * q.2 j - v n * b j) :: l2, ⟨⟨fun t => u n * v t - v n * u t, fun j => ?_⟩, ?_, fun j hj => ?_, fun p hp => ?_, g1⟩, by simp only [List.length_cons, g2], fun p hp => ?_⟩
    · show u n * q.2 j - v n * b j = _
      rw [hv j, hb j, lc_sub]
      simp only [lc]
      rw [Int.mul_add, Int.mul_add, ← Int.mul_assoc, ← Int.mul_assoc, Int.mul_comm (v n) (u n)]
      omega
    · show u n * q.2 q.1 - v n * b q.1 ≠ 0
      rw [hz q.1 hq, Int.mul_zero, Int.sub_zero]
      exact Int.mul_ne_zero hu h1
    · show u n * q.2 j - v n * b j = 0
      rw [h2 j hj, hz j (by show s < j; exact Nat.lt_trans hq hj), Int.mul_zero, Int.mul_zero, Int.sub_zero]
    · obtain ⟨q2, k1, k2⟩ := g3 p hp
      show q.1 < p.1
      rw [← k2]
      exact h3 q2 k1
    · rcases List.mem_cons.mp hp with rfl | hp
      · exact ⟨q, List.mem_cons_self, rfl⟩
      · obtain ⟨q2, k1, k2⟩ := g3 p hp
        exact ⟨q2, List.mem_cons_of_mem _ k1, k2⟩
theorem triV_down {c : Nat → Nat → Int} {n : Nat} : ∀ {l : List (Nat × (Nat → Int))}, triV c (n + 1) l → ∃ l2, triV c n l2 ∧ l.length ≤ l2.length + 1 ∧ ∀ p ∈ l2, ∃ q ∈ l, q.1 = p.1
  | [], _ => ⟨[], trivial, Nat.zero_le _, fun p hp => by cases hp⟩
  | q :: r, ⟨⟨v, hv⟩, h1, h2, h3, h4⟩ => by
    by_cases hu : v n = 0
    · obtain ⟨l2, g1, g2, g3⟩ := triV_down h4
      refine ⟨q :: l2, ⟨⟨v, fun j => ?_⟩, h1, h2, fun p hp => ?_, g1⟩, by simp only [List.length_cons]; omega, fun p hp => ?_⟩
      · rw [hv j]
        simp only [lc]
        rw [hu, Int.zero_mul, Int.add_zero]
      · obtain ⟨q2, k1, k2⟩ := g3 p hp
        rw [← k2]
        exact h3 q2 k1
      · rcases List.mem_cons.mp hp with rfl | hp
        · exact ⟨p, List.mem_cons_self, rfl⟩
        · obtain ⟨q2, k1, k2⟩ := g3 p hp
          exact ⟨q2, List.mem_cons_of_mem _ k1, k2⟩
    · obtain ⟨l2, g1, g2, g3⟩ := triV_elim hv hu h2 h4 h3
      refine ⟨l2, g1, by simp only [List.length_cons]; omega, fun p hp => ?_⟩
      obtain ⟨q2, k1, k2⟩ := g3 p hp
      exact ⟨q2, List.mem_cons_of_mem _ k1, k2⟩
theorem triV_len {c : Nat → Nat → Int} : ∀ {n : Nat} {l : List (Nat × (Nat → Int))}, triV c n l → l.length ≤ n
  | 0, [], _ => Nat.zero_le _
  | 0, q :: r, ⟨⟨v, hv⟩, h1, _⟩ => absurd (hv q.1) h1
  | n + 1, l, h => by
    obtain ⟨l2, g1, g2, _⟩ := triV_down h
    have := triV_len g1
    omega
