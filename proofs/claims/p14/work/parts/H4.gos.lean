/-! THE ABSTRACT SEARCH: runs that stop early, runs that go on -/
theorem stN_one {tb : Tb} : ∀ {n : Nat} {q m q2 : Qx}, st1 tb q m → stN tb n m q2 → stN tb (n + 1) q q2
  | 0, q, m, q2, h1, h2 => by
    have h2 : q2 = m := h2
    subst h2
    exact ⟨q, rfl, h1⟩
  | n + 1, q, m, q2, h1, ⟨p, g1, g2⟩ => ⟨p, stN_one h1 g1, g2⟩
theorem stN_add {tb : Tb} {n : Nat} {q m : Qx} (h1 : stN tb n q m) : ∀ {k : Nat} {q2 : Qx}, stN tb k m q2 → stN tb (n + k) q q2
  | 0, q2, h2 => by
    have h2 : q2 = m := h2
    subst h2
    exact h1
  | k + 1, q2, ⟨p, g1, g2⟩ => ⟨p, stN_add h1 g1, g2⟩
theorem stN_head {tb : Tb} : ∀ {n : Nat} {q q2 : Qx}, stN tb (n + 1) q q2 → ∃ m, st1 tb q m ∧ stN tb n m q2
  | 0, q, q2, ⟨p, g1, g2⟩ => by
    have g1 : p = q := g1
    subst g1
    exact ⟨q2, g2, rfl⟩
  | n + 1, q, q2, ⟨p, g1, g2⟩ => by
    obtain ⟨m, h1, h2⟩ := stN_head g1
    exact ⟨m, h1, p, h2, g2⟩
theorem st1_ans {tb : Tb} {q q2 : Qx} (h : st1 tb q q2) : q2.2.1 = q.2.1 ∨ ∃ X, q2.2.1 = q.2.1 ++ [(q2.2.2.1, X)] := by
  obtain ⟨s, r, p, e1, e2, g, rfl⟩ := h
  obtain ⟨td, ks, nv, K⟩ := s
  have hA : ∀ {td x y z}, doA tb (r, q.2.1, q.2.2.1 + 1, q.2.2.2.1, q.2.2.2.2) td ks nv K x y z p → p.2.1 = q.2.1 := by
    rintro td x y z ⟨p1, g1, g2⟩
    rw [(tri_step g2).2, (tri_step g1).2]
  have hM : ∀ {td x y}, doM tb (r, q.2.1, q.2.2.1 + 1, q.2.2.2.1, q.2.2.2.2) td ks nv K x y p → p.2.1 = q.2.1 := by
    rintro td x y ⟨p1, g1, g2⟩
    rw [(tri_step g2).2, (tri_step g1).2]
  unfold stp at g
  match td, g with
  | [], g =>
    rw [g]
    exact Or.inr ⟨_, rfl⟩
  | .inl gl :: td, g =>
    refine Or.inl ?_
    show p.2.1 = q.2.1
    rcases g with ⟨_, h⟩ | ⟨_, h⟩ | ⟨_, h⟩ | ⟨_, h⟩ | ⟨_, h⟩ | ⟨_, h⟩ | ⟨_, h⟩ | ⟨_, h⟩
    · exact (tri_step h).2
    · exact (tri_step h).2
    · rw [h]; exact (enq_step _ _).2.1
    · rw [h, (enq_step _ _).2.1]; exact (enq_step _ _).2.1
    · rw [h]; exact (enq_step _ _).2.1
    · rw [h]
    · exact hA h
    · exact hM h
  | .inr (true, x, y, z) :: td, g => exact Or.inl (hA g)
  | .inr (false, x, y, z) :: td, g => exact Or.inl (hM g)
theorem gos_stN {tb : Tb} {en : Nat} : ∀ {n : Nat} {q q2 : Qx}, gos tb en n q q2 → ∃ m, m ≤ n ∧ stN tb m q q2
  | 0, q, q2, h => ⟨0, Nat.le_refl _, h⟩
  | n + 1, q, q2, h => by
    rcases h with ⟨_, rfl⟩ | ⟨_, m, g1, g2⟩
    · exact ⟨0, Nat.zero_le _, rfl⟩
    · obtain ⟨k, h1, h2⟩ := gos_stN g2
      exact ⟨k + 1, by omega, stN_one g1 h2⟩
theorem stN_gos {tb : Tb} : ∀ {n : Nat} {q q2 : Qx}, stN tb n q q2 → gos tb 30 n q q2
  | 0, q, q2, h => h
  | n + 1, q, q2, h => by
    obtain ⟨m, h1, h2⟩ := stN_head h
    refine Or.inr ⟨?_, m, h1, stN_gos h2⟩
    obtain ⟨s, r, p, e1, e2, _, _⟩ := h1
    rintro (q1 | q1 | q1)
    · rw [e1] at q1; cases q1
    · omega
    · omega
theorem gos_pre {tb : Tb} {en : Nat} : ∀ {n : Nat} {q q2 : Qx}, gos tb en n q q2 → ∃ l, q2.2.1 = q.2.1 ++ l
  | 0, q, q2, h => ⟨[], by rw [show q2 = q from h]; simp⟩
  | n + 1, q, q2, h => by
    rcases h with ⟨_, rfl⟩ | ⟨_, m, g1, g2⟩
    · exact ⟨[], by simp⟩
    · obtain ⟨l, hl⟩ := gos_pre g2
      rcases st1_ans g1 with e | ⟨X, e⟩
      · exact ⟨l, by rw [hl, e]⟩
      · exact ⟨(m.2.2.1, X) :: l, by rw [hl, e]; simp⟩
theorem gos_stop {tb : Tb} {en n : Nat} {q q2 : Qx} (h : gos tb en n q q2) (hq : q.1 = [] ∨ 30 ≤ q.2.1.length ∨ en ≤ q.2.1.length) : q2 = q := by
  cases n with
  | zero => exact h
  | succ n =>
    rcases h with ⟨_, e⟩ | ⟨g, _⟩
    · exact e
    · exact absurd hq g
/-- a run that stops at k answers: the last came with the last step -/
theorem gos_need {tb : Tb} {k : Nat} : ∀ {n : Nat} {q q2 : Qx}, q.2.1.length < k → gos tb k n q q2 → q2.2.1.length < k ∨ (q2.2.1.length = k ∧ ∃ X, q2.2.1[k - 1]? = some (q2.2.2.1, X))
  | 0, q, q2, hq, h => by
    have h : q2 = q := h
    subst h
    exact Or.inl hq
  | n + 1, q, q2, hq, h => by
    rcases h with ⟨_, rfl⟩ | ⟨_, m, g1, g2⟩
    · exact Or.inl hq
    · by_cases hm : m.2.1.length < k
      · exact gos_need hm g2
      · have e2 := gos_stop g2 (Or.inr (Or.inr (by omega)))
        subst e2
        rcases st1_ans g1 with e | ⟨X, e⟩
        · rw [e] at hm; exact absurd hq hm
        · have hl : q2.2.1.length = q.2.1.length + 1 := by rw [e]; simp
          refine Or.inr ⟨by omega, X, ?_⟩
          have e3 : k - 1 = q.2.1.length := by omega
          rw [e3]
          generalize hz : q2.2.2.1 = z at e
          rw [e]
          simp
/-- one answer is enough: the first is the same -/
theorem gos_first {tb : Tb} : ∀ {n : Nat} {q a b : Qx}, q.2.1 = [] → gos tb 1 n q a → gos tb 30 n q b → (a.2.1 = [] ∧ b.2.1 = []) ∨ ∃ x l, a.2.1 = [x] ∧ b.2.1 = x :: l
  | 0, q, a, b, hq, h1, h2 => by
    have h1 : a = q := h1
    have h2 : b = q := h2
    subst h1
    subst h2
    exact Or.inl ⟨hq, hq⟩
  | n + 1, q, a, b, hq, h1, h2 => by
    rcases h1 with ⟨s1, rfl⟩ | ⟨s1, m1, g1, k1⟩
    · rcases s1 with s1 | s1 | s1
      · have := gos_stop h2 (Or.inl s1)
        subst this
        exact Or.inl ⟨hq, hq⟩
      · rw [hq] at s1; simp at s1
      · rw [hq] at s1; simp at s1
    · rcases h2 with ⟨s2, rfl⟩ | ⟨s2, m2, g2, k2⟩
      · exfalso
        rcases s2 with s2 | s2 | s2
        · exact s1 (Or.inl s2)
        · rw [hq] at s2; simp at s2
        · rw [hq] at s2; simp at s2
      · have := st1_uniq g1 g2
        subst this
        rcases st1_ans g1 with e | ⟨X, e⟩
        · exact gos_first (by rw [e]; exact hq) k1 k2
        · rw [hq] at e
          have e2 := gos_stop k1 (Or.inr (Or.inr (by rw [e]; simp)))
          subst e2
          obtain ⟨l, hl⟩ := gos_pre k2
          refine Or.inr ⟨_, l, e, ?_⟩
          rw [hl, e]
          rfl
/-- reached from the beginning by as many steps as it says -/
def rcd (tb : Tb) (Q : Qx) : Prop := stN tb Q.2.2.1 (bgn 0) Q
theorem rcd_bgn (tb : Tb) : rcd tb (bgn 0) := rfl
theorem rcd_gos {tb : Tb} {en n : Nat} {Q Q2 : Qx} (h : rcd tb Q) (hg : gos tb en n Q Q2) : rcd tb Q2 := by
  obtain ⟨m, _, hm⟩ := gos_stN hg
  have h2 := stN_add h hm
  have h3 := stN_step h2
  have : Q2.2.2.1 = Q.2.2.1 + m := by
    rw [h3]; show 0 + _ = _; omega
  unfold rcd
  rw [this]
  exact h2
theorem rcd_on {tb : Tb} {Q Q2 : Qx} (h : rcd tb Q) (hg : gos tb 30 Q.2.2.1 (bgn 0) Q2) : Q2 = Q := gos_uniq hg (stN_gos h)
