/-! TOLD TREES: the places of letters in a list, and their sizes -/
/-- told codes: halves, sizes, values -/
def toT (nm : Nat → Bool) (th qa qb sz : Nat → Nat) (tp : Nat) : Prop := (∀ c, cTd tp c → c < 256 → sz c = 1 ∧ eL nm (th c) = 1) ∧ ∀ c, 256 ≤ c → c < 256 + tp → (cTd tp (qa c) ∧ cTd tp (qb c)) ∧ sz (qa c) + sz (qb c) + 1 = sz c ∧ th c = nd (th (qa c)) (th (qb c))
/-- the pairs of a told list (l true), and of the lists that stand in it under a name; of a letter (l false) the latter alone -/
def posC (nm : Nat → Bool) (th qa qb : Nat → Nat) : Nat → Bool → Nat → List Nat
  | 0, _, _ => []
  | n + 1, l, c => if c < 256 then [] else if (l || nm (th c)) = true then c :: (posC nm th qa qb n false (qa c) ++ posC nm th qa qb n true (qb c)) else posC nm th qa qb n false (qa c) ++ posC nm th qa qb n false (qb c)
section
variable {nm : Nat → Bool} {th qa qb sz : Nat → Nat} {tp : Nat}
theorem toT_in {c : Nat} (h : cTd tp c) (h9 : ¬ c < 256) : 256 ≤ c ∧ c < 256 + tp := by
  unfold cTd at h
  omega
theorem toT_eL (h : toT nm th qa qb sz tp) : ∀ (n c : Nat), sz c ≤ n → cTd tp c → 1 ≤ sz c ∧ 2 * eL nm (th c) ≤ sz c + 1 := by
  intro n
  induction n with
  | zero =>
    intro c hn hc
    by_cases q : c < 256
    · have := (h.1 c hc q).1
      omega
    · have g := toT_in hc q
      have := (h.2 c g.1 g.2).2.1
      omega
  | succ n ih =>
    intro c hn hc
    by_cases q : c < 256
    · obtain ⟨g1, g2⟩ := h.1 c hc q
      omega
    · have g := toT_in hc q
      obtain ⟨⟨g1, g2⟩, g3, g4⟩ := h.2 c g.1 g.2
      have i1 := ih (qa c) (by omega) g1
      have i2 := ih (qb c) (by omega) g2
      rw [g4]
      cases z : nm (nd (th (qa c)) (th (qb c))) with
      | true => rw [eL_nm z]; omega
      | false => rw [eL_un z]; omega
theorem sumB_app (f : Nat → Nat) : ∀ a b : List Nat, sumB f (a ++ b) = sumB f a + sumB f b
  | [], b => by simp [sumB]
  | x :: a, b => by simp only [List.cons_append, sumB, sumB_app f a b]; omega
theorem posC_sz (h : toT nm th qa qb sz tp) (hone : ∀ v, nm v = true → eL nm v = 1) : ∀ (n c : Nat), sz c ≤ n → cTd tp c → 2 * sumB (fun d => eL nm (th (qa d))) (posC nm th qa qb n true c) + 1 ≤ sz c ∧ 2 * eL nm (th c) + 2 * sumB (fun d => eL nm (th (qa d))) (posC nm th qa qb n false c) ≤ sz c + 1 := by
  intro n
  induction n with
  | zero =>
    intro c hn hc
    have := (toT_eL h 0 c hn hc).1
    omega
  | succ n ih =>
    intro c hn hc
    by_cases q : c < 256
    · have := h.1 c hc q
      unfold posC
      rw [if_pos q, if_pos q]
      simp only [sumB]
      omega
    · have g := toT_in hc q
      obtain ⟨⟨g1, g2⟩, g3, g4⟩ := h.2 c g.1 g.2
      have p1 := (toT_eL h _ (qa c) (Nat.le_refl _) g1).1
      have p2 := (toT_eL h _ (qb c) (Nat.le_refl _) g2).1
      have i1 := ih (qa c) (by omega) g1
      have i2 := ih (qb c) (by omega) g2
      have e : eL nm (th c) = if nm (th c) = true then 1 else eL nm (th (qa c)) + eL nm (th (qb c)) := by
        cases z : nm (th c) with
        | true => rw [hone _ z, if_pos rfl]
        | false =>
          rw [if_neg (by decide), g4]
          exact eL_un (by rw [← g4]; exact z)
      unfold posC
      rw [if_neg q, if_neg q, e]
      simp only [Bool.true_or, Bool.false_or, if_true]
      cases z : nm (th c) with
      | true =>
        simp only [if_true, sumB]
        rw [sumB_app]
        omega
      | false =>
        simp only [Bool.false_eq_true, if_false, sumB]
        rw [sumB_app, sumB_app]
        omega
theorem posC_self (h : toT nm th qa qb sz tp) {n c : Nat} (hn : sz c ≤ n) (hc : cTd tp c) (h9 : ¬ c < 256) : c ∈ posC nm th qa qb n true c := by
  have := (toT_eL h n c hn hc).1
  obtain ⟨m, rfl⟩ : ∃ m, n = m + 1 := ⟨n - 1, by omega⟩
  unfold posC
  rw [if_neg h9, if_pos (show (true || nm (th c)) = true from rfl)]
  exact List.mem_cons_self
/-- more steps find nothing more -/
theorem posC_st (h : toT nm th qa qb sz tp) : ∀ (n m c : Nat) (l : Bool), sz c ≤ n → sz c ≤ m → cTd tp c → posC nm th qa qb n l c = posC nm th qa qb m l c := by
  intro n
  induction n with
  | zero =>
    intro m c l h1 h2 hc
    have := (toT_eL h 0 c h1 hc).1
    omega
  | succ n ih =>
    intro m c l h1 h2 hc
    have p0 := (toT_eL h _ c h1 hc).1
    obtain ⟨k, rfl⟩ : ∃ k, m = k + 1 := ⟨m - 1, by omega⟩
    by_cases q : c < 256
    · unfold posC
      rw [if_pos q, if_pos q]
    · have g := toT_in hc q
      obtain ⟨⟨g1, g2⟩, g3, g4⟩ := h.2 c g.1 g.2
      have p1 := (toT_eL h _ (qa c) (Nat.le_refl _) g1).1
      have p2 := (toT_eL h _ (qb c) (Nat.le_refl _) g2).1
      unfold posC
      rw [ih k (qa c) false (by omega) (by omega) g1, ih k (qb c) true (by omega) (by omega) g2, ih k (qb c) false (by omega) (by omega) g2]
/-- all pairs of a code -/
def posA (nm : Nat → Bool) (th qa qb sz : Nat → Nat) (l : Bool) (c : Nat) : List Nat := posC nm th qa qb (sz c) l c
theorem posA_eq (h : toT nm th qa qb sz tp) {c : Nat} (l : Bool) (hc : 256 ≤ c ∧ c < 256 + tp) : posA nm th qa qb sz l c = if (l || nm (th c)) = true then c :: (posA nm th qa qb sz false (qa c) ++ posA nm th qa qb sz true (qb c)) else posA nm th qa qb sz false (qa c) ++ posA nm th qa qb sz false (qb c) := by
  obtain ⟨⟨g1, g2⟩, g3, g4⟩ := h.2 c hc.1 hc.2
  have p1 := (toT_eL h _ (qa c) (Nat.le_refl _) g1).1
  have p2 := (toT_eL h _ (qb c) (Nat.le_refl _) g2).1
  unfold posA
  obtain ⟨k, hk⟩ : ∃ k, sz c = k + 1 := ⟨sz c - 1, by omega⟩
  rw [hk, posC, if_neg (by omega), posC_st h k (sz (qa c)) (qa c) false (by omega) (Nat.le_refl _) g1, posC_st h k (sz (qb c)) (qb c) true (by omega) (Nat.le_refl _) g2, posC_st h k (sz (qb c)) (qb c) false (by omega) (Nat.le_refl _) g2]
end
