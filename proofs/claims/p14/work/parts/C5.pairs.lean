/-! A SMALLEST SOLUTION: each pair in it is the value of a pair's code -/
/-- the values w are taken away -/
def sgf (w : Nat) : Nat → Nat → Nat
  | 0, _ => 0
  | k + 1, n => if 11 < n then (if n = w then 0 else nd (sgf w k (dn1 n)) (sgf w k (dn2 n))) else n
theorem sgf_stab (w : Nat) : ∀ (k j n : Nat), n < k → n < j → sgf w k n = sgf w j n
  | 0, _, _, h, _ => by omega
  | _, 0, _, _, h => by omega
  | k + 1, j + 1, n, h1, h2 => by
    simp only [sgf]
    by_cases h : 11 < n
    · rw [if_pos h, if_pos h]
      obtain ⟨a, b, e⟩ := nd_ex h
      have q1 := nd_gt1 a b
      have q2 := nd_gt2 a b
      rw [← e] at q1 q2
      have e1 : dn1 n = a := by rw [e, dn1_nd]
      have e2 : dn2 n = b := by rw [e, dn2_nd]
      rw [e1, e2, sgf_stab w k j a (by omega) (by omega), sgf_stab w k j b (by omega) (by omega)]
    · rw [if_neg h, if_neg h]
def sgm (w n : Nat) : Nat := sgf w (n + 1) n
theorem sgm_atom {w n : Nat} (h : n ≤ 11) : sgm w n = n := by
  unfold sgm sgf
  rw [if_neg (by omega)]
theorem sgm_same {w : Nat} (h : 11 < w) : sgm w w = 0 := by
  unfold sgm sgf
  rw [if_pos h, if_pos rfl]
theorem sgm_nd {w a b : Nat} (hw : nd a b ≠ w) : sgm w (nd a b) = nd (sgm w a) (sgm w b) := by
  have q1 := nd_gt1 a b
  have q2 := nd_gt2 a b
  have h := nd_big a b
  unfold sgm
  rw [show sgf w (nd a b + 1) (nd a b) = nd (sgf w (nd a b) (dn1 (nd a b))) (sgf w (nd a b) (dn2 (nd a b))) by
    rw [sgf, if_pos h, if_neg hw]]
  rw [dn1_nd, dn2_nd, sgf_stab w (nd a b) (a + 1) a q1 (by omega), sgf_stab w (nd a b) (b + 1) b q2 (by omega)]
theorem gz_sgm (w : Nat) : ∀ (m n : Nat), n ≤ m → gz (sgm w n) ≤ gz n
  | 0, n, h => by
    rw [sgm_atom (by omega)]
    exact Nat.le_refl _
  | m + 1, n, h => by
    by_cases h9 : 11 < n
    · by_cases hw : n = w
      · rw [hw, sgm_same (by omega), gz_atom (show (0 : Nat) ≤ 11 by omega)]
        exact gz_pos _
      · obtain ⟨a, b, e⟩ := nd_ex h9
        have q1 := nd_gt1 a b
        have q2 := nd_gt2 a b
        rw [← e] at q1 q2
        have i1 := gz_sgm w m a (by omega)
        have i2 := gz_sgm w m b (by omega)
        rw [e, sgm_nd (by rw [← e]; exact hw), gz_nd, gz_nd]
        omega
    · rw [sgm_atom (by omega)]
      exact Nat.le_refl _
theorem sgm_sol {F : Nat → TV} {D : Nat → Prop} {th : Nat → Nat} {w : Nat} (hs : vSol F D th) (hat : ∀ c n, D c → F c = some (.inr (.inl n)) → n ≤ 11)
    (hpr : ∀ c a b, D c → F c = some (.inr (.inr (a, b))) → th c ≠ w) : vSol F D (fun c => sgm w (th c)) := by
  intro c hc
  refine ⟨fun e he => ?_, fun n hn => ?_, fun a b hp => ?_⟩
  · show sgm w (th c) = sgm w (th e)
    rw [(hs c hc).1 e he]
  · show sgm w (th c) = n
    rw [(hs c hc).2.1 n hn, sgm_atom (hat c n hc hn)]
  · show sgm w (th c) = nd (sgm w (th a)) (sgm w (th b))
    have h4 := (hs c hc).2.2 a b hp
    have h5 := hpr c a b hc hp
    rw [h4] at h5
    rw [h4, sgm_nd h5]
theorem lst_pair {F : Nat → TV} {D : Nat → Prop} {eqs : List (Nat × Nat)} {cs : List Nat} {th : Nat → Nat} (hl : lst F D eqs cs th) (hat : ∀ c n, D c → F c = some (.inr (.inl n)) → n ≤ 11) {x : Nat} (hx : x ∈ cs) (h9 : 11 < th x) : ∃ c a b, D c ∧ F c = some (.inr (.inr (a, b))) ∧ th c = th x ∧ th x = nd (th a) (th b) := by
  by_cases q : ∃ c a b, D c ∧ F c = some (.inr (.inr (a, b))) ∧ th c = th x
  · obtain ⟨c, a, b, g1, g2, g3⟩ := q
    exact ⟨c, a, b, g1, g2, g3, by rw [← g3]; exact (hl.1 c g1).2.2 a b g2⟩
  · exfalso
    have s2 := sgm_sol (w := th x) hl.1 hat (fun c a b hc hp h => q ⟨c, a, b, hc, hp, h⟩)
    have h3 := hl.2.2 _ s2 (fun q hq => by
      show sgm (th x) (th q.1) = sgm (th x) (th q.2)
      rw [hl.2.1 q hq])
    obtain ⟨a, b, e⟩ := nd_ex h9
    have p1 := gz_pos a
    have p2 := gz_pos b
    have h4 : gz (sgm (th x) (th x)) < gz (th x) := by
      rw [sgm_same h9, gz_atom (show (0 : Nat) ≤ 11 by omega), e, gz_nd]
      omega
    have := gzl_lt (t2 := fun c => sgm (th x) (th c)) (th := th) (fun c => gz_sgm _ _ _ (Nat.le_refl _)) hx h4
    omega
