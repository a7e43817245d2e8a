/-! A SMALLEST SOLUTION: heads that nothing told asks for are atoms -/
/-- in the pairs of K the head is taken away -/
def rhf (K : Nat → Bool) : Nat → Nat → Nat
  | 0, _ => 0
  | k + 1, n => if 11 < n then nd (if K n then 0 else rhf K k (dn1 n)) (rhf K k (dn2 n)) else n
theorem rhf_stab (K : Nat → Bool) : ∀ (k j n : Nat), n < k → n < j → rhf K k n = rhf K j n
  | 0, _, _, h, _ => by omega
  | _, 0, _, _, h => by omega
  | k + 1, j + 1, n, h1, h2 => by
    simp only [rhf]
    by_cases h : 11 < n
    · rw [if_pos h, if_pos h]
      obtain ⟨a, b, e⟩ := nd_ex h
      have q1 := nd_gt1 a b
      have q2 := nd_gt2 a b
      rw [← e] at q1 q2
      have e1 : dn1 n = a := by rw [e, dn1_nd]
      have e2 : dn2 n = b := by rw [e, dn2_nd]
      rw [e1, e2, rhf_stab K k j a (by omega) (by omega), rhf_stab K k j b (by omega) (by omega)]
    · rw [if_neg h, if_neg h]
def rho (K : Nat → Bool) (n : Nat) : Nat := rhf K (n + 1) n
theorem rho_atom {K : Nat → Bool} {n : Nat} (h : n ≤ 11) : rho K n = n := by
  unfold rho rhf
  rw [if_neg (by omega)]
theorem rho_nd (K : Nat → Bool) (a b : Nat) : rho K (nd a b) = nd (if K (nd a b) then 0 else rho K a) (rho K b) := by
  have q1 := nd_gt1 a b
  have q2 := nd_gt2 a b
  have h := nd_big a b
  unfold rho
  rw [show rhf K (nd a b + 1) (nd a b) = nd (if K (nd a b) then 0 else rhf K (nd a b) (dn1 (nd a b))) (rhf K (nd a b) (dn2 (nd a b))) by
    rw [rhf, if_pos h]]
  rw [dn1_nd, dn2_nd, rhf_stab K (nd a b) (a + 1) a q1 (by omega), rhf_stab K (nd a b) (b + 1) b q2 (by omega)]
theorem gz_rho (K : Nat → Bool) : ∀ (m n : Nat), n ≤ m → gz (rho K n) ≤ gz n
  | 0, n, h => by
    rw [rho_atom (by omega)]
    exact Nat.le_refl _
  | m + 1, n, h => by
    by_cases h9 : 11 < n
    · obtain ⟨a, b, e⟩ := nd_ex h9
      have q1 := nd_gt1 a b
      have q2 := nd_gt2 a b
      rw [← e] at q1 q2
      have i1 := gz_rho K m a (by omega)
      have i2 := gz_rho K m b (by omega)
      have p1 := gz_pos a
      rw [e, rho_nd, gz_nd, gz_nd]
      split
      · rw [gz_atom (show (0 : Nat) ≤ 11 by omega)]
        omega
      · omega
    · rw [rho_atom (by omega)]
      exact Nat.le_refl _
/-- the values with the heads of K taken away, head variables (H) told by kh -/
def rth (H kh K : Nat → Bool) (th : Nat → Nat) (c : Nat) : Nat := if H c && kh c then 0 else rho K (th c)
theorem gz_rth (H kh K : Nat → Bool) (th : Nat → Nat) (c : Nat) : gz (rth H kh K th c) ≤ gz (th c) := by
  unfold rth
  split
  · rw [gz_atom (show (0 : Nat) ≤ 11 by omega)]
    exact gz_pos _
  · exact gz_rho K _ _ (Nat.le_refl _)
/-- they are a solution again, if no pair in K but has a head variable as its left half, and pairs with the same head variable are in K together -/
theorem rth_sol {F : Nat → TV} {D : Nat → Prop} {th : Nat → Nat} {H kh K : Nat → Bool} (hs : vSol F D th) (hF : ∀ c e, D c → F c ≠ some (.inl e)) (hat : ∀ c n, D c → F c = some (.inr (.inl n)) → n ≤ 11 ∧ H c = false)
    (hpr : ∀ c a b, D c → F c = some (.inr (.inr (a, b))) → H c = false ∧ H b = false ∧ ((H a = true ∧ K (th c) = kh a) ∨ (H a = false ∧ K (th c) = false))) : vSol F D (rth H kh K th) := by
  intro c hc
  refine ⟨fun e he => absurd he (hF c e hc), fun n hn => ?_, fun a b hp => ?_⟩
  · have h1 := hat c n hc hn
    have h2 := (hs c hc).2.1 n hn
    unfold rth
    rw [h1.2, h2, rho_atom h1.1]
    rfl
  · obtain ⟨h1, h2, h3⟩ := hpr c a b hc hp
    have h4 := (hs c hc).2.2 a b hp
    unfold rth
    rw [h1, h2]
    simp only [Bool.false_and, Bool.false_eq_true, if_false]
    rw [h4, rho_nd, ← h4]
    rcases h3 with ⟨g1, g2⟩ | ⟨g1, g2⟩
    · rw [g1, g2]
      simp only [Bool.true_and]
    · rw [g1, g2]
      simp only [Bool.false_and]
/-- the sizes of the values of these codes -/
def gzl (th : Nat → Nat) : List Nat → Nat
  | [] => 0
  | c :: cs => gz (th c) + gzl th cs
theorem gzl_le {th t2 : Nat → Nat} (h : ∀ c, gz (t2 c) ≤ gz (th c)) : ∀ cs : List Nat, gzl t2 cs ≤ gzl th cs
  | [] => Nat.le_refl _
  | c :: cs => by
    have := h c
    have := gzl_le h cs
    simp only [gzl]
    omega
theorem gzl_lt {th t2 : Nat → Nat} (h : ∀ c, gz (t2 c) ≤ gz (th c)) : ∀ {cs : List Nat} {x : Nat}, x ∈ cs → gz (t2 x) < gz (th x) → gzl t2 cs < gzl th cs
  | c :: cs, x, hx, hl => by
    have h1 := h c
    have h2 := gzl_le h cs
    simp only [gzl]
    rcases List.mem_cons.mp hx with rfl | hx
    · omega
    · have := gzl_lt h hx hl
      omega
/-- a solution of F and of the equations, with the least sum of sizes over cs -/
def lst (F : Nat → TV) (D : Nat → Prop) (eqs : List (Nat × Nat)) (cs : List Nat) (th : Nat → Nat) : Prop := vSol F D th ∧ (∀ q ∈ eqs, th q.1 = th q.2) ∧ ∀ t2, vSol F D t2 → (∀ q ∈ eqs, t2 q.1 = t2 q.2) → gzl th cs ≤ gzl t2 cs
theorem lst_ex {F : Nat → TV} {D : Nat → Prop} {eqs : List (Nat × Nat)} {cs : List Nat} : ∀ (n : Nat) {th : Nat → Nat}, gzl th cs ≤ n → vSol F D th → (∀ q ∈ eqs, th q.1 = th q.2) → ∃ t2, lst F D eqs cs t2
  | 0, th, h, h1, h2 => ⟨th, h1, h2, fun _ _ _ => by omega⟩
  | n + 1, th, h, h1, h2 => by
    by_cases q : ∃ t2, vSol F D t2 ∧ (∀ q ∈ eqs, t2 q.1 = t2 q.2) ∧ gzl t2 cs < gzl th cs
    · obtain ⟨t2, g1, g2, g3⟩ := q
      exact lst_ex n (by omega) g1 g2
    · refine ⟨th, h1, h2, fun t2 g1 g2 => ?_⟩
      by_cases g3 : gzl th cs ≤ gzl t2 cs
      · exact g3
      · exact absurd ⟨t2, g1, g2, by omega⟩ q
/-- in a smallest solution the heads of such a K are atoms -/
theorem lst_head {F : Nat → TV} {D : Nat → Prop} {eqs : List (Nat × Nat)} {cs : List Nat} {th : Nat → Nat} {H kh K : Nat → Bool} (hl : lst F D eqs cs th) (hF : ∀ c e, D c → F c ≠ some (.inl e)) (hat : ∀ c n, D c → F c = some (.inr (.inl n)) → n ≤ 11 ∧ H c = false)
    (hpr : ∀ c a b, D c → F c = some (.inr (.inr (a, b))) → H c = false ∧ H b = false ∧ ((H a = true ∧ K (th c) = kh a) ∨ (H a = false ∧ K (th c) = false))) (heq : ∀ q ∈ eqs, H q.1 = false ∧ H q.2 = false) {x : Nat} (hx : x ∈ cs) (h1 : H x = true) (h2 : kh x = true) : gz (th x) = 1 := by
  have s2 := rth_sol (H := H) (kh := kh) (K := K) hl.1 hF hat hpr
  have e2 : ∀ q ∈ eqs, rth H kh K th q.1 = rth H kh K th q.2 := fun q hq => by
    have g := heq q hq
    unfold rth
    rw [g.1, g.2, hl.2.1 q hq]
    rfl
  have h3 := hl.2.2 _ s2 e2
  have hp := gz_pos (th x)
  by_cases h4 : gz (rth H kh K th x) < gz (th x)
  · have := gzl_lt (gz_rth H kh K th) hx h4
    omega
  · have h5 : rth H kh K th x = 0 := by
      unfold rth
      rw [h1, h2]
      rfl
    rw [h5, gz_atom (show (0 : Nat) ≤ 11 by omega)] at h4
    omega
