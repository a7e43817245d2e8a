/-! THE SIZE OF A SOLUTION's VALUE bounds the turns of unify -/
def v2 : Nat → Nat → Nat
  | 0, _ => 0
  | k + 1, m => if m % 2 = 0 then v2 k (m / 2) + 1 else 0
theorem v2_pow : ∀ (a b k : Nat), a < k → v2 k (2 ^ a * (2 * b + 1)) = a
  | 0, b, k, h => by
    cases k with
    | zero => omega
    | succ k =>
      simp only [v2, Nat.pow_zero, Nat.one_mul]
      rw [if_neg (by omega)]
  | a + 1, b, k, h => by
    cases k with
    | zero => omega
    | succ k =>
      have e : 2 ^ (a + 1) * (2 * b + 1) = 2 * (2 ^ a * (2 * b + 1)) := by rw [Nat.pow_succ, Nat.mul_comm (2 ^ a) 2, Nat.mul_assoc]
      have ih := v2_pow a b k (by omega)
      simp only [v2]
      rw [e]
      generalize 2 ^ a * (2 * b + 1) = m at ih ⊢
      rw [if_pos (by omega), show 2 * m / 2 = m by omega, ih]
theorem odd_ex : ∀ (n m : Nat), m ≤ n → 0 < m → ∃ a b, m = 2 ^ a * (2 * b + 1)
  | 0, m, h, h0 => by omega
  | n + 1, m, h, h0 => by
    rcases Nat.mod_two_eq_zero_or_one m with q | q
    · obtain ⟨a, b, e⟩ := odd_ex n (m / 2) (by omega) (by omega)
      refine ⟨a + 1, b, ?_⟩
      rw [Nat.pow_succ, Nat.mul_comm (2 ^ a) 2, Nat.mul_assoc, ← e]
      omega
    · exact ⟨0, m / 2, by rw [Nat.pow_zero, Nat.one_mul]; omega⟩
theorem nd_ex {n : Nat} (h : 11 < n) : ∃ a b, n = nd a b := by
  obtain ⟨a, b, e⟩ := odd_ex (n - 11) (n - 11) (Nat.le_refl _) (by omega)
  exact ⟨a, b, by unfold nd; omega⟩
def dn1 (n : Nat) : Nat := v2 n (n - 11)
def dn2 (n : Nat) : Nat := (n - 11) / 2 ^ dn1 n / 2
theorem dn1_nd (a b : Nat) : dn1 (nd a b) = a := by
  unfold dn1
  have h := nd_gt1 a b
  rw [show nd a b - 11 = 2 ^ a * (2 * b + 1) by unfold nd; omega]
  exact v2_pow a b _ h
theorem dn2_nd (a b : Nat) : dn2 (nd a b) = b := by
  unfold dn2
  rw [dn1_nd, show nd a b - 11 = 2 ^ a * (2 * b + 1) by unfold nd; omega, Nat.mul_div_cancel_left _ (Nat.two_pow_pos a)]
  omega
def gzf : Nat → Nat → Nat
  | 0, _ => 1
  | k + 1, n => if 11 < n then gzf k (dn1 n) + gzf k (dn2 n) + 1 else 1
theorem gzf_stab : ∀ (k j n : Nat), n < k → n < j → gzf k n = gzf j n
  | 0, _, _, h, _ => by omega
  | _, 0, _, _, h => by omega
  | k + 1, j + 1, n, h1, h2 => by
    simp only [gzf]
    by_cases h : 11 < n
    · rw [if_pos h, if_pos h]
      obtain ⟨a, b, e⟩ := nd_ex h
      have q1 := nd_gt1 a b
      have q2 := nd_gt2 a b
      rw [← e] at q1 q2
      rw [e, dn1_nd, dn2_nd, gzf_stab k j a (by omega) (by omega), gzf_stab k j b (by omega) (by omega)]
    · rw [if_neg h, if_neg h]
/-- how many nodes a value has -/
def gz (n : Nat) : Nat := gzf (n + 1) n
theorem gz_pos (n : Nat) : 0 < gz n := by
  unfold gz gzf
  split <;> omega
theorem gz_nd (a b : Nat) : gz (nd a b) = gz a + gz b + 1 := by
  have q1 := nd_gt1 a b
  have q2 := nd_gt2 a b
  have h := nd_big a b
  unfold gz
  rw [show gzf (nd a b + 1) (nd a b) = gzf (nd a b) (dn1 (nd a b)) + gzf (nd a b) (dn2 (nd a b)) + 1 by
    rw [gzf, if_pos h]]
  rw [dn1_nd, dn2_nd, gzf_stab (nd a b) (a + 1) a q1 (by omega), gzf_stab (nd a b) (b + 1) b q2 (by omega)]
theorem gz_atom {n : Nat} (h : n ≤ 11) : gz n = 1 := by
  unfold gz gzf
  rw [if_neg (by omega)]
def gzs (th : Nat → Nat) : List (Nat × Nat) → Nat
  | [] => 0
  | q :: qs => gz (th q.1) + gzs th qs
theorem uSt_gz {D : Nat → Prop} {V W : Nat → TV} {ps rs : List (Nat × Nat)} {th : Nat → Nat} (h : uSt D V ps W rs) (hs : vSol V D th) (hq : ∀ q ∈ ps, th q.1 = th q.2) : vSol W D th ∧ (∀ q ∈ rs, th q.1 = th q.2) ∧ gzs th rs < gzs th ps := by
  obtain ⟨x0, y0, x, y, qs, rfl, ⟨d1, d2, d3, d4⟩, ⟨w1, w2, r1, r2⟩, h⟩ := h
  have hqs : ∀ q ∈ qs, th q.1 = th q.2 := fun q h => hq q (List.mem_cons_of_mem _ h)
  have h0 : th x0 = th y0 := hq (x0, y0) List.mem_cons_self
  have h1 : th x = th y := by rw [← w1.1 th hs, ← w2.1 th hs]; exact h0
  have hp := gz_pos (th x0)
  rcases h with ⟨_, rfl, rfl⟩ | ⟨i, c, hic, hne, ho, hr, rfl, rfl⟩ | ⟨a, b, c, d, hne, e1, e2, rfl, rfl⟩
  · exact ⟨hs, hqs, by simp only [gzs]; omega⟩
  · refine ⟨?_, hqs, by simp only [gzs]; omega⟩
    rcases hic with ⟨rfl, rfl⟩ | ⟨rfl, rfl⟩
    · exact (vSol_bind ho d3).mpr ⟨hs, h1⟩
    · exact (vSol_bind ho d4).mpr ⟨hs, h1.symm⟩
  · have ea := (hs x d3).2.2 a b e1
    have ec := (hs y d4).2.2 c d e2
    have hi := nd_inj (a := th a) (b := th b) (a2 := th c) (b2 := th d) (by rw [← ea, ← ec]; exact h1)
    refine ⟨hs, fun q hq2 => ?_, ?_⟩
    · rcases List.mem_cons.mp hq2 with rfl | hq2
      · exact hi.1
      · rcases List.mem_cons.mp hq2 with rfl | hq2
        · exact hi.2
        · exact hqs q hq2
    · simp only [gzs]
      rw [w1.1 th hs, ea, gz_nd]
      omega
/-- as many turns as the value of a solution has nodes, at most -/
theorem uRun_gz {D : Nat → Prop} {V : Nat → TV} {qs : List (Nat × Nat)} {th : Nat → Nat} (hs : vSol V D th) (hq : ∀ q ∈ qs, th q.1 = th q.2) : ∀ {n : Nat} {W : Nat → TV} {rs : List (Nat × Nat)}, uRun D V qs n W rs → vSol W D th ∧ (∀ q ∈ rs, th q.1 = th q.2) ∧ n + gzs th rs ≤ gzs th qs
  | 0, W, rs, h => by
    obtain ⟨rfl, rfl⟩ := h
    exact ⟨hs, hq, by omega⟩
  | n + 1, W, rs, h => by
    obtain ⟨W1, rs1, h1, h2⟩ := h
    have ih := uRun_gz hs hq h1
    have := uSt_gz h2 ih.1 ih.2.1
    exact ⟨this.1, this.2.1, by omega⟩
/-- so unify gives up only where no solution has a small value -/
theorem cUnG_end {s0 s2 : rSg} {s kb nb np : Nat} {D : Nat → Prop} {a b l : Nat} {x : Int32} {bs : List Nat} (h : cUnG s0 s2 s kb nb np D a b l x bs) (hx : x = 0) {th : Nat → Nat} (hs : vSol (cV s0 s kb nb) D th) (hab : th a = th b) : 1000000 < gz (th a) := by
  rcases h.2.2.2.2.2 with ⟨q, _⟩ | ⟨_, q⟩ | ⟨_, n, W, rs, hn, hr, hne⟩
  · rw [hx] at q
    exact absurd q (by decide)
  · exact absurd hab (q th hs)
  · have h1 := uRun_gz hs (qs := [(a, b)]) (fun q hq => by
      rcases List.mem_cons.mp hq with rfl | hq
      · exact hab
      · cases hq) hr
    have h2 := h1.2.2
    cases rs with
    | nil => exact absurd rfl hne
    | cons q rs =>
      have := gz_pos (th q.1)
      simp only [gzs] at h2
      omega
