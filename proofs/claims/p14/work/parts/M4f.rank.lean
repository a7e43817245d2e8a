/-! LEVELS AND GOALS: as many goals as levels on which linked values differ first -/
theorem lc_add (n : Nat) (u v : Nat → Int) (c : Nat → Nat → Int) (j : Nat) : lc n (fun t => u t + v t) c j = lc n u c j + lc n v c j := by
  induction n with
  | zero => simp [lc]
  | succ n ih =>
    simp only [lc]
    rw [ih, Int.add_mul]
    omega
theorem lc_zero (n : Nat) (c : Nat → Nat → Int) (j : Nat) : lc n (fun _ => 0) c j = 0 := by
  induction n with
  | zero => rfl
  | succ n ih =>
    simp only [lc]
    rw [ih, Int.zero_mul, Int.add_zero]
theorem lc_out {n a : Nat} (h : n ≤ a) (x : Int) (c : Nat → Nat → Int) (j : Nat) : lc n (fun t => if t = a then x else 0) c j = 0 := by
  induction n with
  | zero => rfl
  | succ n ih =>
    simp only [lc]
    rw [ih (by omega), if_neg (by omega), Int.zero_mul, Int.add_zero]
theorem lc_one {n a : Nat} (h : a < n) (x : Int) (c : Nat → Nat → Int) (j : Nat) : lc n (fun t => if t = a then x else 0) c j = x * c a j := by
  induction n with
  | zero => omega
  | succ n ih =>
    simp only [lc]
    by_cases e : n = a
    · subst e
      rw [lc_out (Nat.le_refl _), if_pos rfl, Int.zero_add]
    · rw [ih (by omega), if_neg e, Int.zero_mul, Int.add_zero]
/-- the letters of the second lists, level by level (0: those with none) -/
def cY (nm : Nat → Bool) (Y : Nat → Nat) (a : Nat) : Nat → Int
  | 0 => if Y a ≤ 11 then 1 else 0
  | j + 1 => (cnL (lvI nm j) (Y a) : Int)
def hUY (Un : List Uf) (nA : Nat) (Y : Nat → Nat) : Prop := ∀ u ∈ Un, uA u < nA ∧ ∀ f, cnL f (uH u) = cnL f (uL u) + cnL f (Y (uA u))
theorem lnk_cY {nm : Nat → Bool} {Un : List Uf} {nA g : Nat} {Y : Nat → Nat} (hY : hUY Un nA Y) : ∀ {n x y : Nat}, lnk (Eg Un g) n x y → ∃ m : Nat → Int, ∀ j, (cnL (lvI nm j) y : Int) - (cnL (lvI nm j) x : Int) = lc nA m (cY nm Y) (j + 1)
  | 0, x, y, h => by
    have h : x = y := h
    refine ⟨fun _ => 0, fun j => ?_⟩
    rw [h, lc_zero]
    omega
  | n + 1, x, y, ⟨z, h1, h2⟩ => by
    obtain ⟨m, hm⟩ := lnk_cY (nm := nm) hY h1
    have key : ∃ a x2, a < nA ∧ ∀ j, (cnL (lvI nm j) y : Int) - (cnL (lvI nm j) z : Int) = x2 * cY nm Y a (j + 1) := by
      rcases h2 with h2 | h2
      · obtain ⟨u, hu, _, e1, e2⟩ := Eg_mem.mp h2
        obtain ⟨q1, q2⟩ := hY u hu
        refine ⟨uA u, 1, q1, fun j => ?_⟩
        have := q2 (lvI nm j)
        rw [e1, e2] at this
        show _ = 1 * (cnL (lvI nm j) (Y (uA u)) : Int)
        omega
      · obtain ⟨u, hu, _, e1, e2⟩ := Eg_mem.mp h2
        obtain ⟨q1, q2⟩ := hY u hu
        refine ⟨uA u, -1, q1, fun j => ?_⟩
        have := q2 (lvI nm j)
        rw [e1, e2] at this
        show _ = -1 * (cnL (lvI nm j) (Y (uA u)) : Int)
        omega
    obtain ⟨a, x2, ha, hx⟩ := key
    refine ⟨fun t => m t + if t = a then x2 else 0, fun j => ?_⟩
    rw [lc_add, lc_one ha, ← hm j, ← hx j]
    omega
theorem rk_vec {nm : Nat → Bool} {Un : List Uf} {Ids : List Nat} {Vx : Nat → Nat → Bool} {nA i : Nat} {Y : Nat → Nat} (hY : hUY Un nA Y) (h : rkL nm Un Ids Vx i) : ∃ b : Nat → Int, spI (cY nm Y) nA b ∧ b (i + 1) ≠ 0 ∧ ∀ j, i + 1 < j → b j = 0 := by
  obtain ⟨g, _, w, u, _, _, ⟨n, hl⟩, ⟨h1, h2⟩, _⟩ := h
  obtain ⟨m, hm⟩ := lnk_cY (nm := nm) hY hl
  refine ⟨fun j => lc nA m (cY nm Y) j, ⟨m, fun j => rfl⟩, ?_, fun j hj => ?_⟩
  · show lc nA m (cY nm Y) (i + 1) ≠ 0
    rw [← hm i]
    omega
  · match j, hj with
    | j + 1, hj =>
      show lc nA m (cY nm Y) (j + 1) = 0
      rw [← hm j]
      have := h2 j (by omega)
      omega
theorem rk_tri {nm : Nat → Bool} {Un : List Uf} {Ids : List Nat} {Vx : Nat → Nat → Bool} {nA : Nat} {Y : Nat → Nat} (hY : hUY Un nA Y) : ∀ {Ls : List Nat}, Ls.Pairwise (· < ·) → (∀ i ∈ Ls, rkL nm Un Ids Vx i) → ∃ l, triV (cY nm Y) nA l ∧ l.length = Ls.length ∧ ∀ p ∈ l, ∃ i ∈ Ls, p.1 = i + 1
  | [], _, _ => ⟨[], trivial, rfl, fun p hp => by cases hp⟩
  | i :: Ls, hp, hr => by
    rw [List.pairwise_cons] at hp
    obtain ⟨l, h1, h2, h3⟩ := rk_tri hY hp.2 (fun j hj => hr j (List.mem_cons_of_mem _ hj))
    obtain ⟨b, b1, b2, b3⟩ := rk_vec hY (hr i List.mem_cons_self)
    refine ⟨(i + 1, b) :: l, ⟨b1, b2, b3, fun p hpl => ?_, h1⟩, by simp only [List.length_cons, h2], fun p hpl => ?_⟩
    · obtain ⟨j, hj, e⟩ := h3 p hpl
      have := hp.1 j hj
      show i + 1 < p.1
      omega
    · rcases List.mem_cons.mp hpl with rfl | hpl
      · exact ⟨i, List.mem_cons_self, rfl⟩
      · obtain ⟨j, hj, e⟩ := h3 p hpl
        exact ⟨j, List.mem_cons_of_mem _ hj, e⟩
theorem rk_cnt {nm : Nat → Bool} {Un : List Uf} {Ids : List Nat} {Vx : Nat → Nat → Bool} {nA : Nat} {Y : Nat → Nat} (hY : hUY Un nA Y) {Ls : List Nat} (hp : Ls.Pairwise (· < ·)) (hr : ∀ i ∈ Ls, rkL nm Un Ids Vx i) : Ls.length ≤ nA := by
  obtain ⟨l, h1, h2, _⟩ := rk_tri hY hp hr
  have := triV_len h1
  omega
/-- one goal more, if a second list is below all of them -/
theorem rk_own {nm : Nat → Bool} {Un : List Uf} {Ids : List Nat} {Vx : Nat → Nat → Bool} {nA a : Nat} {Y : Nat → Nat} (hY : hUY Un nA Y) {Ls : List Nat} (hp : Ls.Pairwise (· < ·)) (hr : ∀ i ∈ Ls, rkL nm Un Ids Vx i) (ha : a < nA) (hlo : ∀ i ∈ Ls, Rk nm (Y a) < i) : Ls.length + 1 ≤ nA := by
  obtain ⟨l, h1, h2, h3⟩ := rk_tri hY hp hr
  have sp : spI (cY nm Y) nA (cY nm Y a) := ⟨fun t => if t = a then 1 else 0, fun j => by rw [lc_one ha, Int.one_mul]⟩
  have top : ∀ j, Rk nm (Y a) + 1 < j → cY nm Y a j = 0 := fun j hj => by
    match j, hj with
    | j + 1, hj =>
      show (cnL (lvI nm j) (Y a) : Int) = 0
      rw [cnL_top (by omega) (Y a) (by omega)]
      rfl
  have fin : ∀ s, (cY nm Y a) s ≠ 0 → (∀ j, s < j → cY nm Y a j = 0) → (s ≤ Rk nm (Y a) + 1) → l.length + 1 ≤ nA := fun s s1 s2 s3 => by
    have ht : triV (cY nm Y) nA ((s, cY nm Y a) :: l) := ⟨sp, s1, s2, fun p hpl => by
      obtain ⟨i, hi, e⟩ := h3 p hpl
      have := hlo i hi
      show s < p.1
      omega, h1⟩
    have := triV_len ht
    simp only [List.length_cons] at this
    exact this
  rw [← h2]
  by_cases h9 : Y a ≤ 11
  · refine fin 0 ?_ (fun j hj => ?_) (Nat.zero_le _)
    · show (if Y a ≤ 11 then (1 : Int) else 0) ≠ 0
      rw [if_pos h9]
      decide
    · match j, hj with
      | j + 1, hj =>
        show (cnL (lvI nm j) (Y a) : Int) = 0
        rw [cnL_low h9]
        rfl
  · refine fin (Rk nm (Y a) + 1) ?_ top (Nat.le_refl _)
    show (cnL (lvI nm (Rk nm (Y a))) (Y a) : Int) ≠ 0
    have : 1 ≤ cnL (lvI nm (Rk nm (Y a))) (Y a) := by
      by_cases h1 : 1 ≤ Rk nm (Y a)
      · exact cnL_pos _ h1
      · obtain ⟨x, y, e⟩ := nd_ex (by omega : 11 < Y a)
        have hR : Rk nm (Y a) = 0 := by omega
        rw [hR]
        rw [e] at hR ⊢
        rw [Rk_nd] at hR
        rw [cnL_nd]
        unfold lvI
        rw [if_pos (by omega)]
        omega
    omega
