/-! LETTERS: a list's leaves, letter by letter -/
theorem sumB_one {f : Nat → Nat} {g : Nat} : ∀ {l : List Nat}, g ∈ l → f g ≤ sumB f l
  | [], h => by cases h
  | x :: l, h => by
    simp only [sumB]
    rcases List.mem_cons.mp h with rfl | h
    · omega
    · have := sumB_one (f := f) h
      omega
theorem sumB_two {f : Nat → Nat} {g k : Nat} (hne : g ≠ k) : ∀ {l : List Nat}, g ∈ l → k ∈ l → f g + f k ≤ sumB f l
  | [], h, _ => by cases h
  | x :: l, h1, h2 => by
    simp only [sumB]
    rcases List.mem_cons.mp h1 with e1 | h1
    · rcases List.mem_cons.mp h2 with e2 | h2
      · exact absurd (e1.trans e2.symm) hne
      · have := sumB_one (f := f) h2
        rw [← e1]
        omega
    · rcases List.mem_cons.mp h2 with e2 | h2
      · have := sumB_one (f := f) h1
        rw [← e2]
        omega
      · have := sumB_two (f := f) hne h1 h2
        omega
/-- at most one of distinct numbers is d -/
theorem sumB_pick {d c : Nat} : ∀ {l : List Nat}, l.Nodup → sumB (fun x => if d = x then c else 0) l ≤ c
  | [], _ => Nat.zero_le _
  | x :: l, h => by
    rw [List.nodup_cons] at h
    simp only [sumB]
    by_cases e : d = x
    · rw [if_pos e]
      have : sumB (fun x => if d = x then c else 0) l = 0 := by
        have hz : ∀ m : List Nat, d ∉ m → sumB (fun x => if d = x then c else 0) m = 0 := by
          intro m
          induction m with
          | nil => intro _; rfl
          | cons y m ih =>
            intro hm
            simp only [sumB]
            rw [if_neg (fun q => hm (by rw [q]; exact List.mem_cons_self)), ih (fun q => hm (List.mem_cons_of_mem _ q))]
        exact hz l (by rw [e]; exact h.1)
      omega
    · rw [if_neg e]
      have := sumB_pick (d := d) (c := c) h.2
      omega
def nod (sg : Nat → Bool) (n d : Nat) : Nat := (spn sg n).countP (fun w => decide (dn1 w = d))
def tau (tn sg : Nat → Bool) (n d : Nat) : Nat := (spn sg n).countP (fun w => decide (dn1 w = d) && tn w)
def lfs (sg : Nat → Bool) (n : Nat) : Nat := (spn sg n).countP (fun w => decide (dn1 w ≤ 11))
/-- what the nodes of a letter cost, when what is in it costs B -/
def cst (tn sg : Nat → Bool) (n d B : Nat) : Nat := 2 * B * tau tn sg n d + 2 * (nod sg n d - tau tn sg n d)
theorem tau_le {tn sg : Nat → Bool} {n d : Nat} : tau tn sg n d ≤ nod sg n d := by
  unfold tau nod
  refine List.countP_mono_left (fun x _ h => ?_)
  simp only [Bool.and_eq_true] at h
  exact h.1
theorem sumB_cst {tn : Nat → Bool} {d B : Nat} : ∀ l : List Nat, sumB (fun w => if dn1 w = d then (if tn w = true then 2 * B else 2) else 0) l = 2 * B * l.countP (fun w => decide (dn1 w = d) && tn w) + 2 * (l.countP (fun w => decide (dn1 w = d)) - l.countP (fun w => decide (dn1 w = d) && tn w))
  | [] => rfl
  | w :: l => by
    have hle : l.countP (fun w => decide (dn1 w = d) && tn w) ≤ l.countP (fun w => decide (dn1 w = d)) := List.countP_mono_left (fun x _ h => by
      simp only [Bool.and_eq_true] at h
      exact h.1)
    simp only [sumB, List.countP_cons]
    rw [sumB_cst l]
    by_cases h1 : dn1 w = d
    · cases h2 : tn w with
      | true =>
        simp only [h1, decide_true, Bool.true_and, if_true]
        rw [Nat.mul_add]
        omega
      | false =>
        simp only [h1, decide_true, Bool.true_and, if_true, Bool.false_eq_true, if_false, Bool.and_false, Nat.add_zero]
        omega
    · simp only [h1, decide_false, Bool.false_and, Bool.false_eq_true, if_false, Nat.add_zero]
      omega
theorem lam_let {nm tn sg : Nat → Bool} {Ds : List Nat} {B : Nat → Nat} {n : Nat} (hD : ∀ w ∈ spn sg n, 11 < dn1 w → dn1 w ∈ Ds) (hB : ∀ d ∈ Ds, muL nm tn sg d ≤ B d) :
    2 * lam nm tn sg n ≤ 2 + 2 * lfs sg n + sumB (fun d => cst tn sg n d (B d)) Ds := by
  have hp : ∀ w ∈ spn sg n, 2 * (if tn w = true then muL nm tn sg (dn1 w) else 1) ≤ (if decide (dn1 w ≤ 11) = true then 2 else 0) + sumB (fun d => if dn1 w = d then (if tn w = true then 2 * B d else 2) else 0) Ds := by
    intro w hw
    by_cases hd : dn1 w ≤ 11
    · rw [if_pos (show decide (dn1 w ≤ 11) = true from decide_eq_true hd)]
      rw [muL_low hd]
      by_cases ht : tn w = true
      · rw [if_pos ht]; omega
      · rw [if_neg ht]; omega
    · have hm := hD w hw (by omega)
      have := sumB_one (f := fun d => if dn1 w = d then (if tn w = true then 2 * B d else 2) else 0) hm
      simp only [if_true] at this
      have hb := hB _ hm
      by_cases ht : tn w = true
      · rw [if_pos ht] at this ⊢
        omega
      · rw [if_neg ht] at this ⊢
        omega
  have h3 := sumB_le hp
  rw [sumB_mul, sumB_add, sumB_ind, sumB_swap] at h3
  have h4 : sumB (fun g => sumB (fun w => if dn1 w = g then (if tn w = true then 2 * B g else 2) else 0) (spn sg n)) Ds = sumB (fun d => cst tn sg n d (B d)) Ds := by
    congr 1
    funext g
    exact sumB_cst _
  rw [h4] at h3
  rw [lam_spn]
  unfold lfs
  omega
/-- the vertices of a letter on a spine, once for each of its ids -/
def vcn (sg : Nat → Bool) (Ids : List Nat) (gv : Nat → Nat) (Vx : Nat → Nat → Bool) (n d : Nat) : Nat := sumB (fun g => if gv g = d then (spn sg n).countP (Vx g) else 0) Ids
theorem vcn_ge {tn sg : Nat → Bool} {Ids : List Nat} {gv : Nat → Nat} {Vx : Nat → Nat → Bool} {n d : Nat} (hd : 11 < d)
    (h1 : ∀ w ∈ spn sg n, 11 < dn1 w → ∃ g ∈ Ids, gv g = dn1 w ∧ Vx g w = true)
    (h2 : ∀ w ∈ spn sg n, 11 < dn1 w → tn w = true → ∃ g ∈ Ids, ∃ k ∈ Ids, g ≠ k ∧ (gv g = dn1 w ∧ Vx g w = true) ∧ gv k = dn1 w ∧ Vx k w = true) :
    nod sg n d + tau tn sg n d ≤ vcn sg Ids gv Vx n d := by
  have hp : ∀ w ∈ spn sg n, (if decide (dn1 w = d) = true then 1 else 0) + (if (decide (dn1 w = d) && tn w) = true then 1 else 0) ≤ sumB (fun g => if (decide (gv g = d) && Vx g w) = true then 1 else 0) Ids := by
    intro w hw
    by_cases e : dn1 w = d
    · have val : ∀ g, gv g = dn1 w → Vx g w = true → (if (decide (gv g = d) && Vx g w) = true then 1 else 0) = 1 := fun g e1 e2 => by
        rw [e2, e1, e]
        simp
      cases ht : tn w with
      | true =>
        obtain ⟨g, hg, k, hk, hne, ⟨e1, e2⟩, e3, e4⟩ := h2 w hw (by omega) ht
        have := sumB_two (f := fun g => if (decide (gv g = d) && Vx g w) = true then 1 else 0) hne hg hk
        rw [val g e1 e2, val k e3 e4] at this
        simp only [e, decide_true, if_true, Bool.and_self]
        omega
      | false =>
        obtain ⟨g, hg, e1, e2⟩ := h1 w hw (by omega)
        have := sumB_one (f := fun g => if (decide (gv g = d) && Vx g w) = true then 1 else 0) hg
        rw [val g e1 e2] at this
        simp only [e, decide_true, if_true, Bool.and_false, Bool.false_eq_true, if_false]
        omega
    · simp only [e, decide_false, Bool.false_and, Bool.false_eq_true, if_false]
      omega
  have h3 := sumB_le hp
  rw [sumB_add, sumB_ind, sumB_ind, sumB_swap, Nat.one_mul, Nat.one_mul] at h3
  refine Nat.le_trans h3 (Nat.le_of_eq ?_)
  unfold vcn
  congr 1
  funext g
  by_cases e : gv g = d
  · simp only [e, decide_true, Bool.true_and, if_true]
    have := sumB_ind (Vx g) 1 (spn sg n)
    rw [Nat.one_mul] at this
    exact this
  · simp only [e, decide_false, Bool.false_and, Bool.false_eq_true, if_false]
    exact sumB_zero _
/-- what a letter's nodes cost, against its vertices -/
theorem cst_le {tn sg : Nat → Bool} {n d B v : Nat} (hB : 2 ≤ B) (hv : nod sg n d + tau tn sg n d ≤ v) : cst tn sg n d B ≤ B * v := by
  have h1 := tau_le (tn := tn) (sg := sg) (n := n) (d := d)
  unfold cst
  obtain ⟨x, hx⟩ := Nat.le.dest h1
  have h2 : 2 * x ≤ B * x := Nat.mul_le_mul_right x hB
  have h3 : B * (nod sg n d + tau tn sg n d) ≤ B * v := Nat.mul_le_mul_left B hv
  rw [← hx] at h3
  rw [← hx]
  have e1 : tau tn sg n d + x - tau tn sg n d = x := by omega
  have e2 : B * (tau tn sg n d + x + tau tn sg n d) = 2 * B * tau tn sg n d + B * x := by
    rw [Nat.mul_add, Nat.mul_add, Nat.mul_assoc 2, Nat.two_mul]
    omega
  rw [e1]
  omega
/-- with one node that turns at most -/
theorem cst_one {tn sg : Nat → Bool} {n d B t u : Nat} (hB : 2 ≤ B) (hv : nod sg n d + tau tn sg n d ≤ 2 * t + u) (h1 : tau tn sg n d ≤ 1) (ht : nod sg n d = 0 ∨ 1 ≤ t) : cst tn sg n d B ≤ B * (2 * t) + 2 * u := by
  have h0 := tau_le (tn := tn) (sg := sg) (n := n) (d := d)
  unfold cst
  rcases ht with ht | ht
  · rw [show tau tn sg n d = 0 by omega, ht]
    simp
  · obtain ⟨s, hs⟩ := Nat.le.dest ht
    have h4 : 2 * s ≤ B * s := Nat.mul_le_mul_right s hB
    have e1 : B * (2 * t) = 2 * B + 2 * (B * s) := by
      rw [← hs, Nat.mul_add, Nat.mul_add, Nat.mul_left_comm B 2 s]
      omega
    rw [e1]
    rcases Nat.le_one_iff_eq_zero_or_eq_one.mp h1 with h | h
    · rw [h] at hv ⊢
      omega
    · rw [h] at hv ⊢
      omega
