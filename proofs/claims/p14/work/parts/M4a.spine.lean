/-! SPINES: counts of letters, lists put behind lists -/
/-- the letters of a whole spine, weighed -/
def cnL (f : Nat → Nat) : Nat → Nat := vrc (fun _ => 0) (fun n _ b => f (dn1 n) + b)
theorem cnL_low {f : Nat → Nat} {n : Nat} (h : n ≤ 11) : cnL f n = 0 := by unfold cnL; rw [vrc_low h]
theorem cnL_nd (f : Nat → Nat) (x y : Nat) : cnL f (nd x y) = f x + cnL f y := by unfold cnL; rw [vrc_nd, dn1_nd]
/-- z is the proper list x with y behind it -/
def catV : Nat → Nat → Nat → Nat → Prop
  | 0, x, y, z => x = 10 ∧ z = y
  | n + 1, x, y, z => ∃ h t u, x = nd h t ∧ z = nd h u ∧ catV n t y u
theorem catV_cn (f : Nat → Nat) : ∀ {n x y z : Nat}, catV n x y z → cnL f z = cnL f x + cnL f y
  | 0, x, y, z, h => by
    obtain ⟨rfl, rfl⟩ := h
    rw [cnL_low (n := 10) (by omega)]
    omega
  | n + 1, x, y, z, h => by
    obtain ⟨a, t, u, rfl, rfl, h⟩ := h
    rw [cnL_nd, cnL_nd, catV_cn f h]
    omega
theorem catV_Rk (nm : Nat → Bool) : ∀ {n x y z : Nat}, catV n x y z → Rk nm z = max (Rk nm x) (Rk nm y)
  | 0, x, y, z, h => by
    obtain ⟨rfl, rfl⟩ := h
    rw [Rk_low (n := 10) (by omega)]
    omega
  | n + 1, x, y, z, h => by
    obtain ⟨a, t, u, rfl, rfl, h⟩ := h
    rw [Rk_nd, Rk_nd, catV_Rk nm h]
    omega
/-- letters of a level -/
def lvI (nm : Nat → Bool) (s : Nat) (d : Nat) : Nat := if lev nm d = s then 1 else 0
theorem cnL_top {nm : Nat → Bool} {s : Nat} (hs : 1 ≤ s) : ∀ n, Rk nm n < s → cnL (lvI nm s) n = 0 := by
  refine v_ind (fun n h _ => cnL_low h) (fun x y _ h2 h => ?_)
  rw [Rk_nd] at h
  rw [cnL_nd, h2 (by omega)]
  unfold lvI
  rw [if_neg (by omega)]
theorem cnL_pos {nm : Nat → Bool} : ∀ n, 1 ≤ Rk nm n → 1 ≤ cnL (lvI nm (Rk nm n)) n := by
  have : ∀ n s, Rk nm n = s → 1 ≤ s → 1 ≤ cnL (lvI nm s) n := by
    refine v_ind (fun n h s e hs => ?_) (fun x y _ h2 s e hs => ?_)
    · rw [Rk_low h] at e; omega
    · rw [Rk_nd] at e
      rw [cnL_nd]
      by_cases hx : lev nm x = s
      · unfold lvI
        rw [if_pos hx]
        omega
      · have := h2 s (by omega) hs
        omega
  exact fun n h => this n _ rfl h
/-- w is a proper end of n's spine -/
def sfx : Nat → Nat → Nat → Prop
  | 0, n, w => n = w
  | k + 1, n, w => ∃ x y, n = nd x y ∧ sfx k y w
theorem sfx_Rk {nm : Nat → Bool} : ∀ {k n w : Nat}, sfx k n w → Rk nm w ≤ Rk nm n
  | 0, _, _, h => by
    have h : _ = _ := h
    rw [h]
    exact Nat.le_refl _
  | k + 1, n, w, ⟨x, y, e, h⟩ => by
    have := sfx_Rk (nm := nm) h
    rw [e, Rk_nd]
    omega
theorem sfx_cn {f : Nat → Nat} : ∀ {k n w : Nat}, sfx k n w → cnL f w ≤ cnL f n
  | 0, _, _, h => by
    have h : _ = _ := h
    rw [h]
    exact Nat.le_refl _
  | k + 1, n, w, ⟨x, y, e, h⟩ => by
    have := sfx_cn (f := f) h
    rw [e, cnL_nd]
    omega
/-- a spine's values: each an end of those before it -/
theorem spn_sfx {sg : Nat → Bool} : ∀ n w, w ∈ spn sg n → ∃ k, sfx k n w := by
  refine v_ind (fun n h w hw => ?_) (fun x y h1 h2 w hw => ?_)
  · rw [spn_low h] at hw; cases hw
  · cases h : sg (nd x y) with
    | true => rw [spn_sg h] at hw; cases hw
    | false =>
      rw [spn_nd h] at hw
      rcases List.mem_cons.mp hw with rfl | hw
      · exact ⟨0, rfl⟩
      · obtain ⟨k, hk⟩ := h2 w hw
        exact ⟨k + 1, x, y, rfl, hk⟩
theorem spn_nodup {sg : Nat → Bool} : ∀ n, (spn sg n).Nodup := by
  refine v_ind (fun n h => ?_) (fun x y h1 h2 => ?_)
  · rw [spn_low h]; exact List.nodup_nil
  · cases h : sg (nd x y) with
    | true => rw [spn_sg h]; exact List.nodup_nil
    | false =>
      rw [spn_nd h, List.nodup_cons]
      refine ⟨fun q => ?_, h2⟩
      obtain ⟨_, _, _, _, hle⟩ := spn_mem y _ q
      have := nd_gt2 x y
      omega
theorem sumB_add (f g : Nat → Nat) : ∀ l : List Nat, sumB (fun w => f w + g w) l = sumB f l + sumB g l
  | [] => rfl
  | w :: l => by simp only [sumB, sumB_add f g l]; omega
theorem sumB_le {f g : Nat → Nat} : ∀ {l : List Nat}, (∀ w ∈ l, f w ≤ g w) → sumB f l ≤ sumB g l
  | [], _ => Nat.le_refl _
  | w :: l, h => by
    have h1 := h w List.mem_cons_self
    have h2 := sumB_le (fun u hu => h u (List.mem_cons_of_mem _ hu))
    simp only [sumB]
    omega
theorem sumB_mul (c : Nat) (f : Nat → Nat) : ∀ l : List Nat, sumB (fun w => c * f w) l = c * sumB f l
  | [] => rfl
  | w :: l => by simp only [sumB, sumB_mul c f l, Nat.mul_add]
theorem sumB_zero : ∀ l : List Nat, sumB (fun _ => 0) l = 0
  | [] => rfl
  | _ :: l => by simp only [sumB, sumB_zero l]
theorem sumB_swap (f : Nat → Nat → Nat) : ∀ (l m : List Nat), sumB (fun w => sumB (fun g => f w g) m) l = sumB (fun g => sumB (fun w => f w g) l) m
  | [], m => by simp only [sumB]; rw [sumB_zero]
  | w :: l, m => by
    simp only [sumB]
    rw [sumB_swap f l m, ← sumB_add]
theorem sumB_ind (p : Nat → Bool) (c : Nat) : ∀ l : List Nat, sumB (fun w => if p w = true then c else 0) l = c * l.countP p
  | [] => rfl
  | w :: l => by
    simp only [sumB, sumB_ind p c l, List.countP_cons]
    by_cases h : p w = true
    · rw [if_pos h, if_pos h, Nat.mul_add]; omega
    · rw [if_neg h, if_neg h, Nat.add_zero]; omega
