/-! A SYSTEM: unfolds (goal, copy, what the head comes to, two values), ids, items, letters told -/
abbrev Uf := Nat × Nat × Nat × Nat × Nat
def uA (u : Uf) : Nat := u.1
def uB (u : Uf) : Nat := u.2.1
def uG (u : Uf) : Nat := u.2.2.1
def uL (u : Uf) : Nat := u.2.2.2.1
def uH (u : Uf) : Nat := u.2.2.2.2
/-- the links of an id -/
def Eg (Un : List Uf) (g : Nat) : List (Nat × Nat) := (Un.filter (fun u => decide (uG u = g))).map (fun u => (uL u, uH u))
theorem Eg_mem {Un : List Uf} {g x y : Nat} : (x, y) ∈ Eg Un g ↔ ∃ u ∈ Un, uG u = g ∧ uL u = x ∧ uH u = y := by
  unfold Eg
  rw [List.mem_map]
  constructor
  · rintro ⟨u, hu, e⟩
    rw [List.mem_filter, decide_eq_true_eq] at hu
    cases e
    exact ⟨u, hu.1, hu.2, rfl, rfl⟩
  · rintro ⟨u, h1, h2, h3, h4⟩
    exact ⟨u, List.mem_filter.mpr ⟨h1, decide_eq_true h2⟩, by rw [h3, h4]⟩
/-- the links that join two -/
def nG (nm : Nat → Bool) (Un : List Uf) (g : Nat) : Nat := Un.countP (fun u => decide (uG u = g) && decide (fC nm (uL u) ≠ fC nm (uH u)))
def nE (nm : Nat → Bool) (gv : Nat → Nat) (Un : List Uf) (d : Nat) : Nat := Un.countP (fun u => decide (gv (uG u) = d) && decide (fC nm (uL u) ≠ fC nm (uH u)))
theorem nG_eq {nm : Nat → Bool} {Un : List Uf} {g : Nat} : ((Eg Un g).map (fun e => (fC nm e.1, fC nm e.2))).countP (fun e => decide (e.1 ≠ e.2)) = nG nm Un g := by
  unfold Eg nG
  rw [List.map_map, List.countP_map, List.countP_filter]
  congr 1
  funext u
  simp only [Function.comp, Bool.and_comm]
theorem vx_le {nm sg : Nat → Bool} {Un : List Uf} {It : Nat → List Nat} {Vx : Nat → Nat → Bool} {g n : Nat} (hJ : ∀ w, Vx g w = true → ∃ a ∈ It g, Lnk (Eg Un g) a w) : (spn sg n).countP (Vx g) ≤ (It g).length + nG nm Un g := by
  have h := lnk_cnt (E := Eg Un g) (A := It g) (S := (spn sg n).filter (Vx g)) (fC nm) ((spn_nodup n).filter _) (fun x hx y hy e => fC_inj (List.mem_filter.mp hx).1 (List.mem_filter.mp hy).1 e) (fun x hx => hJ x (List.mem_filter.mp hx).2)
  rw [nG_eq] at h
  rw [List.countP_eq_length_filter]
  exact h
theorem sumB_nG {nm : Nat → Bool} {Ids : List Nat} {gv : Nat → Nat} {d : Nat} (hn : Ids.Nodup) : ∀ Un : List Uf, sumB (fun g => if gv g = d then nG nm Un g else 0) Ids ≤ nE nm gv Un d
  | [] => by
    refine Nat.le_of_eq ?_
    rw [show (fun g => if gv g = d then nG nm [] g else 0) = fun _ => 0 from funext fun g => by
      by_cases e : gv g = d
      · rw [if_pos e]; rfl
      · rw [if_neg e]]
    exact sumB_zero _
  | u :: Un => by
    have ih := sumB_nG (nm := nm) (gv := gv) (d := d) hn Un
    have e : (fun g => if gv g = d then nG nm (u :: Un) g else 0) = fun g => (if gv g = d then nG nm Un g else 0) + (if uG u = g then (if (decide (gv (uG u) = d) && decide (fC nm (uL u) ≠ fC nm (uH u))) = true then 1 else 0) else 0) := funext fun g => by
      unfold nG
      rw [List.countP_cons]
      by_cases e1 : uG u = g
      · subst e1
        by_cases e2 : gv (uG u) = d
        · simp only [e2, if_true, decide_true, Bool.true_and]
        · simp only [e2, if_false, decide_false, Bool.false_and, Bool.false_eq_true, if_true]
      · simp only [e1, if_false, decide_false, Bool.false_and, Bool.false_eq_true, Nat.add_zero]
    rw [e, sumB_add]
    have := sumB_pick (d := uG u) (c := if (decide (gv (uG u) = d) && decide (fC nm (uL u) ≠ fC nm (uH u))) = true then 1 else 0) hn
    unfold nE at ih ⊢
    rw [List.countP_cons]
    omega
/-- how often a letter is told -/
def itS (Ids : List Nat) (gv : Nat → Nat) (It : Nat → List Nat) (d : Nat) : Nat := sumB (fun g => if gv g = d then (It g).length else 0) Ids
theorem vcn_le {nm sg : Nat → Bool} {Un : List Uf} {Ids : List Nat} {gv : Nat → Nat} {It : Nat → List Nat} {Vx : Nat → Nat → Bool} {n d : Nat} (hn : Ids.Nodup) (hJ : ∀ g ∈ Ids, ∀ w, Vx g w = true → ∃ a ∈ It g, Lnk (Eg Un g) a w) : vcn sg Ids gv Vx n d ≤ itS Ids gv It d + nE nm gv Un d := by
  have h1 : vcn sg Ids gv Vx n d ≤ sumB (fun g => (if gv g = d then (It g).length else 0) + if gv g = d then nG nm Un g else 0) Ids := by
    refine sumB_le (fun g hg => ?_)
    by_cases e : gv g = d
    · rw [if_pos e, if_pos e, if_pos e]
      exact vx_le (hJ g hg)
    · rw [if_neg e]
      exact Nat.zero_le _
  rw [sumB_add] at h1
  have := sumB_nG (nm := nm) (gv := gv) (d := d) hn Un
  unfold itS
  omega
/-- a level on which two linked values differ first -/
def rkL (nm : Nat → Bool) (Un : List Uf) (Ids : List Nat) (Vx : Nat → Nat → Bool) (i : Nat) : Prop := ∃ g ∈ Ids, ∃ w u, Vx g w = true ∧ Vx g u = true ∧ Lnk (Eg Un g) w u ∧ gap nm w u i ∧ lev nm (dn1 w) ≤ i
/-- with no such level: the vertices are at most the items -/
theorem vcn_stat {nm sg : Nat → Bool} {Un : List Uf} {Ids : List Nat} {gv : Nat → Nat} {It : Nat → List Nat} {Vx : Nat → Nat → Bool} {n d : Nat} (hd : 1 ≤ lev nm d) (hJ : ∀ g ∈ Ids, ∀ w, Vx g w = true → ∃ a ∈ It g, Lnk (Eg Un g) a w) (hg : ∀ g ∈ Ids, ∀ w, Vx g w = true → gv g = dn1 w) (hr : ∀ i, lev nm d ≤ i → i ≤ Rk nm n → ¬ rkL nm Un Ids Vx i) : vcn sg Ids gv Vx n d ≤ itS Ids gv It d := by
  refine sumB_le (fun g hgi => ?_)
  by_cases e : gv g = d
  · rw [if_pos e, if_pos e, List.countP_eq_length_filter]
    refine inj_len (R := fun w a => Lnk (Eg Un g) a w) _ _ ((spn_nodup n).filter _) (fun w hw => hJ g hgi w (List.mem_filter.mp hw).2) ?_
    have one : ∀ w ∈ spn sg n, ∀ u ∈ spn sg n, Vx g w = true → Vx g u = true → Lnk (Eg Un g) w u → (∃ k, sfx k w u) → w = u := by
      intro w hw u hu vw vu hl hk
      obtain ⟨k, hk⟩ := hk
      match k, hk with
      | 0, hk => exact hk
      | k + 1, hk =>
        exfalso
        have e1 : dn1 w = d := by rw [← hg g hgi w vw, e]
        obtain ⟨i, h1, h2, h3⟩ := gap_ex (nm := nm) hk (by rw [e1]; exact hd)
        obtain ⟨k2, hk2⟩ := spn_sfx n w hw
        have := sfx_Rk (nm := nm) hk2
        exact hr i (by rw [← e1]; exact h1) (by omega) ⟨g, hgi, w, u, vw, vu, hl, h3, h1⟩
    intro w hw u hu a r1 r2
    rw [List.mem_filter] at hw hu
    have hl : Lnk (Eg Un g) w u := r1.symm'.trans' r2
    rcases spn_two n w u hw.1 hu.1 with hk | hk
    · exact one w hw.1 u hu.1 hw.2 hu.2 hl hk
    · exact (one u hu.1 w hw.1 hu.2 hw.2 hl.symm' hk).symm
  · rw [if_neg e, if_neg e]
    exact Nat.le_refl _
/-- what is told of a level -/
def tL (nm : Nat → Bool) (P : List Nat) (i : Nat) : Nat := sumB (fun p => if 11 < p ∧ lev nm p = i then eL nm p else 0) P
theorem tL_sum {nm : Nat → Bool} {Ds : List Nat} {i : Nat} (hn : Ds.Nodup) (hd : ∀ d ∈ Ds, 11 < d) : ∀ P : List Nat, sumB (fun d => if lev nm d = i then eL nm d * P.count d else 0) Ds ≤ tL nm P i
  | [] => by
    refine Nat.le_of_eq ?_
    rw [show (fun d => if lev nm d = i then eL nm d * List.count d [] else 0) = fun _ => 0 from funext fun d => by simp]
    exact sumB_zero _
  | p :: P => by
    have ih := tL_sum (nm := nm) (i := i) hn hd P
    have h1 : sumB (fun d => if lev nm d = i then eL nm d * (p :: P).count d else 0) Ds ≤ sumB (fun d => (if lev nm d = i then eL nm d * P.count d else 0) + if p = d then (if 11 < p ∧ lev nm p = i then eL nm p else 0) else 0) Ds := by
      refine sumB_le (fun d hdm => ?_)
      by_cases e1 : p = d
      · subst e1
        by_cases e2 : lev nm p = i
        · rw [if_pos e2, if_pos e2, if_pos rfl, if_pos ⟨hd p hdm, e2⟩, List.count_cons_self, Nat.mul_add, Nat.mul_one]
          exact Nat.le_refl _
        · rw [if_neg e2]
          exact Nat.zero_le _
      · rw [if_neg e1, List.count_cons_of_ne e1]
        exact Nat.le_refl _
    rw [sumB_add] at h1
    have := sumB_pick (d := p) (c := if 11 < p ∧ lev nm p = i then eL nm p else 0) hn
    have e : tL nm (p :: P) i = (if 11 < p ∧ lev nm p = i then eL nm p else 0) + tL nm P i := rfl
    omega
theorem tL_one {nm : Nat → Bool} {P : List Nat} {d : Nat} (h : d ∈ P) (hd : 11 < d) : eL nm d ≤ tL nm P (lev nm d) := by
  have := sumB_one (f := fun p => if 11 < p ∧ lev nm p = lev nm d then eL nm p else 0) h
  simp only [hd, true_and, if_true] at this
  exact this
/-- what a level costs on a spine -/
def cLv (nm tn sg : Nat → Bool) (Ds : List Nat) (LL : Nat → Nat) (n i : Nat) : Nat := sumB (fun d => if lev nm d = i then cst tn sg n d (eL nm d * LL (i - 1)) else 0) Ds
def wL (nm : Nat → Bool) (gv : Nat → Nat) (Un : List Uf) (Ds : List Nat) (i : Nat) : Nat := sumB (fun d => if lev nm d = i then eL nm d * nE nm gv Un d else 0) Ds
def nL (nm : Nat → Bool) (gv : Nat → Nat) (Un : List Uf) (Ds : List Nat) (i : Nat) : Nat := sumB (fun d => if lev nm d = i then nE nm gv Un d else 0) Ds
theorem cLv_gen {nm tn sg : Nat → Bool} {Ds : List Nat} {LL F : Nat → Nat} {n i M : Nat} (h : ∀ d ∈ Ds, lev nm d = i → cst tn sg n d (eL nm d * LL (i - 1)) ≤ LL (i - 1) * F d) (hF : sumB (fun d => if lev nm d = i then F d else 0) Ds ≤ M) : cLv nm tn sg Ds LL n i ≤ LL (i - 1) * M := by
  refine Nat.le_trans ?_ (Nat.mul_le_mul_left _ hF)
  rw [← sumB_mul]
  refine sumB_le (fun d hd => ?_)
  by_cases e : lev nm d = i
  · rw [if_pos e, if_pos e]
    exact h d hd e
  · rw [if_neg e]
    exact Nat.zero_le _
