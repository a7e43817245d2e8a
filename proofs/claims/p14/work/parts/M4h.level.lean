/-! ONE LEVEL: what it costs on a name's spine -/
theorem by_lev {nm : Nat → Bool} {F : Nat → Nat} {j : Nat} : ∀ (Ds : List Nat), (∀ d ∈ Ds, F d ≠ 0 → 1 ≤ lev nm d ∧ lev nm d ≤ j) → sumB F Ds ≤ sumN (fun i => sumB (fun d => if lev nm d = i + 1 then F d else 0) Ds) j
  | [], _ => Nat.zero_le _
  | d :: Ds, h => by
    have ih := by_lev Ds (fun x hx => h x (List.mem_cons_of_mem _ hx))
    have e : sumN (fun i => sumB (fun d => if lev nm d = i + 1 then F d else 0) (d :: Ds)) j = sumN (fun i => if lev nm d = i + 1 then F d else 0) j + sumN (fun i => sumB (fun d => if lev nm d = i + 1 then F d else 0) Ds) j := by
      rw [← sumN_add]
      rfl
    rw [e]
    simp only [sumB]
    refine Nat.add_le_add ?_ ih
    by_cases hz : F d = 0
    · omega
    · obtain ⟨q1, q2⟩ := h d List.mem_cons_self hz
      have := sumN_mem (f := fun i => if lev nm d = i + 1 then F d else 0) (n := j) (i := lev nm d - 1) (by omega)
      rw [if_pos (show lev nm d = lev nm d - 1 + 1 by omega)] at this
      exact this
/-- what lies in the system, for the counts -/
def syV (nm tn sg : Nat → Bool) (Un : List Uf) (Ids Ds P : List Nat) (gv : Nat → Nat) (It : Nat → List Nat) (Vx : Nat → Nat → Bool) (LV : Nat → Prop) : Prop :=
  (Ids.Nodup ∧ Ds.Nodup ∧ ∀ d ∈ Ds, 11 < d) ∧ (∀ g ∈ Ids, 11 < gv g → gv g ∈ Ds) ∧
  (∀ g ∈ Ids, 11 < gv g → ∀ w, Vx g w = true → (∃ t, w = nd (gv g) t) ∧ ∃ a ∈ It g, Lnk (Eg Un g) a w) ∧
  (∀ g ∈ Ids, gv g ≤ 11 → ∀ w, Vx g w = false) ∧
  (∀ u ∈ Un, 11 < gv (uG u) → uG u ∈ Ids ∧ Vx (uG u) (uL u) = true ∧ Vx (uG u) (uH u) = true) ∧
  (∀ d ∈ Ds, itS Ids gv It d ≤ 2 * P.count d) ∧
  (∀ w, LV w → 11 < w → sg w = false → 11 < dn1 w → ∃ g ∈ Ids, gv g = dn1 w ∧ Vx g w = true) ∧
  (∀ w, LV w → 11 < w → sg w = false → 11 < dn1 w → tn w = true → ∃ g ∈ Ids, ∃ k ∈ Ids, g ≠ k ∧ (gv g = dn1 w ∧ Vx g w = true) ∧ gv k = dn1 w ∧ Vx k w = true) ∧
  (∀ x y, LV (nd x y) → LV y)
section
variable {nm tn sg : Nat → Bool} {Un : List Uf} {Ids Ds P : List Nat} {gv : Nat → Nat} {It : Nat → List Nat} {Vx : Nat → Nat → Bool} {LV : Nat → Prop}
theorem spn_LV (h : ∀ x y, LV (nd x y) → LV y) : ∀ n, LV n → ∀ w ∈ spn sg n, LV w := by
  refine v_ind (fun n hn _ w hw => ?_) (fun x y _ h2 hl w hw => ?_)
  · rw [spn_low hn] at hw; cases hw
  · cases hs : sg (nd x y) with
    | true => rw [spn_sg hs] at hw; cases hw
    | false =>
      rw [spn_nd hs] at hw
      rcases List.mem_cons.mp hw with rfl | hw
      · exact hl
      · exact h2 (h x y hl) w hw
theorem spn_all (h : ∀ x y, LV (nd x y) → LV y) {n : Nat} (hn : LV n) {w : Nat} (hw : w ∈ spn sg n) : LV w ∧ 11 < w ∧ sg w = false := by
  obtain ⟨x, y, e, hs, _⟩ := spn_mem n w hw
  exact ⟨spn_LV h n hn w hw, by rw [e]; exact nd_big x y, hs⟩
theorem sy_ge (h : syV nm tn sg Un Ids Ds P gv It Vx LV) {n : Nat} (hn : LV n) {d : Nat} (hd : 11 < d) : nod sg n d + tau tn sg n d ≤ vcn sg Ids gv Vx n d := by
  obtain ⟨_, _, _, _, _, _, h1, h2, h3⟩ := h
  exact vcn_ge hd (fun w hw => by
    obtain ⟨a, b, c⟩ := spn_all h3 hn hw
    exact h1 w a b c) (fun w hw => by
    obtain ⟨a, b, c⟩ := spn_all h3 hn hw
    exact h2 w a b c)
theorem sy_J (h : syV nm tn sg Un Ids Ds P gv It Vx LV) : ∀ g ∈ Ids, ∀ w, Vx g w = true → (∃ a ∈ It g, Lnk (Eg Un g) a w) ∧ gv g = dn1 w ∧ 11 < gv g := by
  intro g hg w hw
  by_cases q : 11 < gv g
  · obtain ⟨⟨t, e⟩, q2⟩ := h.2.2.1 g hg q w hw
    exact ⟨q2, by rw [e, dn1_nd], q⟩
  · have := h.2.2.2.1 g hg (by omega) w
    rw [hw] at this
    cases this
theorem sy_vcn (h : syV nm tn sg Un Ids Ds P gv It Vx LV) {n d : Nat} (hd : d ∈ Ds) : vcn sg Ids gv Vx n d ≤ 2 * P.count d + nE nm gv Un d := by
  have h1 := vcn_le (nm := nm) (sg := sg) (n := n) (d := d) (gv := gv) h.1.1 (fun g hg w hw => (sy_J h g hg w hw).1)
  have := h.2.2.2.2.2.1 d hd
  omega
theorem sy_stat (h : syV nm tn sg Un Ids Ds P gv It Vx LV) {n d : Nat} (hd : d ∈ Ds) (hr : ∀ i, lev nm d ≤ i → i ≤ Rk nm n → ¬ rkL nm Un Ids Vx i) : vcn sg Ids gv Vx n d ≤ 2 * P.count d := by
  have hl : 1 ≤ lev nm d := by
    obtain ⟨x, y, rfl⟩ := nd_ex (h.1.2.2 d hd)
    exact lev_pos nm x y
  have h1 := vcn_stat (sg := sg) (n := n) (d := d) hl (fun g hg w hw => (sy_J h g hg w hw).1) (fun g hg w hw => (sy_J h g hg w hw).2.1) hr
  have := h.2.2.2.2.2.1 d hd
  omega
/-- a vertex: the letter is told -/
theorem sy_told (h : syV nm tn sg Un Ids Ds P gv It Vx LV) {g w : Nat} (hg : g ∈ Ids) (hw : Vx g w = true) : gv g ∈ P ∧ gv g ∈ Ds := by
  obtain ⟨⟨a, ha, _⟩, _, q⟩ := sy_J h g hg w hw
  have hds := h.2.1 g hg q
  refine ⟨?_, hds⟩
  have h1 := h.2.2.2.2.2.1 _ hds
  have h2 := sumB_one (f := fun k => if gv k = gv g then (It k).length else 0) hg
  simp only [if_true] at h2
  have : 0 < (It g).length := List.length_pos_of_mem ha
  unfold itS at h1
  exact List.count_pos_iff.mp (by omega)
theorem sy_nE (h : syV nm tn sg Un Ids Ds P gv It Vx LV) {d : Nat} (hd : d ∈ Ds) (hn : nE nm gv Un d ≠ 0) : d ∈ P := by
  unfold nE at hn
  obtain ⟨u, hu, e⟩ := List.countP_pos_iff.mp (Nat.pos_of_ne_zero hn)
  simp only [Bool.and_eq_true, decide_eq_true_eq] at e
  have h9 := h.1.2.2 d hd
  obtain ⟨q1, q2, _⟩ := h.2.2.2.2.1 u hu (by rw [e.1]; exact h9)
  have := (sy_told h q1 q2).1
  rw [e.1] at this
  exact this
theorem sy_nod (h : syV nm tn sg Un Ids Ds P gv It Vx LV) {n d : Nat} (hn : LV n) (hd : d ∈ Ds) : nod sg n d = 0 ∨ 1 ≤ P.count d := by
  by_cases q : nod sg n d = 0
  · exact Or.inl q
  · right
    unfold nod at q
    obtain ⟨w, hw, e⟩ := List.countP_pos_iff.mp (Nat.pos_of_ne_zero q)
    rw [decide_eq_true_eq] at e
    obtain ⟨a, b, c⟩ := spn_all h.2.2.2.2.2.2.2.2 hn hw
    obtain ⟨g, hg, e1, e2⟩ := h.2.2.2.2.2.2.1 w a b c (by rw [e]; exact h.1.2.2 d hd)
    have := (sy_told h hg e2).1
    rw [e1, e] at this
    exact List.count_pos_iff.mpr this
/-- the greatest of the names' walks, to a level -/
def LLd (nm tn sg : Nat → Bool) (Nm : List Nat) (j : Nat) : Nat := (Nm.filter (fun v => decide (Rk nm v ≤ j))).foldr (fun v m => max (max 2 (lam nm tn sg v)) m) 1
theorem LLd_pos {Nm : List Nat} {j : Nat} : 1 ≤ LLd nm tn sg Nm j := by
  unfold LLd
  generalize Nm.filter _ = l
  induction l with
  | nil => exact Nat.le_refl _
  | cons v l ih => simp only [List.foldr_cons]; omega
theorem LLd_le {Nm : List Nat} {j M : Nat} (h : ∀ v ∈ Nm, Rk nm v ≤ j → 2 ≤ M ∧ lam nm tn sg v ≤ M) (hM : 1 ≤ M) : LLd nm tn sg Nm j ≤ M := by
  unfold LLd
  have : ∀ l : List Nat, (∀ v ∈ l, 2 ≤ M ∧ lam nm tn sg v ≤ M) → l.foldr (fun v m => max (max 2 (lam nm tn sg v)) m) 1 ≤ M := by
    intro l
    induction l with
    | nil => intro _; exact hM
    | cons v l ih =>
      intro hl
      have := hl v List.mem_cons_self
      have := ih (fun u hu => hl u (List.mem_cons_of_mem _ hu))
      simp only [List.foldr_cons]
      omega
  exact this _ (fun v hv => by
    rw [List.mem_filter, decide_eq_true_eq] at hv
    exact h v hv.1 hv.2)
theorem LLd_ge {Nm : List Nat} {j v : Nat} (hv : v ∈ Nm) (hj : Rk nm v ≤ j) : lam nm tn sg v ≤ LLd nm tn sg Nm j ∧ 2 ≤ LLd nm tn sg Nm j := by
  unfold LLd
  have hm : v ∈ Nm.filter (fun v => decide (Rk nm v ≤ j)) := List.mem_filter.mpr ⟨hv, decide_eq_true hj⟩
  revert hm
  generalize Nm.filter _ = l
  intro hm
  induction l with
  | nil => cases hm
  | cons u l ih =>
    simp only [List.foldr_cons]
    rcases List.mem_cons.mp hm with rfl | hm
    · omega
    · have := ih hm
      omega
theorem LLd_mono {Nm : List Nat} {i j : Nat} (h : i ≤ j) : LLd nm tn sg Nm i ≤ LLd nm tn sg Nm j :=
  LLd_le (fun _ hv hr => ⟨(LLd_ge hv (by omega)).2, (LLd_ge hv (by omega)).1⟩) LLd_pos
/-- a letter's cost bound: leaves times the level below -/
theorem bD_two {Nm : List Nat} (hNm : ∀ v, nm v = true → v ∈ Nm) {d : Nat} (hd : 11 < d) : 2 ≤ eL nm d * LLd nm tn sg Nm (lev nm d - 1) := by
  obtain ⟨x, y, rfl⟩ := nd_ex hd
  cases hn : nm (nd x y) with
  | true =>
    rw [eL_nm hn, Nat.one_mul]
    exact (LLd_ge (hNm _ hn) (by rw [lev_nm hn]; omega)).2
  | false => exact Nat.le_trans (eL_two hn) (Nat.le_mul_of_pos_right _ LLd_pos)
theorem mu_bD {Nm : List Nat} (hNm : ∀ v, nm v = true → v ∈ Nm) {d : Nat} (hd : 11 < d) : muL nm tn sg d ≤ eL nm d * LLd nm tn sg Nm (lev nm d - 1) := by
  have hl : 1 ≤ lev nm d := by
    obtain ⟨x, y, rfl⟩ := nd_ex hd
    exact lev_pos nm x y
  exact muL_le (i := lev nm d) LLd_pos (fun x y hn hr => (LLd_ge (hNm _ hn) (by omega)).1) d (Nat.le_refl _)
/-- a name's walk, level by level -/
theorem lam_lev (h : syV nm tn sg Un Ids Ds P gv It Vx LV) {Nm : List Nat} (hNm : ∀ v, nm v = true → v ∈ Nm) {n : Nat} (hn : LV n) : 2 * lam nm tn sg n ≤ 2 + 2 * lfs sg n + sumN (fun i => cLv nm tn sg Ds (LLd nm tn sg Nm) n (i + 1)) (Rk nm n) := by
  have h1 := lam_let (nm := nm) (tn := tn) (sg := sg) (Ds := Ds) (n := n) (B := fun d => eL nm d * LLd nm tn sg Nm (lev nm d - 1)) (fun w hw h9 => by
    obtain ⟨a, b, c⟩ := spn_all h.2.2.2.2.2.2.2.2 hn hw
    obtain ⟨g, hg, e1, e2⟩ := h.2.2.2.2.2.2.1 w a b c h9
    rw [← e1]
    exact (sy_told h hg e2).2) (fun d hd => mu_bD hNm (h.1.2.2 d hd))
  have h2 := by_lev (nm := nm) (j := Rk nm n) (F := fun d => cst tn sg n d (eL nm d * LLd nm tn sg Nm (lev nm d - 1))) Ds (fun d hd hz => by
    refine ⟨?_, ?_⟩
    · obtain ⟨x, y, rfl⟩ := nd_ex (h.1.2.2 d hd)
      exact lev_pos nm x y
    · refine Classical.byContradiction (fun q => hz ?_)
      have hz0 : nod sg n d = 0 := by
        unfold nod
        rw [List.countP_eq_zero]
        intro w hw
        rw [decide_eq_true_eq]
        intro e
        obtain ⟨k, hk⟩ := spn_sfx n w hw
        have := sfx_Rk (nm := nm) hk
        have hR : Rk nm w = max (lev nm (dn1 w)) (Rk nm (dn2 w)) := by
          have := Rk_nd nm (dn1 w) (dn2 w)
          rw [← spn_nd' hw] at this
          exact this
        rw [e] at hR
        omega
      have := tau_le (tn := tn) (sg := sg) (n := n) (d := d)
      unfold cst
      rw [hz0, show tau tn sg n d = 0 by omega]
      simp)
  have h3 : sumN (fun i => sumB (fun d => if lev nm d = i + 1 then cst tn sg n d (eL nm d * LLd nm tn sg Nm (lev nm d - 1)) else 0) Ds) (Rk nm n) ≤ sumN (fun i => cLv nm tn sg Ds (LLd nm tn sg Nm) n (i + 1)) (Rk nm n) := by
    refine sumN_le (fun i hi => sumB_le (fun d hd => ?_))
    by_cases e : lev nm d = i + 1
    · rw [if_pos e, if_pos e, e]
      exact Nat.le_refl _
    · rw [if_neg e]
      exact Nat.zero_le _
  omega
/-- any level -/
theorem cLv_any (h : syV nm tn sg Un Ids Ds P gv It Vx LV) {Nm : List Nat} (hNm : ∀ v, nm v = true → v ∈ Nm) {n : Nat} (hn : LV n) (i : Nat) : cLv nm tn sg Ds (LLd nm tn sg Nm) n i ≤ LLd nm tn sg Nm (i - 1) * (2 * tL nm P i + wL nm gv Un Ds i) := by
  refine cLv_gen (F := fun d => 2 * (eL nm d * P.count d) + eL nm d * nE nm gv Un d) (fun d hd e => ?_) ?_
  · have hb := bD_two (nm := nm) (tn := tn) (sg := sg) hNm (h.1.2.2 d hd)
    rw [e] at hb
    refine Nat.le_trans (cst_le hb (sy_ge h hn (h.1.2.2 d hd))) (Nat.le_trans (Nat.mul_le_mul_left _ (sy_vcn h hd)) (Nat.le_of_eq ?_))
    rw [Nat.mul_comm (eL nm d), Nat.mul_assoc, Nat.mul_add, Nat.mul_left_comm (eL nm d) 2]
  · have h1 := tL_sum (nm := nm) (i := i) h.1.2.1 h.1.2.2 P
    have e : (fun d => if lev nm d = i then 2 * (eL nm d * P.count d) + eL nm d * nE nm gv Un d else 0) = fun d => 2 * (if lev nm d = i then eL nm d * P.count d else 0) + if lev nm d = i then eL nm d * nE nm gv Un d else 0 := funext fun d => by
      by_cases q : lev nm d = i
      · rw [if_pos q, if_pos q, if_pos q]
      · rw [if_neg q, if_neg q, if_neg q]
    rw [e, sumB_add, sumB_mul]
    unfold wL
    omega
/-- a level with no such level from it on -/
theorem cLv_stat (h : syV nm tn sg Un Ids Ds P gv It Vx LV) {Nm : List Nat} (hNm : ∀ v, nm v = true → v ∈ Nm) {n : Nat} (hn : LV n) {i : Nat} (hr : ∀ j, i ≤ j → j ≤ Rk nm n → ¬ rkL nm Un Ids Vx j) : cLv nm tn sg Ds (LLd nm tn sg Nm) n i ≤ LLd nm tn sg Nm (i - 1) * (2 * tL nm P i) := by
  refine cLv_gen (F := fun d => 2 * (eL nm d * P.count d)) (fun d hd e => ?_) ?_
  · have hb := bD_two (nm := nm) (tn := tn) (sg := sg) hNm (h.1.2.2 d hd)
    rw [e] at hb
    refine Nat.le_trans (cst_le hb (sy_ge h hn (h.1.2.2 d hd))) (Nat.le_trans (Nat.mul_le_mul_left _ (sy_stat h hd (by rw [e]; exact hr))) (Nat.le_of_eq ?_))
    rw [Nat.mul_comm (eL nm d), Nat.mul_assoc, Nat.mul_left_comm (eL nm d) 2]
  · have h1 := tL_sum (nm := nm) (i := i) h.1.2.1 h.1.2.2 P
    have e : (fun d => if lev nm d = i then 2 * (eL nm d * P.count d) else 0) = fun d => 2 * (if lev nm d = i then eL nm d * P.count d else 0) := funext fun d => by
      by_cases q : lev nm d = i
      · rw [if_pos q, if_pos q]
      · rw [if_neg q, if_neg q]
    rw [e, sumB_mul]
    omega
end
