/-! NODES WITH A LEAF FOR LETTER: two codes each -/
theorem cnt_le {q : Nat → Bool} : ∀ (L : List Nat) {S : List Nat}, S.Nodup → (∀ w ∈ S, q w = true) → sumB (fun w => L.count w) S ≤ L.countP q
  | [], S, _, _ => by
    rw [show (fun w => List.count w ([] : List Nat)) = fun _ => 0 from funext fun w => by simp]
    rw [sumB_zero]
    exact Nat.zero_le _
  | x :: L, S, hn, hq => by
    have ih := cnt_le L hn hq
    have h1 : sumB (fun w => (x :: L).count w) S ≤ sumB (fun w => L.count w + if x = w then (if q x = true then 1 else 0) else 0) S := by
      refine sumB_le (fun w hw => ?_)
      by_cases e : x = w
      · subst e
        rw [if_pos rfl, if_pos (hq x hw), List.count_cons_self]
        exact Nat.le_refl _
      · rw [if_neg e, List.count_cons_of_ne e]
        exact Nat.le_refl _
    rw [sumB_add] at h1
    have := sumB_pick (d := x) (c := if q x = true then 1 else 0) hn
    rw [List.countP_cons]
    omega
theorem sumB_const (c : Nat) : ∀ S : List Nat, sumB (fun _ => c) S = c * S.length
  | [] => rfl
  | _ :: S => by
    simp only [sumB, List.length_cons, Nat.mul_add]
    rw [sumB_const c S]
    omega
/-- told codes (CT), codes of 'M' (CM) -/
def stV (nm sg : Nat → Bool) (LV : Nat → Prop) (Un : List Uf) (P CT CM PM : List Nat) (mU : Nat) : Prop :=
  (∀ w, LV w → 11 < w → sg w = false → dn1 w ≤ 11 → 2 ≤ CT.count w + (Un.map uL).count w + (Un.map uH).count w + CM.count w) ∧
  CT.countP (fun w => decide (dn1 w ≤ 11)) ≤ 2 * P.countP (fun p => decide (p ≤ 11)) ∧ (CM.length ≤ mU ∧ 3 * Un.length + 2 * mU ≤ 108) ∧
  (∀ w ∈ CM, ∃ p ∈ PM, lev nm p ≤ Rk nm w) ∧ ∀ p ∈ PM, p ∈ P
/-- the unfolds of leaves -/
def vLf (Un : List Uf) : Nat := Un.countP (fun u => decide (dn1 (uL u) ≤ 11))
theorem lfs_le {nm sg : Nat → Bool} {LV : Nat → Prop} {Un : List Uf} {P CT CM PM : List Nat} {mU : Nat} {X Y Z : Nat → Nat} (h : stV nm sg LV Un P CT CM PM mU) (hX : hUX Un X Y Z) (hLV : ∀ x y, LV (nd x y) → LV y) {n : Nat} (hn : LV n) :
    ∃ z m, 2 * lfs sg n ≤ 2 * P.countP (fun p => decide (p ≤ 11)) + vLf Un + z + m ∧ z ≤ vLf Un ∧ m ≤ mU ∧ (z ≠ 0 → ∃ u ∈ Un, Rk nm (Y (uA u)) ≤ Rk nm n) ∧ (m ≠ 0 → ∃ p ∈ PM, lev nm p ≤ Rk nm n) := by
  obtain ⟨h1, h2, ⟨h3, _⟩, h4, _⟩ := h
  have hS : ∀ w ∈ (spn sg n).filter (fun w => decide (dn1 w ≤ 11)), (LV w ∧ 11 < w ∧ sg w = false) ∧ dn1 w ≤ 11 ∧ Rk nm w ≤ Rk nm n := fun w hw => by
    rw [List.mem_filter, decide_eq_true_eq] at hw
    obtain ⟨k, hk⟩ := spn_sfx n w hw.1
    exact ⟨spn_all hLV hn hw.1, hw.2, sfx_Rk hk⟩
  have hnd : ((spn sg n).filter (fun w => decide (dn1 w ≤ 11))).Nodup := (spn_nodup n).filter _
  have e : lfs sg n = ((spn sg n).filter (fun w => decide (dn1 w ≤ 11))).length := List.countP_eq_length_filter
  revert hS hnd e
  generalize (spn sg n).filter (fun w => decide (dn1 w ≤ 11)) = S
  intro hS hnd e
  have q1 : sumB (fun _ => 2) S ≤ sumB (fun w => ((CT.count w + (Un.map uL).count w) + (Un.map uH).count w) + CM.count w) S := sumB_le (fun w hw => by
    obtain ⟨⟨a, b, c⟩, d, _⟩ := hS w hw
    exact h1 w a b c d)
  rw [sumB_const, sumB_add, sumB_add, sumB_add] at q1
  have c1 := cnt_le (q := fun w => decide (dn1 w ≤ 11)) CT hnd (fun w hw => decide_eq_true (hS w hw).2.1)
  have c2 := cnt_le (q := fun w => decide (dn1 w ≤ 11)) (Un.map uL) hnd (fun w hw => decide_eq_true (hS w hw).2.1)
  have c3 := cnt_le (q := fun w => decide (dn1 w ≤ 11) && decide (Rk nm w ≤ Rk nm n)) (Un.map uH) hnd (fun w hw => by
    rw [Bool.and_eq_true]
    exact ⟨decide_eq_true (hS w hw).2.1, decide_eq_true (hS w hw).2.2⟩)
  have c4 := cnt_le (q := fun w => decide (Rk nm w ≤ Rk nm n)) CM hnd (fun w hw => decide_eq_true (hS w hw).2.2)
  rw [List.countP_map] at c2 c3
  refine ⟨Un.countP ((fun w => decide (dn1 w ≤ 11) && decide (Rk nm w ≤ Rk nm n)) ∘ uH), CM.countP (fun w => decide (Rk nm w ≤ Rk nm n)), ?_, ?_, ?_, fun hz => ?_, fun hz => ?_⟩
  · rw [e]
    have : Un.countP ((fun w => decide (dn1 w ≤ 11)) ∘ uL) = vLf Un := rfl
    omega
  · refine List.countP_mono_left (fun u hu hp => ?_)
    obtain ⟨⟨x, t, v, k, m, e1, e2, _⟩, _⟩ := hX u hu
    simp only [Function.comp, Bool.and_eq_true, decide_eq_true_eq] at hp ⊢
    rw [e2, dn1_nd] at hp
    rw [e1, dn1_nd]
    exact hp.1
  · exact Nat.le_trans List.countP_le_length h3
  · obtain ⟨u, hu, hp⟩ := List.countP_pos_iff.mp (Nat.pos_of_ne_zero hz)
    obtain ⟨⟨x, t, v, k, m, e1, e2, hc, _⟩, _⟩ := hX u hu
    simp only [Function.comp, Bool.and_eq_true, decide_eq_true_eq] at hp
    have := catV_Rk nm hc
    have h5 := hp.2
    rw [e2, Rk_nd] at h5
    exact ⟨u, hu, by omega⟩
  · obtain ⟨w, hw, hp⟩ := List.countP_pos_iff.mp (Nat.pos_of_ne_zero hz)
    rw [decide_eq_true_eq] at hp
    obtain ⟨p, hp1, hp2⟩ := h4 w hw
    exact ⟨p, hp1, by omega⟩
/-- all unfolds: of leaves, lost, of letters -/
theorem un_sum {nm : Nat → Bool} {gv : Nat → Nat} {Ds : List Nat} (hD : Ds.Nodup) : ∀ {Un : List Uf}, (∀ u ∈ Un, gv (uG u) = dn1 (uL u)) → (∀ d ∈ Ds, 11 < d) → vLf Un + Un.countP (fun u => decide (11 < dn1 (uL u)) && decide (fC nm (uL u) = fC nm (uH u))) + sumB (nE nm gv Un) Ds ≤ Un.length
  | [], _, _ => by
    rw [show nE nm gv [] = fun _ => 0 from funext fun d => rfl, sumB_zero]
    exact Nat.le_refl _
  | u :: Un, h1, h2 => by
    have ih := un_sum (nm := nm) hD (fun v hv => h1 v (List.mem_cons_of_mem _ hv)) h2
    have e : nE nm gv (u :: Un) = fun d => nE nm gv Un d + if gv (uG u) = d then (if fC nm (uL u) ≠ fC nm (uH u) then 1 else 0) else 0 := funext fun d => by
      unfold nE
      rw [List.countP_cons]
      by_cases e1 : gv (uG u) = d
      · by_cases e2 : fC nm (uL u) = fC nm (uH u)
        · simp [e1, e2]
        · simp [e1, e2]
      · simp [e1]
    rw [e, sumB_add]
    unfold vLf at ih ⊢
    rw [List.countP_cons, List.countP_cons, List.length_cons]
    have h3 := h1 u List.mem_cons_self
    by_cases hlf : dn1 (uL u) ≤ 11
    · have z : sumB (fun d => if gv (uG u) = d then (if fC nm (uL u) ≠ fC nm (uH u) then 1 else 0) else 0) Ds = 0 := by
        have : sumB (fun d => if gv (uG u) = d then (if fC nm (uL u) ≠ fC nm (uH u) then 1 else 0) else 0) Ds ≤ sumB (fun _ => 0) Ds := sumB_le (fun d hd => by
          have := h2 d hd
          rw [if_neg (by omega)]
          exact Nat.le_refl _)
        rw [sumB_zero] at this
        omega
      rw [z]
      simp only [hlf, decide_true, if_true, show ¬ 11 < dn1 (uL u) by omega, decide_false, Bool.false_and, Bool.false_eq_true, if_false]
      omega
    · have z := sumB_pick (d := gv (uG u)) (c := if fC nm (uL u) ≠ fC nm (uH u) then 1 else 0) hD
      by_cases e2 : fC nm (uL u) = fC nm (uH u)
      · simp only [e2, ne_eq, not_true_eq_false, if_false] at z ⊢
        simp only [hlf, decide_false, Bool.false_eq_true, if_false, show 11 < dn1 (uL u) by omega, decide_true, Bool.and_self, if_true]
        omega
      · simp only [e2, ne_eq, not_false_eq_true, if_true] at z ⊢
        simp only [hlf, decide_false, Bool.false_eq_true, if_false, show 11 < dn1 (uL u) by omega, decide_true, Bool.and_false]
        omega
/-- copies that have lost unfolds -/
theorem lost_len {nm : Nat → Bool} {Un : List Uf} {Bs : List Nat} (hn : Bs.Nodup) (h : ∀ b ∈ Bs, ∃ z ∈ Un, uB z = b ∧ 11 < dn1 (uL z) ∧ fC nm (uL z) = fC nm (uH z)) : Bs.length ≤ Un.countP (fun u => decide (11 < dn1 (uL u)) && decide (fC nm (uL u) = fC nm (uH u))) := by
  rw [List.countP_eq_length_filter, ← List.length_map (f := uB)]
  refine sub_len _ _ hn (fun b hb => ?_)
  obtain ⟨z, hz, e, h1, h2⟩ := h b hb
  rw [List.mem_map]
  refine ⟨z, List.mem_filter.mpr ⟨hz, ?_⟩, e⟩
  rw [Bool.and_eq_true]
  exact ⟨decide_eq_true h1, decide_eq_true h2⟩
