/-! KINDS OF LEVELS: letters told twice or named, letters told once -/
section
variable {nm tn sg : Nat → Bool} {Un : List Uf} {Ids Ds P : List Nat} {gv : Nat → Nat} {It : Nat → List Nat} {Vx : Nat → Nat → Bool} {LV : Nat → Prop}
theorem wL_le (h : syV nm tn sg Un Ids Ds P gv It Vx LV) (i : Nat) : wL nm gv Un Ds i ≤ tL nm P i * nL nm gv Un Ds i := by
  unfold wL nL
  rw [← sumB_mul]
  refine sumB_le (fun d hd => ?_)
  by_cases e : lev nm d = i
  · rw [if_pos e, if_pos e]
    by_cases hz : nE nm gv Un d = 0
    · rw [hz]
      exact Nat.le_refl _
    · have := tL_one (nm := nm) (sy_nE h hd hz) (h.1.2.2 d hd)
      rw [e] at this
      exact Nat.mul_le_mul_right _ this
  · rw [if_neg e]
    exact Nat.zero_le _
/-- two nodes of a letter that turn -/
theorem twoT_ex {p : Nat → Bool} : ∀ {l : List Nat}, l.Nodup → 2 ≤ l.countP p → ∃ w ∈ l, ∃ u ∈ l, w ≠ u ∧ p w = true ∧ p u = true
  | [], _, h => by simp at h
  | x :: l, hn, h => by
    rw [List.nodup_cons] at hn
    rw [List.countP_cons] at h
    by_cases hx : p x = true
    · rw [if_pos hx] at h
      obtain ⟨u, hu, pu⟩ := List.countP_pos_iff.mp (show 0 < l.countP p by omega)
      exact ⟨x, List.mem_cons_self, u, List.mem_cons_of_mem _ hu, fun q => hn.1 (by rw [q]; exact hu), hx, pu⟩
    · rw [if_neg hx] at h
      obtain ⟨w, hw, u, hu, q1, q2, q3⟩ := twoT_ex hn.2 (by omega)
      exact ⟨w, List.mem_cons_of_mem _ hw, u, List.mem_cons_of_mem _ hu, q1, q2, q3⟩
/-- every letter with two such nodes is named or told twice -/
theorem kind_V (h : syV nm tn sg Un Ids Ds P gv It Vx LV) {Nm : List Nat} (hNm : ∀ v, nm v = true → v ∈ Nm) {y i : Nat} (hy : LV y) (hD : ∀ d ∈ Ds, lev nm d = i → 2 ≤ tau tn sg y d → nm d = true ∨ 2 ≤ P.count d) (hLL : 2 ≤ LLd nm tn sg Nm (i - 1) ∨ (LLd nm tn sg Nm (i - 1) = 1 ∧ ∀ d ∈ Ds, lev nm d = i → 2 ≤ eL nm d)) :
    ∃ E2 wt, cLv nm tn sg Ds (LLd nm tn sg Nm) y i ≤ LLd nm tn sg Nm (i - 1) * E2 ∧ ((2 ≤ LLd nm tn sg Nm (i - 1) ∧ wt = 0) ∨ (LLd nm tn sg Nm (i - 1) = 1 ∧ wt = 1)) ∧ E2 ≤ 2 * tL nm P i + wL nm gv Un Ds i ∧ 2 * (2 * E2 + (2 * tL nm P i + wL nm gv Un Ds i)) ≤ 12 * tL nm P i + max 6 (max (2 * tL nm P i + 4 + 4 * wt) (3 * tL nm P i)) * nL nm gv Un Ds i ∧ E2 + (2 * tL nm P i + wL nm gv Un Ds i) ≤ 4 * tL nm P i + max 2 (tL nm P i + 1 + wt) * nL nm gv Un Ds i := by
  have hwt : ∃ wt, ((2 ≤ LLd nm tn sg Nm (i - 1) ∧ wt = 0) ∨ (LLd nm tn sg Nm (i - 1) = 1 ∧ wt = 1)) := by
    rcases hLL with q | q
    · exact ⟨0, Or.inl ⟨q, rfl⟩⟩
    · exact ⟨1, Or.inr ⟨q.1, rfl⟩⟩
  obtain ⟨wt, hwt⟩ := hwt
  have wt1 : ∀ u : Nat, 2 * u ≤ LLd nm tn sg Nm (i - 1) * ((1 + wt) * u) := fun u => by
    rcases hwt with ⟨q1, q2⟩ | ⟨q1, q2⟩
    · rw [q2, Nat.add_zero, Nat.one_mul]
      exact Nat.mul_le_mul_right u q1
    · rw [q1, q2, Nat.one_mul]
      exact Nat.le_refl _
  have wt2 : ∀ d ∈ Ds, lev nm d = i → 1 + wt ≤ eL nm d := fun d hd e => by
    rcases hwt with ⟨q1, q2⟩ | ⟨q1, q2⟩
    · rw [q2]; exact eL_pos nm d
    · rw [q2]
      rcases hLL with q | q
      · omega
      · exact q.2 d hd e
  refine ⟨2 * tL nm P i + sumB (fun d => if lev nm d = i then (if 2 ≤ tau tn sg y d then eL nm d else 1 + wt) * nE nm gv Un d else 0) Ds, wt, ?_, hwt, ?_, ?_, ?_⟩
  · refine cLv_gen (F := fun d => 2 * (eL nm d * P.count d) + (if 2 ≤ tau tn sg y d then eL nm d else 1 + wt) * nE nm gv Un d) (fun d hd e => ?_) ?_
    · have hb := bD_two (nm := nm) (tn := tn) (sg := sg) hNm (h.1.2.2 d hd)
      rw [e] at hb
      have hge := sy_ge h hy (h.1.2.2 d hd)
      have hv := sy_vcn (sg := sg) (n := y) h hd
      by_cases q : 2 ≤ tau tn sg y d
      · simp only [q, if_true]
        refine Nat.le_trans (cst_le hb hge) (Nat.le_trans (Nat.mul_le_mul_left _ hv) (Nat.le_of_eq ?_))
        rw [Nat.mul_comm (eL nm d), Nat.mul_assoc, Nat.mul_add, Nat.mul_left_comm (eL nm d) 2]
      · simp only [q, if_false]
        refine Nat.le_trans (cst_one hb (Nat.le_trans hge hv) (by omega) (sy_nod h hy hd)) ?_
        rw [Nat.mul_add]
        refine Nat.add_le_add (Nat.le_of_eq ?_) (wt1 _)
        rw [Nat.mul_comm (eL nm d), Nat.mul_assoc, Nat.mul_left_comm (eL nm d) 2]
    · have h1 := tL_sum (nm := nm) (i := i) h.1.2.1 h.1.2.2 P
      have e : (fun d => if lev nm d = i then 2 * (eL nm d * P.count d) + (if 2 ≤ tau tn sg y d then eL nm d else 1 + wt) * nE nm gv Un d else 0) = fun d => 2 * (if lev nm d = i then eL nm d * P.count d else 0) + if lev nm d = i then (if 2 ≤ tau tn sg y d then eL nm d else 1 + wt) * nE nm gv Un d else 0 := funext fun d => by
        by_cases q : lev nm d = i
        · rw [if_pos q, if_pos q, if_pos q]
        · rw [if_neg q, if_neg q, if_neg q]
      rw [e, sumB_add, sumB_mul]
      omega
  · refine Nat.add_le_add_left (sumB_le (fun d hd => ?_)) _
    by_cases e : lev nm d = i
    · rw [if_pos e, if_pos e]
      refine Nat.mul_le_mul_right _ ?_
      by_cases q : 2 ≤ tau tn sg y d
      · rw [if_pos q]; exact Nat.le_refl _
      · rw [if_neg q]; exact wt2 d hd e
    · rw [if_neg e]
      exact Nat.zero_le _
  · have key : sumB (fun d => 4 * (if lev nm d = i then (if 2 ≤ tau tn sg y d then eL nm d else 1 + wt) * nE nm gv Un d else 0) + 2 * (if lev nm d = i then eL nm d * nE nm gv Un d else 0)) Ds ≤ sumB (fun d => max 6 (max (2 * tL nm P i + 4 + 4 * wt) (3 * tL nm P i)) * (if lev nm d = i then nE nm gv Un d else 0)) Ds := by
      refine sumB_le (fun d hd => ?_)
      by_cases e : lev nm d = i
      · rw [if_pos e, if_pos e, if_pos e]
        by_cases hz : nE nm gv Un d = 0
        · rw [hz]; simp
        · have ht := tL_one (nm := nm) (sy_nE h hd hz) (h.1.2.2 d hd)
          rw [e] at ht
          rw [← Nat.mul_assoc, ← Nat.mul_assoc, ← Nat.add_mul]
          refine Nat.mul_le_mul_right _ ?_
          by_cases q : 2 ≤ tau tn sg y d
          · rw [if_pos q]
            rcases hD d hd e q with hn | hc
            · have : eL nm d = 1 := by
                obtain ⟨x, z, rfl⟩ := nd_ex (h.1.2.2 d hd)
                exact eL_nm hn
              omega
            · have h1 := tL_sum (nm := nm) (i := i) h.1.2.1 h.1.2.2 P
              have h2 := sumB_one (f := fun d => if lev nm d = i then eL nm d * P.count d else 0) hd
              simp only [e, if_true] at h2
              have h3 : eL nm d * 2 ≤ eL nm d * P.count d := Nat.mul_le_mul_left _ hc
              omega
          · rw [if_neg q]
            omega
      · rw [if_neg e, if_neg e, if_neg e]
        simp
    rw [sumB_add, sumB_mul, sumB_mul, sumB_mul] at key
    unfold wL nL
    omega
  · have key : sumB (fun d => (if lev nm d = i then (if 2 ≤ tau tn sg y d then eL nm d else 1 + wt) * nE nm gv Un d else 0) + (if lev nm d = i then eL nm d * nE nm gv Un d else 0)) Ds ≤ sumB (fun d => max 2 (tL nm P i + 1 + wt) * (if lev nm d = i then nE nm gv Un d else 0)) Ds := by
      refine sumB_le (fun d hd => ?_)
      by_cases e : lev nm d = i
      · rw [if_pos e, if_pos e, if_pos e]
        by_cases hz : nE nm gv Un d = 0
        · rw [hz]; simp
        · have ht := tL_one (nm := nm) (sy_nE h hd hz) (h.1.2.2 d hd)
          rw [e] at ht
          rw [← Nat.add_mul]
          refine Nat.mul_le_mul_right _ ?_
          by_cases q : 2 ≤ tau tn sg y d
          · rw [if_pos q]
            rcases hD d hd e q with hn | hc
            · have : eL nm d = 1 := by
                obtain ⟨x, z, rfl⟩ := nd_ex (h.1.2.2 d hd)
                exact eL_nm hn
              omega
            · have h1 := tL_sum (nm := nm) (i := i) h.1.2.1 h.1.2.2 P
              have h2 := sumB_one (f := fun d => if lev nm d = i then eL nm d * P.count d else 0) hd
              simp only [e, if_true] at h2
              have h3 : eL nm d * 2 ≤ eL nm d * P.count d := Nat.mul_le_mul_left _ hc
              omega
          · rw [if_neg q]
            omega
      · rw [if_neg e, if_neg e, if_neg e]
        simp
    rw [sumB_add, sumB_mul] at key
    unfold wL nL
    omega
theorem sumB_thr {f : Nat → Nat} {a b c : Nat} (h1 : a ≠ b) (h2 : a ≠ c) (h3 : b ≠ c) {l : List Nat} (ha : a ∈ l) (hb : b ∈ l) (hc : c ∈ l) : f a + f b + f c ≤ sumB f l := by
  have e : f = fun g => (if g = c then f g else 0) + if g = c then 0 else f g := funext fun g => by
    by_cases q : g = c
    · rw [if_pos q, if_pos q]
      rfl
    · rw [if_neg q, if_neg q, Nat.zero_add]
  have e1 := sumB_one (f := fun g => if g = c then f g else 0) hc
  have e2 := sumB_two (f := fun g => if g = c then 0 else f g) h1 ha hb
  simp only [if_true] at e1
  simp only [h2, h3, if_false] at e2
  rw [e, sumB_add]
  simp only [h2, h3, if_false, if_true, Nat.zero_add, Nat.add_zero]
  omega
/-- a letter that is told once, has no name, and turns twice -/
theorem kind_X (h : syV nm tn sg Un Ids Ds P gv It Vx LV) {X Y Z : Nat → Nat} {nA : Nat} (hX : hUX Un X Y Z) (hA : ∀ u ∈ Un, uA u < nA) (hT : hTd nm Un P X Y Z) {Nm : List Nat} (hNm : ∀ v, nm v = true → v ∈ Nm) {y i d : Nat} (hy : LV y) (hR : Rk nm y = i) (huq : ∀ v, nm v = true → Rk nm v = i → v = y) (hd : d ∈ Ds) (hl : lev nm d = i) (hnm : nm d = false) (hP : P.count d ≤ 1) (ht : 2 ≤ tau tn sg y d) :
    ∃ (hh : Nat) (Bs : List Nat) (E2 : Nat), hh + Bs.length = 2 ∧ Bs.Nodup ∧ (∀ b ∈ Bs, ∃ v ∈ Un, uB v = b ∧ Rk nm (Y (uA v)) = i ∧ ∃ z ∈ Un, uB z = b ∧ 11 < dn1 (uL z) ∧ fC nm (uL z) = fC nm (uH z)) ∧ cLv nm tn sg Ds (LLd nm tn sg Nm) y i ≤ LLd nm tn sg Nm (i - 1) * E2 ∧ 2 ≤ tL nm P i ∧ 2 ≤ nL nm gv Un Ds i ∧ E2 ≤ 2 * tL nm P i + wL nm gv Un Ds i ∧ 2 * E2 + (2 * tL nm P i + wL nm gv Un Ds i) + 2 * (tL nm P i * hh) ≤ 6 * tL nm P i + 3 * (tL nm P i * nL nm gv Un Ds i) ∧ E2 + (2 * tL nm P i + wL nm gv Un Ds i) + tL nm P i * hh ≤ 4 * tL nm P i + 2 * (tL nm P i * nL nm gv Un Ds i) := by
  have h9 := h.1.2.2 d hd
  have hi : 1 ≤ i := by
    rw [← hl]
    obtain ⟨x, z, rfl⟩ := nd_ex h9
    exact lev_pos nm x z
  have hY := hUX_Y hX hA
  obtain ⟨w, hw, u, hu, hne, pw, pu⟩ := twoT_ex (spn_nodup y) ht
  simp only [Bool.and_eq_true, decide_eq_true_eq] at pw pu
  -- one below, one above
  have ord : ∃ lo ∈ spn sg y, ∃ up ∈ spn sg y, lo ≠ up ∧ (dn1 lo = d ∧ tn lo = true) ∧ (dn1 up = d ∧ tn up = true) ∧ cnL (dC d) lo < cnL (dC d) up := by
    have one : ∀ a ∈ spn sg y, ∀ b, a ≠ b → dn1 a = d → (∃ k, sfx k a b) → cnL (dC d) b < cnL (dC d) a := by
      rintro a ha b hab e ⟨k, hk⟩
      match k, hk with
      | 0, hk => exact absurd hk hab
      | k + 1, ⟨x, z, e2, hk⟩ =>
        have := sfx_cn (f := dC d) hk
        rw [e2, dn1_nd] at e
        rw [e2, cnL_nd, e]
        unfold dC at this ⊢
        rw [if_pos rfl]
        omega
    rcases spn_two y w u hw hu with hk | hk
    · exact ⟨u, hu, w, hw, Ne.symm hne, pu, pw, one w hw u hne pw.1 hk⟩
    · exact ⟨w, hw, u, hu, hne, pw, pu, one u hu w (Ne.symm hne) pu.1 hk⟩
  obtain ⟨lo, hlo, up, hup, hne2, plo, pup, hlt⟩ := ord
  obtain ⟨a1, b1, c1⟩ := spn_all h.2.2.2.2.2.2.2.2 hy hlo
  obtain ⟨a2, b2, c2⟩ := spn_all h.2.2.2.2.2.2.2.2 hy hup
  obtain ⟨g1, hg1, g2, hg2, hg, ⟨x1, x2⟩, x3, x4⟩ := h.2.2.2.2.2.2.2.1 lo a1 b1 c1 (by rw [plo.1]; exact h9) plo.2
  obtain ⟨k1, hk1, k2, hk2, hk, ⟨y1, y2⟩, y3, y4⟩ := h.2.2.2.2.2.2.2.1 up a2 b2 c2 (by rw [pup.1]; exact h9) pup.2
  rw [plo.1] at x1 x3
  rw [pup.1] at y1 y3
  have hit := h.2.2.2.2.2.1 d hd
  have itp : ∀ g ∈ Ids, ∀ w, Vx g w = true → 1 ≤ (It g).length := fun g hgi w hw => by
    obtain ⟨⟨a, ha, _⟩, _⟩ := sy_J h g hgi w hw
    exact List.length_pos_of_mem ha
  have inn : ∀ k ∈ Ids, gv k = d → Vx k up = true → k = g1 ∨ k = g2 := by
    intro k hki e1 e2
    refine Classical.byContradiction (fun q => ?_)
    have := sumB_thr (f := fun g => if gv g = d then (It g).length else 0) hg (fun z => q (Or.inl z.symm)) (fun z => q (Or.inr z.symm)) hg1 hg2 hki
    simp only [x1, x3, e1, if_true] at this
    have := itp g1 hg1 lo x2
    have := itp g2 hg2 lo x4
    have := itp k hki up e2
    unfold itS at hit
    omega
  have both : Vx g1 up = true ∧ Vx g2 up = true := by
    rcases inn k1 hk1 y1 y2 with e1 | e1
    · rcases inn k2 hk2 y3 y4 with e2 | e2
      · exact absurd (e1.trans e2.symm) hk
      · exact ⟨e1 ▸ y2, e2 ▸ y4⟩
    · rcases inn k2 hk2 y3 y4 with e2 | e2
      · exact ⟨e2 ▸ y4, e1 ▸ y2⟩
      · exact absurd (e1.trans e2.symm) hk
  have it1 : (It g1).length = 1 ∧ (It g2).length = 1 := by
    have := sumB_two (f := fun g => if gv g = d then (It g).length else 0) hg hg1 hg2
    simp only [x1, x3, if_true] at this
    have := itp g1 hg1 lo x2
    have := itp g2 hg2 lo x4
    unfold itS at hit
    omega
  have hPc : P.count d = 1 := by
    have := (sy_told h hg1 x2).1
    rw [x1] at this
    have := List.count_pos_iff.mpr this
    omega
  -- each of the two: one vertex less, or an unfold lost
  have each : ∀ g ∈ Ids, gv g = d → Vx g lo = true → Vx g up = true → (It g).length = 1 → 1 ≤ nG nm Un g ∧ ∃ l, (spn sg y).countP (Vx g) + l ≤ (It g).length + nG nm Un g ∧ (l = 1 ∨ (l = 0 ∧ ∃ v ∈ Un, uG v = g ∧ cnL (dC d) (uL v) = cnL (dC d) lo ∧ Rk nm (Y (uA v)) = i ∧ ∃ z ∈ Un, uB z = uB v ∧ 11 < dn1 (uL z) ∧ fC nm (uL z) = fC nm (uH z))) := by
    intro g hgi e1 e2 e3 e4
    have hle := vx_le (nm := nm) (sg := sg) (n := y) (fun w hw => (sy_J h g hgi w hw).1)
    have hge : 2 ≤ (spn sg y).countP (Vx g) := by
      rw [List.countP_eq_length_filter]
      have := sub_len [lo, up] ((spn sg y).filter (Vx g)) (by
        rw [List.nodup_cons, List.mem_singleton]
        exact ⟨hne2, List.nodup_cons.mpr ⟨fun q => (by cases q), List.nodup_nil⟩⟩) (fun z hz => by
        rcases List.mem_cons.mp hz with rfl | hz
        · exact List.mem_filter.mpr ⟨hlo, e2⟩
        · rw [List.mem_singleton] at hz
          subst hz
          exact List.mem_filter.mpr ⟨hup, e3⟩)
      exact this
    refine ⟨by omega, ?_⟩
    by_cases hf : (It g).length + nG nm Un g ≤ (spn sg y).countP (Vx g)
    · refine ⟨0, by omega, Or.inr ⟨rfl, ?_⟩⟩
      have hlk : Lnk (Eg Un g) lo up := by
        obtain ⟨⟨a, ha, la⟩, _⟩ := sy_J h g hgi lo e2
        obtain ⟨⟨b, hb, lb⟩, _⟩ := sy_J h g hgi up e3
        have : a = b := by
          match hI : It g, e4 with
          | [c], _ =>
            rw [hI, List.mem_singleton] at ha hb
            rw [ha, hb]
        subst this
        exact la.symm'.trans' lb
      exact lost_ex (sg := sg) (It := It) hX hA hT (fun w hw => by
        have := h.2.2.1 g hgi (by rw [e1]; exact h9) w hw
        rw [e1] at this
        exact this) (fun u hu e => by
        have := h.2.2.2.2.1 u hu (by rw [e, e1]; exact h9)
        rw [e] at this
        exact ⟨this.2.1, this.2.2⟩) h9 hl hi hP hR (fun v hv hr hc => by
        refine huq v hv ?_
        by_cases q : Rk nm v < i
        · have := cnL_out (nm := nm) (d := d) v (by rw [hl]; exact q)
          omega
        · omega) hf hlo hup e2 e3 hlk (Nat.le_refl _) hlt
    · exact ⟨1, by omega, Or.inl rfl⟩
  obtain ⟨n1, l1, q1, r1⟩ := each g1 hg1 x1 x2 both.1 it1.1
  obtain ⟨n2, l2, q2, r2⟩ := each g2 hg2 x3 x4 both.2 it1.2
  have hl1 : l1 ≤ 1 := by rcases r1 with r | r <;> omega
  have hl2 : l2 ≤ 1 := by rcases r2 with r | r <;> omega
  have hBs : ∃ Bs : List Nat, l1 + l2 + Bs.length = 2 ∧ Bs.Nodup ∧ ∀ b ∈ Bs, ∃ v ∈ Un, uB v = b ∧ Rk nm (Y (uA v)) = i ∧ ∃ z ∈ Un, uB z = b ∧ 11 < dn1 (uL z) ∧ fC nm (uL z) = fC nm (uH z) := by
    have headd : ∀ v ∈ Un, gv (uG v) = d → ∃ t, uL v = nd d t := fun v hv e => by
      have q := h.2.2.2.2.1 v hv (by rw [e]; exact h9)
      have := (h.2.2.1 _ q.1 (by rw [e]; exact h9) _ q.2.1).1
      rw [e] at this
      exact this
    rcases r1 with r1 | ⟨e1, v1, hv1, s1, s2, s3, s4⟩
    · rcases r2 with r2 | ⟨e2, v2, hv2, t1, t2, t3, t4⟩
      · exact ⟨[], by rw [r1, r2]; rfl, List.nodup_nil, fun b hb => by cases hb⟩
      · refine ⟨[uB v2], by rw [r1, e2]; rfl, List.nodup_cons.mpr ⟨fun q => (by cases q), List.nodup_nil⟩, fun b hb => ?_⟩
        rw [List.mem_singleton] at hb
        subst hb
        exact ⟨v2, hv2, rfl, t3, t4⟩
    · rcases r2 with r2 | ⟨e2, v2, hv2, t1, t2, t3, t4⟩
      · refine ⟨[uB v1], by rw [r2, e1]; rfl, List.nodup_cons.mpr ⟨fun q => (by cases q), List.nodup_nil⟩, fun b hb => ?_⟩
        rw [List.mem_singleton] at hb
        subst hb
        exact ⟨v1, hv1, rfl, s3, s4⟩
      · refine ⟨[uB v1, uB v2], by rw [e1, e2]; rfl, List.nodup_cons.mpr ⟨fun q => ?_, List.nodup_cons.mpr ⟨fun q => (by cases q), List.nodup_nil⟩⟩, fun b hb => ?_⟩
        · rw [List.mem_singleton] at q
          have := lost_one hX hv1 hv2 q (headd v1 hv1 (by rw [s1]; exact x1)) (headd v2 hv2 (by rw [t1]; exact x3)) s2 t2
          rw [s1, t1] at this
          exact hg this
        · rcases List.mem_cons.mp hb with rfl | hb
          · exact ⟨v1, hv1, rfl, s3, s4⟩
          · rw [List.mem_singleton] at hb
            subst hb
            exact ⟨v2, hv2, rfl, t3, t4⟩
  obtain ⟨Bs, B1, B2, B3⟩ := hBs
  -- the count of this letter
  have hv : vcn sg Ids gv Vx y d + (l1 + l2) ≤ 2 + nE nm gv Un d := by
    have p1 : sumB (fun g => ((if gv g = d then (spn sg y).countP (Vx g) else 0) + if g = g1 then l1 else 0) + if g = g2 then l2 else 0) Ids ≤ sumB (fun g => (if gv g = d then (It g).length else 0) + if gv g = d then nG nm Un g else 0) Ids := by
      refine sumB_le (fun g hgi => ?_)
      by_cases e1 : g = g1
      · subst e1
        rw [if_pos x1, if_pos x1, if_pos x1, if_pos rfl, if_neg hg]
        exact q1
      · by_cases e2 : g = g2
        · subst e2
          rw [if_pos x3, if_pos x3, if_pos x3, if_pos rfl, if_neg e1]
          exact q2
        · rw [if_neg e1, if_neg e2]
          by_cases e : gv g = d
          · rw [if_pos e, if_pos e, if_pos e]
            exact vx_le (fun w hw => (sy_J h g hgi w hw).1)
          · rw [if_neg e]
            exact Nat.zero_le _
    rw [sumB_add, sumB_add, sumB_add] at p1
    have p2 := sumB_one (f := fun g => if g = g1 then l1 else 0) hg1
    have p3 := sumB_one (f := fun g => if g = g2 then l2 else 0) hg2
    simp only [if_true] at p2 p3
    have p4 := sumB_nG (nm := nm) (gv := gv) (d := d) h.1.1 Un
    unfold vcn
    unfold itS at hit
    omega
  have hn : 2 ≤ nE nm gv Un d := by
    have p4 := sumB_nG (nm := nm) (gv := gv) (d := d) h.1.1 Un
    have p5 := sumB_two (f := fun g => if gv g = d then nG nm Un g else 0) hg hg1 hg2
    simp only [x1, x3, if_true] at p5
    omega
  have hnL : nE nm gv Un d ≤ nL nm gv Un Ds i := by
    have := sumB_one (f := fun d => if lev nm d = i then nE nm gv Un d else 0) hd
    simp only [hl, if_true] at this
    exact this
  have hdP : d ∈ P := List.count_pos_iff.mp (by omega)
  have htL := tL_one (nm := nm) hdP h9
  rw [hl] at htL
  have he2 : 2 ≤ eL nm d := by
    obtain ⟨x, z, rfl⟩ := nd_ex h9
    exact eL_two hnm
  -- the level without the letter's loss
  have hW : eL nm d * (l1 + l2) ≤ wL nm gv Un Ds i := by
    have p1 := sumB_one (f := fun d => if lev nm d = i then eL nm d * nE nm gv Un d else 0) hd
    simp only [hl, if_true] at p1
    have p2 : eL nm d * (l1 + l2) ≤ eL nm d * nE nm gv Un d := Nat.mul_le_mul_left _ (by omega)
    unfold wL
    omega
  have hW2 : wL nm gv Un Ds i + tL nm P i * (l1 + l2) ≤ tL nm P i * nL nm gv Un Ds i + eL nm d * (l1 + l2) := by
    have p1 : sumB (fun x => (if lev nm x = i then eL nm x * nE nm gv Un x else 0) + if d = x then tL nm P i * (l1 + l2) else 0) Ds ≤ sumB (fun x => tL nm P i * (if lev nm x = i then nE nm gv Un x else 0) + if d = x then eL nm d * (l1 + l2) else 0) Ds := by
      refine sumB_le (fun x hx => ?_)
      by_cases e : lev nm x = i
      · rw [if_pos e, if_pos e]
        by_cases e2 : d = x
        · rw [if_pos e2, if_pos e2, ← e2]
          obtain ⟨s, hs⟩ := Nat.le.dest htL
          obtain ⟨r, hr⟩ := Nat.le.dest (show l1 + l2 ≤ nE nm gv Un d by omega)
          rw [← hs, ← hr]
          generalize l1 + l2 = z
          rw [Nat.add_mul, Nat.add_mul, Nat.mul_add, Nat.mul_add]
          omega
        · rw [if_neg e2, if_neg e2]
          by_cases hz : nE nm gv Un x = 0
          · rw [hz]; simp
          · have := tL_one (nm := nm) (sy_nE h hx hz) (h.1.2.2 x hx)
            rw [e] at this
            exact Nat.add_le_add_right (Nat.mul_le_mul_right _ this) _
      · rw [if_neg e, if_neg e]
        have : d ≠ x := fun q => e (by rw [← q]; exact hl)
        rw [if_neg this, if_neg this]
        simp
    rw [sumB_add, sumB_add, sumB_mul] at p1
    have p2 := sumB_one (f := fun x => if d = x then tL nm P i * (l1 + l2) else 0) hd
    have p3 := sumB_pick (d := d) (c := eL nm d * (l1 + l2)) h.1.2.1
    simp only [if_true] at p2
    unfold wL nL
    omega
  refine ⟨l1 + l2, Bs, 2 * tL nm P i + wL nm gv Un Ds i - eL nm d * (l1 + l2), B1, B2, B3, ?_, by omega, by omega, by omega, ?_, ?_⟩
  · refine cLv_gen (F := fun x => 2 * (eL nm x * P.count x) + (eL nm x * nE nm gv Un x - if d = x then eL nm d * (l1 + l2) else 0)) (fun x hx e => ?_) ?_
    · have hb := bD_two (nm := nm) (tn := tn) (sg := sg) hNm (h.1.2.2 x hx)
      rw [e] at hb
      refine Nat.le_trans (cst_le hb (sy_ge h hy (h.1.2.2 x hx))) ?_
      by_cases e2 : d = x
      · rw [if_pos e2, ← e2]
        refine Nat.le_trans (Nat.mul_le_mul_left _ (show vcn sg Ids gv Vx y d ≤ 2 * P.count d + (nE nm gv Un d - (l1 + l2)) by omega)) (Nat.le_of_eq ?_)
        rw [Nat.mul_comm (eL nm d), Nat.mul_assoc, Nat.mul_add, Nat.mul_left_comm (eL nm d) 2, Nat.mul_sub]
      · rw [if_neg e2, Nat.sub_zero]
        refine Nat.le_trans (Nat.mul_le_mul_left _ (sy_vcn h hx)) (Nat.le_of_eq ?_)
        rw [Nat.mul_comm (eL nm x), Nat.mul_assoc, Nat.mul_add, Nat.mul_left_comm (eL nm x) 2]
    · have h1 := tL_sum (nm := nm) (i := i) h.1.2.1 h.1.2.2 P
      have p1 : sumB (fun x => (if lev nm x = i then 2 * (eL nm x * P.count x) + (eL nm x * nE nm gv Un x - if d = x then eL nm d * (l1 + l2) else 0) else 0) + if d = x then eL nm d * (l1 + l2) else 0) Ds ≤ sumB (fun x => 2 * (if lev nm x = i then eL nm x * P.count x else 0) + if lev nm x = i then eL nm x * nE nm gv Un x else 0) Ds := by
        refine sumB_le (fun x hx => ?_)
        by_cases e : lev nm x = i
        · rw [if_pos e, if_pos e, if_pos e]
          by_cases e2 : d = x
          · rw [if_pos e2]
            have : eL nm d * (l1 + l2) ≤ eL nm d * nE nm gv Un d := Nat.mul_le_mul_left _ (by omega)
            rw [← e2]
            omega
          · rw [if_neg e2]
            omega
        · rw [if_neg e, if_neg e]
          have : d ≠ x := fun q => e (by rw [← q]; exact hl)
          rw [if_neg this]
          omega
      rw [sumB_add, sumB_add, sumB_mul] at p1
      have p2 := sumB_one (f := fun x => if d = x then eL nm d * (l1 + l2) else 0) hd
      simp only [if_true] at p2
      have p3 : sumB (fun x => if lev nm x = i then eL nm x * nE nm gv Un x else 0) Ds = wL nm gv Un Ds i := rfl
      omega
  · have := wL_le h i
    omega
  · have := wL_le h i
    omega
end
