/-! THE SYSTEM of two answers -/
noncomputable def dcd (p : Prop) : Bool := @decide p (Classical.propDecidable _)
theorem dcd_iff {p : Prop} : dcd p = true ↔ p := ⟨fun h => @of_decide_eq_true _ (Classical.propDecidable _) h, fun h => @decide_eq_true _ (Classical.propDecidable _) h⟩
def idsL (D : Nat → Prop) (Wf : Nat → TV) : Nat → Prop := fun g => D g ∧ vRes Wf g
def lfJ (V0 : Nat → TV) (c : Nat) : Nat := match V0 c with
  | some (.inr (.inr (a, _))) => a
  | _ => 0
theorem lfJ_eq {V0 : Nat → TV} {c a b : Nat} (h : V0 c = some (.inr (.inr (a, b)))) : lfJ V0 c = a := by
  unfold lfJ
  rw [h]
def anQ (V0 : Nat → TV) (D LR Hd : Nat → Prop) (c : Nat) : Prop := D c ∧ LR c ∧ ∃ a b, V0 c = some (.inr (.inr (a, b))) ∧ ¬ Hd a
noncomputable def itL (V0 : Nat → TV) (D LR Hd : Nat → Prop) (th idf : Nat → Nat) (g : Nat) : List Nat := ((List.range 1920).filter (fun c => dcd (anQ V0 D LR Hd c ∧ idf (lfJ V0 c) = g))).map th
noncomputable def vxB (V0 Wf : Nat → TV) (D LR Ab : Nat → Prop) (th : Nat → Nat) (g w : Nat) : Bool := dcd (11 < th g ∧ xv V0 D LR Ab th Wf g w)
/-- both answers, and the view that is left -/
def twoA (C : Cf) (V0 Wf : Nat → TV) (D Hd Rt Ab Tp : Nat → Prop) (th sz gs : Nat → Nat) (nT : Nat) (V1 : Nat → TV) (np1 nv1 : Nat) (fs1 ms1 : List Nat) (H1 : Nat → Prop) (L1 : List Bk) (f1 : Nat → Nat) (V2 : Nat → TV) (np2 nv2 : Nat) (fs2 ms2 : List Nat) (H2 : Nat → Prop) (L2 : List Bk) (f2 : Nat → Nat) : Prop :=
  (oneA C V0 D Hd Rt Ab th V1 np1 nv1 fs1 ms1 H1 L1 f1 ∧ oneA C V0 D Hd Rt Ab th V2 np2 nv2 fs2 ms2 H2 L2 f2) ∧ tolA C th sz gs nT ∧
  ((∀ x, D x → (∃ c, cDm nv1 C.tp fs1 ms1 c ∧ x = f1 c) ∨ ∃ c, cDm nv2 C.tp fs2 ms2 c ∧ x = f2 c) ∧ (∀ x, Ab x → (∃ b, cAb V1 fs1 b ∧ x = f1 b) ∨ ∃ b, cAb V2 fs2 b ∧ x = f2 b) ∧ (∀ v w, v < 64 → w < 64 → f1 v ≠ f2 w) ∧ ∀ x, D x → x < 1920) ∧
  stru V0 D Hd Rt Tp ∧ jFin V0 D Hd Rt Ab th Wf ∧ ∀ v, v < 6 → D v
theorem sum_cls {Ids : List Nat} (hn : Ids.Nodup) {Q : Nat → Prop} {ph gv : Nat → Nat} {d : Nat} : ∀ R : List Nat, sumB (fun g => if gv g = d then (R.filter (fun c => dcd (Q c ∧ ph c = g))).length else 0) Ids ≤ (R.filter (fun c => dcd (Q c ∧ gv (ph c) = d))).length
  | [] => by
    rw [show (fun g => if gv g = d then (([] : List Nat).filter (fun c => dcd (Q c ∧ ph c = g))).length else 0) = fun _ => 0 from funext fun g => by
      by_cases e : gv g = d
      · rw [if_pos e]; rfl
      · rw [if_neg e], sumB_zero]
    exact Nat.zero_le _
  | c :: R => by
    have ih := sum_cls hn (Q := Q) (ph := ph) (gv := gv) (d := d) R
    have h1 : sumB (fun g => if gv g = d then ((c :: R).filter (fun c => dcd (Q c ∧ ph c = g))).length else 0) Ids ≤ sumB (fun g => (if gv g = d then (R.filter (fun c => dcd (Q c ∧ ph c = g))).length else 0) + if ph c = g then (if dcd (Q c ∧ gv (ph c) = d) = true then 1 else 0) else 0) Ids := by
      refine sumB_le (fun g _ => ?_)
      by_cases e : gv g = d
      · rw [if_pos e, if_pos e]
        by_cases z : Q c ∧ ph c = g
        · rw [List.filter_cons_of_pos (p := fun c => dcd (Q c ∧ ph c = g)) (dcd_iff.mpr z), if_pos z.2, if_pos (dcd_iff.mpr ⟨z.1, by rw [z.2, e]⟩)]
          exact Nat.le_refl _
        · rw [List.filter_cons_of_neg (p := fun c => dcd (Q c ∧ ph c = g)) (fun q => z (dcd_iff.mp q))]
          exact Nat.le_add_right _ _
      · rw [if_neg e]
        exact Nat.zero_le _
    rw [sumB_add] at h1
    have h2 := sumB_pick (d := ph c) (c := if dcd (Q c ∧ gv (ph c) = d) = true then 1 else 0) hn
    by_cases z : dcd (Q c ∧ gv (ph c) = d) = true
    · rw [if_pos z] at h1 h2
      rw [List.filter_cons_of_pos (p := fun c => dcd (Q c ∧ gv (ph c) = d)) z, List.length_cons]
      omega
    · rw [if_neg z] at h1 h2
      rw [List.filter_cons_of_neg (p := fun c => dcd (Q c ∧ gv (ph c) = d)) z]
      omega
theorem tgN_th {W : Nat → TV} {D : Nat → Prop} {th rk : Nat → Nat} (hok : vOK W D rk) (hs : vSol W D th) : ∀ {n c x : Nat}, D c → tgN W n c x → D x ∧ th c = th x
  | 0, c, x, hc, h => by
    obtain ⟨rfl, _⟩ := h
    exact ⟨hc, rfl⟩
  | n + 1, c, x, hc, h => by
    obtain ⟨e, h1, h2⟩ := h
    obtain ⟨g1, g2⟩ := tgN_th hok hs ((hok c hc).1 e h1).1 h2
    exact ⟨g1, ((hs c hc).1 e h1).trans g2⟩
theorem hUX_app {U1 U2 : List Uf} {X Y Z : Nat → Nat} (h1 : hUX U1 X Y Z) (h2 : hUX U2 X Y Z) (hne : ∀ u ∈ U1, ∀ v ∈ U2, uB u ≠ uB v) : hUX (U1 ++ U2) X Y Z := by
  intro u hu
  rcases List.mem_append.mp hu with q | q
  · obtain ⟨a1, a2, a3, a4⟩ := h1 u q
    refine ⟨a1, a2, fun m s hs h9 => ?_, fun v hv e => ?_⟩
    · obtain ⟨v, hv, g⟩ := a3 m s hs h9
      exact ⟨v, List.mem_append_left _ hv, g⟩
    · rcases List.mem_append.mp hv with z | z
      · exact a4 v z e
      · exact absurd e.symm (hne u q v z)
  · obtain ⟨a1, a2, a3, a4⟩ := h2 u q
    refine ⟨a1, a2, fun m s hs h9 => ?_, fun v hv e => ?_⟩
    · obtain ⟨v, hv, g⟩ := a3 m s hs h9
      exact ⟨v, List.mem_append_right _ hv, g⟩
    · rcases List.mem_append.mp hv with z | z
      · exact absurd e (hne v z u q)
      · exact a4 v z e
theorem ndp_ex : ∀ l : List Nat, ∃ m : List Nat, m.Nodup ∧ ∀ x, x ∈ m ↔ x ∈ l
  | [] => ⟨[], List.nodup_nil, fun _ => Iff.rfl⟩
  | x :: l => by
    obtain ⟨m, h1, h2⟩ := ndp_ex l
    by_cases z : x ∈ m
    · refine ⟨m, h1, fun y => (h2 y).trans ⟨fun q => List.mem_cons_of_mem _ q, fun q => ?_⟩⟩
      rcases List.mem_cons.mp q with e | e
      · rw [e]; exact (h2 x).mp z
      · exact e
    · refine ⟨x :: m, List.nodup_cons.mpr ⟨z, h1⟩, fun y => ?_⟩
      rw [List.mem_cons, List.mem_cons, h2 y]
section
variable {C : Cf} {V0 Wf V1 V2 V : Nat → TV} {D Hd Rt Ab Tp H1 H2 H : Nat → Prop} {th sz gs f f1 f2 idf ix X Y Z : Nat → Nat} {np np1 nv1 np2 nv2 nv nT : Nat} {fs ms fs1 ms1 fs2 ms2 : List Nat} {L L1 L2 : List Bk}
theorem oneA.an (h : oneA C V0 D Hd Rt Ab th V np nv fs ms H L f) {c : Nat} (dc : cDm nv C.tp fs ms c) (ha : anQ V0 D (tLR V0 D Hd Rt th) Hd (f c)) : c < 896 ∧ tLR V0 D Hd Rt th (f c) ∧ c ∉ fs ∧ ∃ a b, V c = some (.inr (.inr (a, b))) ∧ lfJ V0 (f c) = f a := by
  have hcode := fun {a b : Nat} (hv : V c = some (.inr (.inr (a, b)))) => (h.code dc hv).1
  obtain ⟨⟨em, _, _⟩, ⟨hf, hl, hct, hv⟩, _⟩ := h
  obtain ⟨_, h2, a, b, h3, h4⟩ := ha
  have e := h3
  rw [em.2.1 c dc] at e
  obtain ⟨a2, b2, e2, rfl, rfl⟩ := mpV_pair e
  refine ⟨(hcode e2).2, h2, fun z => ?_, a2, b2, e2, lfJ_eq h3⟩
  obtain ⟨_, x, t, e3, k1, _⟩ := hf.2.1 c z
  rw [e2] at e3
  cases e3
  exact h4 ((em.2.2.2.2.2.1 a2 ((em.2.2.2.1 c dc).2 a2 b2 e2).1).mpr k1)
theorem oneA.ancS (h : oneA C V0 D Hd Rt Ab th V np nv fs ms H L f) (hT : tolA C th sz gs nT) (d : Nat) : ((List.range 896).filter (fun c => dcd (cDm nv C.tp fs ms c ∧ anQ V0 D (tLR V0 D Hd Rt th) Hd (f c) ∧ th (lfJ V0 (f c)) = d))).length ≤ (ltP C th sz).count d := by
  rw [List.count_eq_countP]
  refine h.anc hT (List.nodup_range.filter _) (fun c hc => ?_)
  rw [List.mem_filter] at hc
  obtain ⟨h1, h2, h3⟩ := dcd_iff.mp hc.2
  obtain ⟨_, k1, k2, a, b, k3, k4⟩ := h.an h1 h2
  exact ⟨h1, k1, k2, a, b, k3, beq_iff_eq.mpr (by rw [← k4]; exact h3)⟩
/-- an unfold of this answer in the system -/
theorem oneA.eg (h : oneA C V0 D Hd Rt Ab th V np nv fs ms H L f) (hid : ∀ x z, D x → tg Wf x z → z = idf x) {b g w u : Nat} (hb : cAb V fs b) (t : tg Wf (f b) g) (q : (w = nd (th (f b)) (th (f b + 1)) ∧ u = nd (th (f b)) (th (f b + 2))) ∨ (w = nd (th (f b)) (th (f b + 2)) ∧ u = nd (th (f b)) (th (f b + 1)))) {Un : List Uf} (hU : ∀ u ∈ unO idf ix th f L, u ∈ Un) : (w, u) ∈ Eg Un g ∨ (u, w) ∈ Eg Un g := by
  obtain ⟨p, hp, p0, pb⟩ := h.edge hb
  obtain ⟨⟨em, ea, _⟩, _⟩ := h
  obtain ⟨e1, e2, e3, e4⟩ := ea b hb
  have hg := hid _ _ (em.1 b e2) t
  have hm := hU _ (unO_mem.mpr ⟨p, hp, p0, rfl⟩)
  have v1 : utv (fun v => th (f v)) p = nd (th (f b)) (th (f b + 1)) := by
    unfold utv
    rw [pb, ← e3]
  have v2 : uhv (fun v => th (f v)) p = nd (th (f b)) (th (f b + 2)) := by
    unfold uhv
    rw [pb, ← e4]
  have hE : (nd (th (f b)) (th (f b + 1)), nd (th (f b)) (th (f b + 2))) ∈ Eg Un g := Eg_mem.mpr ⟨_, hm, by show idf (f (bkB p)) = g; rw [pb, hg], v1, v2⟩
  rcases q with ⟨rfl, rfl⟩ | ⟨rfl, rfl⟩
  · exact Or.inl hE
  · exact Or.inr hE
/-- .. and what its values are -/
theorem oneA.vx (h : oneA C V0 D Hd Rt Ab th V np nv fs ms H L f) (hid : ∀ x, D x → tg Wf x (idf x)) {u : Uf} (hu : u ∈ unO idf ix th f L) : (∃ b, D b ∧ uG u = idf b ∧ dn1 (uL u) = th b) ∧ xv V0 D (tLR V0 D Hd Rt th) Ab th Wf (uG u) (uL u) ∧ xv V0 D (tLR V0 D Hd Rt th) Ab th Wf (uG u) (uH u) ∧ ∃ g, g < C.ng ∧ (C.tb g).1 = 65 ∧ uA u = ix g := by
  obtain ⟨q, hq, h0, rfl⟩ := unO_mem.mp hu
  obtain ⟨_, lR, lg, l65, _⟩ := h.lt hq
  have hb := h.cab hq h0
  obtain ⟨⟨em, ea, _⟩, _⟩ := h
  obtain ⟨e1, e2, e3, e4⟩ := ea _ hb
  have db := em.1 _ e2
  have ht := hid _ db
  have v1 : utv (fun v => th (f v)) q = nd (th (f (bkB q))) (th (f (bkB q) + 1)) := by
    unfold utv
    rw [← e3]
  have v2 : uhv (fun v => th (f v)) q = nd (th (f (bkB q))) (th (f (bkB q) + 2)) := by
    unfold uhv
    rw [← e4]
  refine ⟨⟨f (bkB q), db, rfl, ?_⟩, Or.inr ⟨_, f (bkB q), e1, ht, Or.inl ⟨v1, rfl⟩⟩, Or.inr ⟨_, f (bkB q), e1, ht, Or.inr ⟨v2, rfl⟩⟩, bkG q, lg, l65 h0, rfl⟩
  show dn1 (utv (fun v => th (f v)) q) = _
  rw [v1, dn1_nd]
/-- one code or two of this answer -/
theorem oneA.c1 (h : oneA C V0 D Hd Rt Ab th V np nv fs ms H L f) {c w a b : Nat} (dc : cDm nv C.tp fs ms c) (hr : tLR V0 D Hd Rt th (f c)) (hv : V0 (f c) = some (.inr (.inr (a, b)))) (hw : th (f c) = w) : 1 ≤ (ctO V0 D Hd Rt th V (cDm nv C.tp fs ms) fs f).count w + ((unO idf ix th f L).map uL).count w + ((unO idf ix th f L).map uH).count w + (cmO th f L).count w := by
  have e := hv
  rw [h.1.1.2.1 c dc] at e
  obtain ⟨a2, b2, e2, _, _⟩ := mpV_pair e
  exact h.cnt (S := [c]) (List.nodup_cons.mpr ⟨fun q => (by cases q), List.nodup_nil⟩) (fun x hx => by
    rw [List.mem_singleton.mp hx]
    exact ⟨dc, hr, ⟨a2, b2, e2⟩, hw⟩)
theorem oneA.c2 (h : oneA C V0 D Hd Rt Ab th V np nv fs ms H L f) {c d w a b a3 b3 : Nat} (dc : cDm nv C.tp fs ms c) (dd : cDm nv C.tp fs ms d) (hr : tLR V0 D Hd Rt th (f c)) (hr2 : tLR V0 D Hd Rt th (f d)) (hv : V0 (f c) = some (.inr (.inr (a, b)))) (hv2 : V0 (f d) = some (.inr (.inr (a3, b3)))) (hw : th (f c) = w) (hw2 : th (f d) = w) (hne : f c ≠ f d) : 2 ≤ (ctO V0 D Hd Rt th V (cDm nv C.tp fs ms) fs f).count w + ((unO idf ix th f L).map uL).count w + ((unO idf ix th f L).map uH).count w + (cmO th f L).count w := by
  have e := hv
  have g := hv2
  rw [h.1.1.2.1 c dc] at e
  rw [h.1.1.2.1 d dd] at g
  obtain ⟨a2, b2, e2, _, _⟩ := mpV_pair e
  obtain ⟨a4, b4, g2, _, _⟩ := mpV_pair g
  exact h.cnt (S := [c, d]) (List.nodup_cons.mpr ⟨fun q => by
    rw [List.mem_singleton] at q
    exact hne (by rw [q]), List.nodup_cons.mpr ⟨fun q => (by cases q), List.nodup_nil⟩⟩) (fun x hx => by
    rcases List.mem_cons.mp hx with rfl | hx
    · exact ⟨dc, hr, ⟨a2, b2, e2⟩, hw⟩
    · rw [List.mem_singleton.mp hx]
      exact ⟨dd, hr2, ⟨a4, b4, g2⟩, hw2⟩)
end
