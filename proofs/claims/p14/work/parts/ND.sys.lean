/-! THE SYSTEM of two answers is what the count wants -/
/-- a list's code whose value is a pair comes to a pair -/
theorem res_pair {D Hd Rt Ab : Nat → Prop} {V0 Wf : Nat → TV} {th : Nat → Nat} (hJ : jFin V0 D Hd Rt Ab th Wf) {c : Nat} (dc : D c) (hr : tLR V0 D Hd Rt th c) (h9 : 11 < th c) : ∃ z a b, D z ∧ tLR V0 D Hd Rt th z ∧ V0 z = some (.inr (.inr (a, b))) ∧ th z = th c := by
  obtain ⟨_, ⟨rk, hok⟩, _, hs, hfree, _, _, hty, hpr, _⟩ := hJ
  obtain ⟨z, hz⟩ := tg_ex hok _ c (Nat.lt_succ_self _) dc
  obtain ⟨n, hn⟩ := id hz
  obtain ⟨dz, ez⟩ := tgN_th hok hs dc hn
  have lz := (tg_ty hok hty dc hz).1 hr
  have rz := tg_res hz
  match e : Wf z with
  | none =>
    have := hfree z e
    omega
  | some (.inl x) => exact absurd e (rz x)
  | some (.inr (.inl n)) =>
    have := (hok z dz).2.1 n e
    have := (hs z dz).2.1 n e
    omega
  | some (.inr (.inr (a, b))) => exact ⟨z, a, b, dz, lz, (hpr z a b).mp e, ez.symm⟩
section
variable {C : Cf} {V0 Wf V1 V2 : Nat → TV} {D Hd Rt Ab Tp H1 H2 : Nat → Prop} {th sz gs f1 f2 : Nat → Nat} {np1 nv1 np2 nv2 nT : Nat} {fs1 ms1 fs2 ms2 : List Nat} {L1 L2 : List Bk}
theorem twoA.gvn (h : twoA C V0 Wf D Hd Rt Ab Tp th sz gs nT V1 np1 nv1 fs1 ms1 H1 L1 f1 V2 np2 nv2 fs2 ms2 H2 L2 f2) : ∃ (Un : List Uf) (Ids Ds P : List Nat) (gv : Nat → Nat) (It : Nat → List Nat) (Vx : Nat → Nat → Bool) (LV : Nat → Prop) (CT CM PM Nm : List Nat) (mU nA : Nat) (X Y Z : Nat → Nat), gvn (nmO th) (tnF V0 D th (tLR V0 D Hd Rt th) Wf) (sgF V0 D th (tLR V0 D Hd Rt th)) Un Ids Ds P gv It Vx LV CT CM PM Nm mU nA X Y Z ∧ ∀ v, nmO th v = true → v ∈ Nm := by
  obtain ⟨⟨o1, o2⟩, hT, ⟨hD, hA, hX0, h19⟩, hst, hJ, h6⟩ := h
  have hres := fun {c : Nat} => res_pair hJ (c := c)
  obtain ⟨_, ⟨rk, hok⟩, hs0, hs, hfree, _, hn, hty, hpr, hjk⟩ := id hJ
  obtain ⟨idf, hid⟩ : ∃ idf : Nat → Nat, ∀ x, D x → tg Wf x (idf x) := by
    have : ∀ x, ∃ z, D x → tg Wf x z := fun x => by
      by_cases d : D x
      · obtain ⟨z, hz⟩ := tg_ex hok _ x (Nat.lt_succ_self _) d
        exact ⟨z, fun _ => hz⟩
      · exact ⟨0, fun q => absurd q d⟩
    exact ⟨fun x => Classical.choose (this x), fun x => Classical.choose_spec (this x)⟩
  have hidu : ∀ x z, D x → tg Wf x z → z = idf x := fun x z d t => tg_uniq t (hid x d)
  have hidD : ∀ x, D x → D (idf x) ∧ th (idf x) = th x := fun x d => by
    obtain ⟨n, t⟩ := hid x d
    obtain ⟨a, b⟩ := tgN_th hok hs d t
    exact ⟨a, b.symm⟩
  have hidI : ∀ x, D x → idf x ∈ (List.range 1920).filter (fun g => dcd (idsL D Wf g)) := fun x d => by
    have := (hidD x d).1
    exact List.mem_filter.mpr ⟨List.mem_range.mpr (h19 _ this), dcd_iff.mpr ⟨this, tg_res (hid x d)⟩⟩
  obtain ⟨ix, sel, hix⟩ := idx_ex (glR C 65 0 C.ng)
  have hix2 : ∀ g, g < C.ng → (C.tb g).1 = 65 → ix g < (glR C 65 0 C.ng).length ∧ sel (ix g) = g := fun g h1 h2 => hix g (mem_glR.mpr ⟨⟨Nat.zero_le _, by omega⟩, h2⟩)
  have hix3 : ∀ g, g < C.ng → (C.tb g).1 = 65 → (fun a => th (px C (sel a))) (ix g) = th (px C g) ∧ (fun a => th (py C (sel a))) (ix g) = th (py C g) ∧ (fun a => th (pz C (sel a))) (ix g) = th (pz C g) := fun g h1 h2 => by
    simp only [(hix2 g h1 h2).2, and_self]
  obtain ⟨Ds, dn, dm⟩ := ndp_ex ((((List.range 1920).filter (fun g => dcd (idsL D Wf g))).map th).filter (fun d => decide (11 < d)))
  have hun : ∀ u ∈ unO idf ix th f1 L1 ++ unO idf ix th f2 L2, (∃ b, D b ∧ uG u = idf b ∧ dn1 (uL u) = th b) ∧ xv V0 D (tLR V0 D Hd Rt th) Ab th Wf (uG u) (uL u) ∧ xv V0 D (tLR V0 D Hd Rt th) Ab th Wf (uG u) (uH u) ∧ ∃ g, g < C.ng ∧ (C.tb g).1 = 65 ∧ uA u = ix g := fun u hu => by
    rcases List.mem_append.mp hu with q | q
    · exact o1.vx hid q
    · exact o2.vx hid q
  have hEg : ∀ g w u, egV Ab th Wf g w u → (w, u) ∈ Eg (unO idf ix th f1 L1 ++ unO idf ix th f2 L2) g ∨ (u, w) ∈ Eg (unO idf ix th f1 L1 ++ unO idf ix th f2 L2) g := by
    rintro g w u ⟨b, hb, t, q⟩
    rcases hA b hb with ⟨b1, k, rfl⟩ | ⟨b1, k, rfl⟩
    · exact o1.eg hidu k t q (fun u hu => List.mem_append_left _ hu)
    · exact o2.eg hidu k t q (fun u hu => List.mem_append_right _ hu)
  have hLk : ∀ n g w u, lkN Ab th Wf g n w u → Lnk (Eg (unO idf ix th f1 L1 ++ unO idf ix th f2 L2) g) w u := by
    intro n
    induction n with
    | zero =>
      intro g w u e
      have e : w = u := e
      rw [e]
      exact Lnk.rfl'
    | succ n ih =>
      rintro g w u ⟨e, g1, g2⟩
      exact (ih g w e g1).step (hEg g e u g2)
  have hAD : ∀ b, Ab b → D b := fun b hb => by
    rcases hA b hb with ⟨b1, k, rfl⟩ | ⟨b1, k, rfl⟩
    · exact o1.1.1.1 _ (o1.1.2.1 b1 k).2.1
    · exact o2.1.1.1 _ (o2.1.2.1 b1 k).2.1
  have hvx : ∀ g w, xv V0 D (tLR V0 D Hd Rt th) Ab th Wf g w → ∃ t, w = nd (th g) t := by
    rintro g w (⟨c, ⟨dc, _, a, b, e, n, t⟩, rfl⟩ | ⟨u, b, hb, ⟨n, t⟩, q⟩)
    · have da := (hst.1 c a b dc e).2.1.1
      rw [(hs0 c dc).2.2 a b e, (tgN_th hok hs da t).2]
      exact ⟨_, rfl⟩
    · have eb := (tgN_th hok hs (hAD b hb) t).2
      rcases q with ⟨q, _⟩ | ⟨q, _⟩
      · exact ⟨_, by rw [q, eb]⟩
      · exact ⟨_, by rw [q, eb]⟩
  have hLV : ∀ x y, (∃ c, D c ∧ tLR V0 D Hd Rt th c ∧ th c = nd x y) → ∃ c, D c ∧ tLR V0 D Hd Rt th c ∧ th c = y := by
    rintro x y ⟨c, dc, lc, e⟩
    obtain ⟨z, a, b, dz, lz, ez, tz⟩ := hres dc lc (by rw [e]; exact nd_big x y)
    rw [(hs0 z dz).2.2 a b ez, e] at tz
    exact ⟨b, (hst.1 z a b dz ez).2.1.2, gLR_right dz ez lz, (nd_inj tz).2⟩
  -- an item of a value
  have hit : ∀ w, (∃ c, D c ∧ tLR V0 D Hd Rt th c ∧ th c = w) → 11 < w → ∃ z a b, D z ∧ tLR V0 D Hd Rt th z ∧ V0 z = some (.inr (.inr (a, b))) ∧ th z = w := by
    rintro w ⟨c, dc, lc, rfl⟩ h9
    exact hres dc lc h9
  have hid1 : ∀ {z a b w}, D z → tLR V0 D Hd Rt th z → V0 z = some (.inr (.inr (a, b))) → th z = w → 11 < dn1 w → idf a ∈ (List.range 1920).filter (fun g => dcd (idsL D Wf g)) ∧ th (idf a) = dn1 w ∧ vxB V0 Wf D (tLR V0 D Hd Rt th) Ab th (idf a) w = true := fun {z a b w} dz lz ez tz h9 => by
    have da := (hst.1 z a b dz ez).2.1.1
    have e1 : th a = dn1 w := by rw [← tz, (hs0 z dz).2.2 a b ez, dn1_nd]
    refine ⟨hidI a da, (hidD a da).2.trans e1, dcd_iff.mpr ⟨by rw [(hidD a da).2, e1]; exact h9, Or.inl ⟨z, ⟨dz, lz, a, b, ez, hid a da⟩, tz⟩⟩⟩
  refine ⟨unO idf ix th f1 L1 ++ unO idf ix th f2 L2, (List.range 1920).filter (fun g => dcd (idsL D Wf g)), Ds, ltP C th sz, th, itL V0 D (tLR V0 D Hd Rt th) Hd th idf, vxB V0 Wf D (tLR V0 D Hd Rt th) Ab th, fun w => ∃ c, D c ∧ tLR V0 D Hd Rt th c ∧ th c = w,
    ctO V0 D Hd Rt th V1 (cDm nv1 C.tp fs1 ms1) fs1 f1 ++ ctO V0 D Hd Rt th V2 (cDm nv2 C.tp fs2 ms2) fs2 f2, cmO th f1 L1 ++ cmO th f2 L2, (glR C 77 0 C.ng).map (fun g => th (px C g)), ((List.range 6).map th).filter (fun d => decide (11 < d)), (cmO th f1 L1).length + (cmO th f2 L2).length, (glR C 65 0 C.ng).length, fun a => th (px C (sel a)), fun a => th (py C (sel a)), fun a => th (pz C (sel a)),
    ⟨⟨⟨List.nodup_range.filter _, dn, fun d hd => ?_⟩, fun g hg h9 => ?_, fun g hg h9 w hw => ⟨?_, ?_⟩, fun g hg h9 w => ?_, fun u hu h9 => ?_, fun d hd => ?_, fun w hw h9 hsg hd => ?_, fun w hw h9 hsg hd htn => ?_, hLV⟩,
     ⟨fun w hw h9 hsg hd => ?_, ?_, ⟨?_, ?_⟩, fun w hw => ?_, fun p hp => ?_⟩, ⟨?_, fun u hu => ?_, fun u hu d h9 => ?_, fun u hu => ?_⟩, ⟨fun v => ?_, ?_, fun v hv => ?_⟩, ltP_sz hT⟩, fun v hv => ?_⟩
  · exact of_decide_eq_true (List.mem_filter.mp ((dm d).mp hd)).2
  · exact (dm _).mpr (List.mem_filter.mpr ⟨List.mem_map.mpr ⟨g, hg, rfl⟩, decide_eq_true h9⟩)
  · exact hvx g w (dcd_iff.mp hw).2
  · have hx := (dcd_iff.mp hw).2
    obtain ⟨dg, rg⟩ := dcd_iff.mp (List.mem_filter.mp hg).2
    rcases hjk g w hx with ⟨u, ⟨c, ⟨dc, lc, a2, b2, e2, t⟩, ec, a, b, e, na⟩, n, hl⟩ | ⟨ho, _⟩
    · rw [e2] at e
      cases e
      have da := (hst.1 c a2 b2 dc e2).2.1.1
      refine ⟨u, List.mem_map.mpr ⟨c, List.mem_filter.mpr ⟨List.mem_range.mpr (h19 c dc), dcd_iff.mpr ⟨⟨dc, lc, a2, b2, e2, na⟩, ?_⟩⟩, ec⟩, (hLk n g w u hl).symm'⟩
      rw [lfJ_eq e2]
      exact (hidu a2 g da t).symm
    · exfalso
      have hh := ho g dg (tg_self rg)
      have hv := (hst.2.1 g hh).1
      match e : Wf g with
      | none =>
        have := hfree g e
        omega
      | some (.inl x) => exact rg x e
      | some (.inr (.inl n)) =>
        have := (hok g dg).2.1 n e
        have := (hs g dg).2.1 n e
        omega
      | some (.inr (.inr (a, b))) => exact (hst.1 g a b dg ((hpr g a b).mp e)).1 hv
  · cases q : vxB V0 Wf D (tLR V0 D Hd Rt th) Ab th g w with
    | false => rfl
    | true =>
      have := (dcd_iff.mp q).1
      omega
  · obtain ⟨⟨b, db, e1, _⟩, x1, x2, _⟩ := hun u hu
    refine ⟨by rw [e1]; exact hidI b db, dcd_iff.mpr ⟨h9, x1⟩, dcd_iff.mpr ⟨h9, x2⟩⟩
  · have s1 := sum_cls (Ids := (List.range 1920).filter (fun g => dcd (idsL D Wf g))) (List.nodup_range.filter (fun g => dcd (idsL D Wf g))) (Q := anQ V0 D (tLR V0 D Hd Rt th) Hd) (ph := fun c => idf (lfJ V0 c)) (gv := th) (d := d) (List.range 1920)
    have s2 : itS ((List.range 1920).filter (fun g => dcd (idsL D Wf g))) th (itL V0 D (tLR V0 D Hd Rt th) Hd th idf) d ≤ ((List.range 1920).filter (fun c => dcd (anQ V0 D (tLR V0 D Hd Rt th) Hd c ∧ th (idf (lfJ V0 c)) = d))).length := by
      refine Nat.le_trans ?_ s1
      unfold itS
      refine sumB_le (fun g _ => ?_)
      by_cases z : th g = d
      · rw [if_pos z, if_pos z]
        unfold itL
        rw [List.length_map]
        exact Nat.le_refl _
      · rw [if_neg z, if_neg z]
        exact Nat.le_refl _
    have a1 := o1.ancS hT d
    have a2 := o2.ancS hT d
    have s3 := sub_len ((List.range 1920).filter (fun c => dcd (anQ V0 D (tLR V0 D Hd Rt th) Hd c ∧ th (idf (lfJ V0 c)) = d))) (((List.range 896).filter (fun c => dcd (cDm nv1 C.tp fs1 ms1 c ∧ anQ V0 D (tLR V0 D Hd Rt th) Hd (f1 c) ∧ th (lfJ V0 (f1 c)) = d))).map f1 ++ ((List.range 896).filter (fun c => dcd (cDm nv2 C.tp fs2 ms2 c ∧ anQ V0 D (tLR V0 D Hd Rt th) Hd (f2 c) ∧ th (lfJ V0 (f2 c)) = d))).map f2) (List.nodup_range.filter _) (fun c hc => by
      obtain ⟨ha, e⟩ := dcd_iff.mp (List.mem_filter.mp hc).2
      obtain ⟨dc, lc, a, b, e2, na⟩ := id ha
      have da := (hst.1 c a b dc e2).2.1.1
      have e3 : th (lfJ V0 c) = d := by
        rw [lfJ_eq e2] at e ⊢
        rw [← (hidD a da).2]
        exact e
      rcases hD c dc with ⟨c2, k, rfl⟩ | ⟨c2, k, rfl⟩
      · exact List.mem_append_left _ (List.mem_map.mpr ⟨c2, List.mem_filter.mpr ⟨List.mem_range.mpr (o1.an k ha).1, dcd_iff.mpr ⟨k, ha, e3⟩⟩, rfl⟩)
      · exact List.mem_append_right _ (List.mem_map.mpr ⟨c2, List.mem_filter.mpr ⟨List.mem_range.mpr (o2.an k ha).1, dcd_iff.mpr ⟨k, ha, e3⟩⟩, rfl⟩))
    rw [List.length_append, List.length_map, List.length_map] at s3
    omega
  · obtain ⟨z, a, b, dz, lz, ez, tz⟩ := hit w hw h9
    exact ⟨_, hid1 dz lz ez tz hd⟩
  · have ht : tnP V0 D th (tLR V0 D Hd Rt th) Wf w := @of_decide_eq_true _ (Classical.propDecidable _) htn
    obtain ⟨c, d, a, b, e, g, ⟨dc, dd, lc, ld⟩, e1, e2, t1, t2, hne⟩ := ht
    obtain ⟨i1, i2, i3⟩ := hid1 dc lc e1 t1 hd
    obtain ⟨j1, j2, j3⟩ := hid1 dd ld e2 t2 hd
    have da := (hst.1 c a b dc e1).2.1.1
    have de := (hst.1 d e g dd e2).2.1.1
    exact ⟨_, i1, _, j1, fun q => hne ⟨idf a, hid a da, by rw [q]; exact hid e de⟩, ⟨i2, i3⟩, j2, j3⟩
  · refine Classical.byContradiction (fun hno => ?_)
    have : sgF V0 D th (tLR V0 D Hd Rt th) w = true := @decide_eq_true _ (Classical.propDecidable _) (fun c d a b e g dc dd lc ld hc hd ec ed => Classical.byContradiction (fun hne => hno (by
      rw [List.count_append, List.map_append, List.count_append, List.map_append, List.count_append, List.count_append]
      rcases hD c dc with ⟨c2, k1, rfl⟩ | ⟨c2, k1, rfl⟩
      · rcases hD d dd with ⟨d2, k2, rfl⟩ | ⟨d2, k2, rfl⟩
        · have := o1.c2 (idf := idf) (ix := ix) k1 k2 lc ld hc hd ec ed hne
          omega
        · have := o1.c1 (idf := idf) (ix := ix) k1 lc hc ec
          have := o2.c1 (idf := idf) (ix := ix) k2 ld hd ed
          omega
      · rcases hD d dd with ⟨d2, k2, rfl⟩ | ⟨d2, k2, rfl⟩
        · have := o2.c1 (idf := idf) (ix := ix) k1 lc hc ec
          have := o1.c1 (idf := idf) (ix := ix) k2 ld hd ed
          omega
        · have := o2.c2 (idf := idf) (ix := ix) k1 k2 lc ld hc hd ec ed hne
          omega)))
    rw [this] at hsg
    cases hsg
  · rw [List.countP_append]
    have := o1.ctl hT
    have := o2.ctl hT
    omega
  · rw [List.length_append]
    exact Nat.le_refl _
  · rw [List.length_append]
    have := o1.num (idf := idf) (ix := ix)
    have := o2.num (idf := idf) (ix := ix)
    omega
  · rcases List.mem_append.mp hw with q | q
    · exact o1.cm q
    · exact o2.cm q
  · exact List.mem_append_right _ hp
  · refine hUX_app (o1.hX hix3) (o2.hX hix3) (fun u hu v hv => ?_)
    obtain ⟨q, hq, _, rfl⟩ := unO_mem.mp hu
    obtain ⟨p, hp, _, rfl⟩ := unO_mem.mp hv
    have l1 := (o1.lt hq).2.1
    have l2 := (o2.lt hp).2.1
    exact hX0 _ _ (by omega) (by omega)
  · obtain ⟨_, _, _, g, g1, g2, g3⟩ := hun u hu
    rw [g3]
    exact (hix2 g g1 g2).1
  · obtain ⟨_, _, _, g, g1, g2, g3⟩ := hun u hu
    have z := ltP_hTd hT g1 g2 d
    simp only [g3, (hix2 g g1 g2).2]
    exact z
  · obtain ⟨⟨b, db, e1, e2⟩, _⟩ := hun u hu
    rw [e1, e2]
    exact (hidD b db).2
  · rw [nmO_iff, List.mem_filter, List.mem_map, decide_eq_true_eq]
    constructor
    · rintro ⟨q, k, hk, e⟩
      exact ⟨⟨k, List.mem_range.mpr hk, e⟩, q⟩
    · rintro ⟨⟨k, hk, e⟩, q⟩
      exact ⟨q, k, List.mem_range.mp hk, e⟩
  · refine Nat.le_trans (List.length_filter_le _ _) ?_
    rw [List.length_map, List.length_range]
    exact Nat.le_refl _
  · rw [List.mem_filter, List.mem_map, decide_eq_true_eq] at hv
    obtain ⟨⟨k, hk, e⟩, q⟩ := hv
    have k6 := List.mem_range.mp hk
    exact ⟨q, k, h6 k k6, tLR_of ⟨h6 k k6, Or.inr (Or.inl ⟨show k < 128 by omega, fun z => (hst.2.1 k z).2 (Or.inl k6)⟩)⟩, e⟩
  · rw [nmO_iff] at hv
    obtain ⟨q, k, hk, e⟩ := hv
    exact List.mem_filter.mpr ⟨List.mem_map.mpr ⟨k, List.mem_range.mpr hk, e⟩, decide_eq_true q⟩
/-- few leaves -/
theorem twoA.few (h : twoA C V0 Wf D Hd Rt Ab Tp th sz gs nT V1 np1 nv1 fs1 ms1 H1 L1 f1 V2 np2 nv2 fs2 ms2 H2 L2 f2) {y : Nat} (hy : y < 6) : lam (nmO th) (tnF V0 D th (tLR V0 D Hd Rt th) Wf) (sgF V0 D th (tLR V0 D Hd Rt th)) (th y) ≤ 500000 := by
  by_cases q : 11 < th y
  · obtain ⟨Un, Ids, Ds, P, gv, It, Vx, LV, CT, CM, PM, Nm, mU, nA, X, Y, Z, hg, hn⟩ := h.gvn
    exact leaves_few hg (hn _ (nmO_iff.mpr ⟨q, y, hy, rfl⟩))
  · rw [lam_low (by omega)]
    omega
end
