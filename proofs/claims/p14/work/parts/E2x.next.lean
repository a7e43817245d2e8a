/-! WHAT A STEP ADDS TO THE HISTORY -/
def hA3 (C : Cf) (td : List It) (nv : Nat) (K : Kx) (fx fy fz : Tf) (V : Nat → TV) (fs ms : List Nat) : Prop := ∃ (L : List Bk) (bq : Bk), hLk C nv V fs ms L ∧ (∀ p ∈ L, bkB p < nv) ∧ HsO C.tb td nv (uni (uni K fx (atm 10)) fy fz) L ∧ hCt C td L ∧ (bkB bq = nv ∧ bkK bq = 0 ∧ bkG bq < C.ng) ∧
  HsO C.tb (.inr (true, vr (nv + 1), fy, vr (nv + 2)) :: td) (nv + 3) (uni (uni K fx (prf (vr nv) (vr (nv + 1)))) fz (prf (vr nv) (vr (nv + 2)))) (bq :: L) ∧ hCt C (.inr (true, vr (nv + 1), fy, vr (nv + 2)) :: td) (bq :: L)
def hM3 (C : Cf) (td : List It) (nv : Nat) (K : Kx) (fx fy : Tf) (V : Nat → TV) (fs ms : List Nat) : Prop := ∃ (L : List Bk) (b2 b1 : Bk), hLk C nv V fs ms L ∧ (∀ p ∈ L, bkB p < nv) ∧ ((bkB b2 = nv ∧ bkK b2 = 2 ∧ bkG b2 < C.ng) ∧ fx = tb1 C.tb (bkG b2) ∧ HsO C.tb td (nv + 1) (uni K fy (prf fx (vr nv))) (b2 :: L) ∧ hCt C td (b2 :: L)) ∧
  (bkB b1 = nv ∧ bkK b1 = 1 ∧ bkG b1 < C.ng) ∧ HsO C.tb (.inr (false, fx, vr (nv + 1), atm 10) :: td) (nv + 2) (uni K fy (prf (vr nv) (vr (nv + 1)))) (b1 :: L) ∧ hCt C (.inr (false, fx, vr (nv + 1), atm 10) :: td) (b1 :: L)
theorem hLk_mv3 {C : Cf} {td : List It} {nv : Nat} {K : Kx} {fx fy fz : Tf} {V W : Nat → TV} {fs ms : List Nat} (h : hA3 C td nv K fx fy fz V fs ms) (hl : ∀ L, hLk C nv V fs ms L → hLk C nv W fs ms L) : hA3 C td nv K fx fy fz W fs ms := by
  obtain ⟨L, bq, h1, h2⟩ := h
  exact ⟨L, bq, hl L h1, h2⟩
theorem HsO.lt {tb : Tb} {td : List It} {nv : Nat} {K : Kx} {L : List Bk} (h : HsO tb td nv K L) : ∀ p ∈ L, bkB p < nv := fun p hp => by
  have := (cov_in h.1).2 p hp
  have := bkS_pos p
  omega
theorem hCt_inr {C : Cf} {td : List It} {L : List Bk} {x : Bool × Tf × Tf × Tf} : hCt C (.inr x :: td) L ↔ hCt C td L := by
  unfold hCt
  simp only [sumI, ioc, Nat.zero_add]
/-- a block that goes on counts no more -/
theorem hCt_nxt {C : Cf} {td : List It} {L : List Bk} {q : Bk} (h : hCt C td L) (hq : bkP q ≠ 0) : hCt C td (q :: L) := fun g hg => by
  have := h g hg
  rw [List.countP_cons, if_neg (by
    rw [decide_eq_true_eq]
    exact fun z => hq z.1)]
  exact this
/-- a goal that is begun -/
theorem hCt_new {C : Cf} (hC : cfOK C) {td : List It} {L : List Bk} {q : Bk} {g : Nat} (hg : g < C.ng) (h : hCt C (.inl g :: td) L) (hq : bkG q = g) (hk : (C.tb g).1 = 65 ∨ (C.tb g).1 = 77) : hCt C td (q :: L) := fun g2 hg2 => by
  have h1 := h g2 hg2
  simp only [sumI, ioc] at h1
  rw [List.countP_cons]
  by_cases e : g2 = g
  · have : 1 ≤ C.oc g g := (hC.2.2.2 g hg).2.2.2 (Or.inr (by rw [← e]; exact hg2))
    rw [e] at h1 ⊢
    by_cases z : decide (bkP q = 0 ∧ bkG q = g) = true
    · rw [if_pos z]; omega
    · rw [if_neg z]; omega
  · rw [if_neg (by
      rw [decide_eq_true_eq]
      exact fun z => e (by rw [← z.2, hq]))]
    omega
theorem hCt_pop {C : Cf} {td : List It} {L : List Bk} {g : Nat} (h : hCt C (.inl g :: td) L) : hCt C td L := fun g2 hg2 => by
  have h1 := h g2 hg2
  simp only [sumI, ioc] at h1
  omega
section
variable {C : Cf} {td : List It} {nv : Nat} {K : Kx} {V : Nat → TV} {fs ms : List Nat} {L : List Bk}
theorem hA3_told (hC : cfOK C) {g : Nat} (hg : g < C.ng) (hk : (C.tb g).1 = 65) (h : HsO C.tb (.inl g :: td) nv K L) (hc : hCt C (.inl g :: td) L) (hl : hLk C nv V fs ms L) : hA3 C td nv K (tb1 C.tb g) (tb2 C.tb g) (tb3 C.tb g) V fs ms := by
  have nw := hCt_new hC (q := (nv, 0, g, 0, nv)) hg hc rfl (Or.inl hk)
  refine ⟨L, (nv, 0, g, 0, nv), hl, h.lt, h.pop.sub (fun r hr => hr.1.1), hCt_pop hc, ⟨rfl, rfl, hg⟩, HsO.new h.pop (fun r hr => hr.1.1) (Or.inl ⟨rfl, hk⟩) (Or.inr (Or.inl ⟨rfl, rfl⟩)) (fun r hr => ?_), hCt_inr.mpr nw⟩
  exact ⟨fun _ => ⟨fun _ => ⟨hr.1.2, hr.2⟩, fun z => absurd rfl z⟩, fun z => (by cases z), fun z => (by cases z)⟩
theorem hA3_item {x y z : Tf} (h : HsO C.tb (.inr (true, x, y, z) :: td) nv K L) (hc : hCt C (.inr (true, x, y, z) :: td) L) (hl : hLk C nv V fs ms L) : hA3 C td nv K x y z V fs ms := by
  have hc2 := hCt_inr.mp hc
  obtain ⟨h1, h2, h3, h4, bs, ⟨b, bt, e, ⟨p, hp, p1, p2, p3, p4, p5⟩, h5⟩, h6⟩ := id h
  have hpb := (cov_in h1).2 p hp
  have hb0 : bkB p ≠ 0 := by omega
  rw [p2] at hb0
  refine ⟨L, (nv, 0, bkG p, b, bkR p), hl, h.lt, h.fin (fun r hr => ⟨hr.1.1, hr.1.2, hr.2⟩), hc2, ⟨rfl, rfl, (hl.2.2.2.2 p hp).1⟩, ?_, hCt_inr.mpr (hCt_nxt hc2 hb0)⟩
  refine HsO.nxt (p := p) (b := b) (k := 0) (bt := bt) h ⟨b, bt, rfl, ⟨p, hp, p1, p2, p3, p4, p5⟩, h5⟩ h5 hp p2 (Or.inl ⟨rfl, p1⟩) (fun r hr => hr.1.1) (Or.inr (Or.inl ⟨rfl, by rw [p4]⟩)) (fun r hr => ?_)
  refine ⟨fun _ => ⟨fun q => absurd q hb0, fun _ => ?_⟩, fun q => (by cases q), fun q => (by cases q)⟩
  have k1 := hr.1.2
  have k2 := hr.2
  rw [p3] at k1
  rw [p5] at k2
  exact ⟨k1, k2⟩
theorem hM3_told (hC : cfOK C) {g : Nat} (hg : g < C.ng) (hk : (C.tb g).1 = 77) (h : HsO C.tb (.inl g :: td) nv K L) (hc : hCt C (.inl g :: td) L) (hl : hLk C nv V fs ms L) : hM3 C td nv K (tb1 C.tb g) (tb2 C.tb g) V fs ms := by
  have n2 := hCt_new hC (q := (nv, 2, g, 0, nv)) hg hc rfl (Or.inr hk)
  have n1 := hCt_new hC (q := (nv, 1, g, 0, nv)) hg hc rfl (Or.inr hk)
  refine ⟨L, (nv, 2, g, 0, nv), (nv, 1, g, 0, nv), hl, h.lt, ⟨⟨rfl, rfl, hg⟩, rfl, HsO.new h.pop (fun r hr => hr.1) (Or.inr ⟨Or.inr rfl, hk⟩) (Or.inl ⟨rfl, rfl⟩) (fun r hr => ?_), n2⟩, ⟨rfl, rfl, hg⟩, HsO.new h.pop (fun r hr => hr.1) (Or.inr ⟨Or.inl rfl, hk⟩) (Or.inr (Or.inr ⟨rfl, _, rfl⟩)) (fun r hr => ?_), hCt_inr.mpr n1⟩
  · exact ⟨fun z => (by cases z), fun z => (by cases z), fun _ => ⟨fun _ => hr.2, fun z => absurd rfl z⟩⟩
  · exact ⟨fun z => (by cases z), fun _ => ⟨fun _ => hr.2, fun z => absurd rfl z⟩, fun z => (by cases z)⟩
theorem hM3_item {x y z : Tf} (h : HsO C.tb (.inr (false, x, y, z) :: td) nv K L) (hc : hCt C (.inr (false, x, y, z) :: td) L) (hl : hLk C nv V fs ms L) : hM3 C td nv K x y V fs ms := by
  have hc2 := hCt_inr.mp hc
  obtain ⟨h1, h2, h3, h4, bs, ⟨b, bt, e, ⟨p, hp, p1, p2, p3, p4⟩, h5⟩, h6⟩ := id h
  have hpb := (cov_in h1).2 p hp
  have hb0 : bkB p ≠ 0 := by omega
  rw [p2] at hb0
  have td0 : tdO C.tb L (.inr (false, x, y, z) :: td) (b :: bt) := ⟨b, bt, rfl, ⟨p, hp, p1, p2, p3, p4⟩, h5⟩
  refine ⟨L, (nv, 2, bkG p, b, bkR p), (nv, 1, bkG p, b, bkR p), hl, h.lt, ⟨⟨rfl, rfl, (hl.2.2.2.2 p hp).1⟩, p3, ?_, hCt_nxt hc2 hb0⟩, ⟨rfl, rfl, (hl.2.2.2.2 p hp).1⟩, ?_, hCt_inr.mpr (hCt_nxt hc2 hb0)⟩
  · refine HsO.nxt (p := p) (b := b) (k := 2) (bt := bt) h td0 h5 hp p2 (Or.inr ⟨Or.inr rfl, p1⟩) (fun r hr => hr.1) (Or.inl ⟨rfl, rfl⟩) (fun r hr => ?_)
    refine ⟨fun q => (by cases q), fun q => (by cases q), fun _ => ⟨fun q => absurd q hb0, fun _ => ?_⟩⟩
    have k1 := hr.2
    rw [p3, p4] at k1
    exact k1
  · refine HsO.nxt (p := p) (b := b) (k := 1) (bt := bt) h td0 h5 hp p2 (Or.inr ⟨Or.inl rfl, p1⟩) (fun r hr => hr.1) (Or.inr (Or.inr ⟨rfl, _, by rw [p3]⟩)) (fun r hr => ?_)
    refine ⟨fun q => (by cases q), fun _ => ⟨fun q => absurd q hb0, fun _ => ?_⟩, fun q => (by cases q)⟩
    have k1 := hr.2
    rw [p4] at k1
    exact k1
end
theorem hCt_two {C : Cf} (hC : cfOK C) {g : Nat} (hg : g < C.ng) (hk : (C.tb g).1 = 38 ∨ (C.tb g).1 = 124) {td : List It} {L : List Bk} (h : hCt C (.inl g :: td) L) : hCt C (.inl (tbA C.tb g) :: .inl (tbB C.tb g) :: td) L ∧ hCt C (.inl (tbA C.tb g) :: td) L ∧ hCt C (.inl (tbB C.tb g) :: td) L := by
  obtain ⟨_, w1, _⟩ := hC.2.2.2 g hg
  obtain ⟨_, _, w3⟩ := w1 hk
  refine ⟨fun q hq => ?_, fun q hq => ?_, fun q hq => ?_⟩ <;> (have h1 := h q hq; have h2 := w3 q; simp only [sumI, ioc] at h1 ⊢; omega)
