/-! MEET: types and links in the view that is left -/
theorem uRch_J {D Hd Rt Tp Ab : Nat → Prop} {V0 : Nat → TV} {th : Nat → Nat} (hok : ∃ rk, vOK V0 D rk) (hst : stru V0 D Hd Rt Tp) (hs : vSol V0 D th) (hn : nOK D th) (hj : ∀ v, v < 6 → th v = th (v + 64)) (hD : ∀ v, v < 6 → D v ∧ D (v + 64)) (hv : vTy V0 D (tLR V0 D Hd Rt th) (tLt V0 D Hd Rt th)) (hJ : Jk V0 D (tLR V0 D Hd Rt th) Hd Ab th V0) : ∀ {y : Nat} {W : Nat → TV}, y ≤ 6 → uRch D V0 y W → (∃ rk, vOK W D rk) ∧ vSol W D th ∧ vTy W D (tLR V0 D Hd Rt th) (tLt V0 D Hd Rt th) ∧ (∀ c a b, W c = some (.inr (.inr (a, b))) ↔ V0 c = some (.inr (.inr (a, b)))) ∧ Jk V0 D (tLR V0 D Hd Rt th) Hd Ab th W
  | 0, W, _, h => by
    have h : W = V0 := h
    subst h
    exact ⟨hok, hs, hv, fun c a b => Iff.rfl, hJ⟩
  | y + 1, W, hy, h => by
    obtain ⟨U, n, h1, h2⟩ := h
    obtain ⟨g1, g2, g3, g4, g5⟩ := uRch_J hok hst hs hn hj hD hv hJ (by omega) h1
    obtain ⟨rk, hok0⟩ := id hok
    have nH : ∀ c, isN c → ¬ Hd c := fun c q k => (hst.2.1 c k).2 q
    have N1 : isN y := Or.inl (by omega)
    have N2 : isN (y + 64) := Or.inr ⟨by omega, by omega⟩
    obtain ⟨k1, k2, k3, k4, k5, _⟩ := uRun_J (ty_ok hst hs hn) (fun c a b dc hp => ((hok0 c dc).2.2 a b hp).1.1) (hd_ok hst hs hn) g4 g1 g2 g3 g5 (fun q hq => by
      rw [List.mem_singleton.mp hq]
      exact ⟨hj y (by omega), Or.inl ⟨tLR_of ⟨(hD y (by omega)).1, Or.inr (Or.inl ⟨show y < 128 by omega, nH _ N1⟩)⟩, tLR_of ⟨(hD y (by omega)).2, Or.inr (Or.inl ⟨show y + 64 < 128 by omega, nH _ N2⟩)⟩⟩, Or.inl ⟨nH _ N1, nH _ N2⟩⟩) h2
    exact ⟨k1, k2, k3, k4, k5⟩
/-- values that turn: two list codes whose left halves come to different things in the end -/
def tnP (V : Nat → TV) (D : Nat → Prop) (th : Nat → Nat) (LR : Nat → Prop) (Wf : Nat → TV) (w : Nat) : Prop := ∃ c d a b e f, (D c ∧ D d ∧ LR c ∧ LR d) ∧ V c = some (.inr (.inr (a, b))) ∧ V d = some (.inr (.inr (e, f))) ∧ th c = w ∧ th d = w ∧ ¬ tgE Wf a e
noncomputable def tnF (V : Nat → TV) (D : Nat → Prop) (th : Nat → Nat) (LR : Nat → Prop) (Wf : Nat → TV) (w : Nat) : Bool := @decide (tnP V D th LR Wf w) (Classical.propDecidable _)
/-- values with one list code alone -/
def sgP (V : Nat → TV) (D : Nat → Prop) (th : Nat → Nat) (LR : Nat → Prop) (w : Nat) : Prop := ∀ c d a b e f, D c → D d → LR c → LR d → V c = some (.inr (.inr (a, b))) → V d = some (.inr (.inr (e, f))) → th c = w → th d = w → c = d
noncomputable def sgF (V : Nat → TV) (D : Nat → Prop) (th : Nat → Nat) (LR : Nat → Prop) (w : Nat) : Bool := @decide (sgP V D th LR w) (Classical.propDecidable _)
theorem tnF_ok {V : Nat → TV} {D : Nat → Prop} {th : Nat → Nat} {LR : Nat → Prop} {Wf : Nat → TV} : tnOK V D th LR (tnF V D th LR Wf) Wf := fun c d a b e f dc dd lc ld hc hd hcd ht => Classical.byContradiction (fun q => by
  have : tnF V D th LR Wf (th c) = true := @decide_eq_true _ (Classical.propDecidable _) ⟨c, d, a, b, e, f, ⟨dc, dd, lc, ld⟩, hc, hd, rfl, hcd.symm, q⟩
  rw [this] at ht
  cases ht)
theorem sgF_ok {V : Nat → TV} {D : Nat → Prop} {th : Nat → Nat} {LR : Nat → Prop} : sgOK V D th LR (sgF V D th LR) := fun c d a b e f dc dd lc ld hc hd hcd ht => by
  have h : sgP V D th LR (th c) := @of_decide_eq_true _ (Classical.propDecidable _) ht
  exact h c d a b e f dc dd lc ld hc hd rfl hcd.symm
/-- all that is known of the view that is left, and of its solution with atoms for what is free -/
def jFin (V0 : Nat → TV) (D Hd Rt Ab : Nat → Prop) (th : Nat → Nat) (Wf : Nat → TV) : Prop := uRch D V0 6 Wf ∧ (∃ rk, vOK Wf D rk) ∧ vSol V0 D th ∧ vSol Wf D th ∧ (∀ c, Wf c = none → th c = 11) ∧ (∀ v, v < 6 → th v = th (v + 64)) ∧ nOK D th ∧ vTy Wf D (tLR V0 D Hd Rt th) (tLt V0 D Hd Rt th) ∧ (∀ c a b, Wf c = some (.inr (.inr (a, b))) ↔ V0 c = some (.inr (.inr (a, b)))) ∧ Jk V0 D (tLR V0 D Hd Rt th) Hd Ab th Wf
section
variable {V1 V2 : Nat → TV} {D1 D2 H1 H2 R1 R2 A1 A2 T1 T2 : Nat → Prop}
/-- few leaves, few turns -/
theorem MF_lam (o1 : ansO V1 D1 H1 R1 A1) (o2 : ansO V2 D2 H2 R2 A2) (k1 : ∃ rk, vOK V1 D1 rk) (k2 : ∃ rk, vOK V2 D2 rk) (s1 : stru V1 D1 H1 R1 T1) (s2 : stru V2 D2 H2 R2 T2) (q1 : ∀ c n, D1 c → V1 c = some (.inr (.inl n)) → 128 ≤ c ∧ c < 139 ∧ n = c - 128) (q2 : ∀ c n, D2 c → V2 c = some (.inr (.inl n)) → 128 ≤ c ∧ c < 139 ∧ n = c - 128) (j1 : JSg V1 D1 H1 R1 A1) (j2 : JSg V2 D2 H2 R2 A2)
    (hl : ∀ (V0 Wf : Nat → TV) (th : Nat → Nat), vAg (jDm D1 D2) (jVw V1 V2) V0 → jFin V0 (jDm D1 D2) (jHd H1 H2) (jHd R1 R2) (jHd A1 A2) th Wf → ∀ y, y < 6 → lam (nmO th) (tnF V0 (jDm D1 D2) th (tLR V0 (jDm D1 D2) (jHd H1 H2) (jHd R1 R2) th) Wf) (sgF V0 (jDm D1 D2) th (tLR V0 (jDm D1 D2) (jHd H1 H2) (jHd R1 R2) th)) (th y) ≤ 500000) : MF V1 V2 D1 D2 := by
  intro V0 W ph y n W2 rs hag hch hext hy hok hsol hps hpj hr
  have st := jn_st o1 o2 hag s1 s2
  have at0 := jn_at o1 o2 hag q1 q2
  have ok0 : ∃ rk, vOK V0 (jDm D1 D2) rk := by
    obtain ⟨rk1, z1⟩ := k1
    obtain ⟨rk2, z2⟩ := k2
    obtain ⟨rk, z⟩ := jOK o1.1 o2.1 o1.2.1 o2.2.1 z1 z2
    exact ⟨rk, vOK_ag hag z⟩
  have hD : ∀ v, v < 6 → jDm D1 D2 v ∧ jDm D1 D2 (v + 64) := fun v hv => ⟨Or.inl (o1.2.2.2.2.2.2 v hv), Or.inr ⟨v, (sec64 (by omega)).symm, o2.2.2.2.2.2.2 v hv⟩⟩
  obtain ⟨Wf, e1, e2⟩ := uRch_all ok0 at0 ((hsol ph).mp hps).1 hpj hD hy hch hr
  obtain ⟨g1, ⟨rk, g2⟩, g3⟩ := uRch_in ok0 e1
  obtain ⟨th, t1, t2, _⟩ := vSol_ex g2 (fun _ => 11)
  obtain ⟨t3, t4⟩ := g3 th t1
  have hn : nOK (jDm D1 D2) th := fun c dc hN h9 => by
    refine nmO_iff.mpr ⟨h9, ?_⟩
    rcases hN with h | h
    · exact ⟨c, h, rfl⟩
    · refine ⟨c - 64, by omega, ?_⟩
      rw [t4 (c - 64) (by omega), show c - 64 + 64 = c by omega]
  obtain ⟨jt, jj⟩ := jn_J o1 o2 hag t3 t4 j1 j2
  obtain ⟨f1, f2, f3, f4, f5⟩ := uRch_J ok0 st t3 hn t4 hD jt jj (Nat.le_refl 6) e1
  obtain ⟨w1, w2, w3, w4, _⟩ := uRch_J ok0 st t3 hn t4 hD jt jj (by omega) hch
  have nH : ∀ c, isN c → ¬ jHd H1 H2 c := fun c q k => (st.2.1 c k).2 q
  have := hl V0 Wf th hag ⟨e1, f1, t3, f2, t2, t4, hn, f3, f4, f5⟩ y hy
  have h2 := uRun_lam (ty_ok st t3 hn) (tnF_ok (Wf := Wf)) sgF_ok f1 w4 w1 w2 w3 (t4 y hy) (tLR_of ⟨(hD y hy).1, Or.inr (Or.inl ⟨show y < 128 by omega, nH _ (Or.inl (by omega))⟩)⟩) (tLR_of ⟨(hD y hy).2, Or.inr (Or.inl ⟨show y + 64 < 128 by omega, nH _ (Or.inr ⟨by omega, by omega⟩)⟩)⟩) hr e2
  omega
end
