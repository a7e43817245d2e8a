/-! LINKS AND TYPES, when a state grows -/
theorem agN {V W : Nat → TV} {D : Nat → Prop} {rk : Nat → Nat} (h : ∀ c, D c → W c = V c) (hok : vOK V D rk) : ∀ {n c x : Nat}, D c → (tgN W n c x ↔ tgN V n c x)
  | 0, c, x, hc => by
    constructor
    · rintro ⟨e, hr⟩
      exact ⟨e, fun y hy => hr y (by rw [h x (e ▸ hc)]; exact hy)⟩
    · rintro ⟨e, hr⟩
      exact ⟨e, fun y hy => hr y (by rw [← h x (e ▸ hc)]; exact hy)⟩
  | n + 1, c, x, hc => by
    constructor
    · rintro ⟨e, he, g⟩
      have he2 : V c = some (.inl e) := by rw [← h c hc]; exact he
      exact ⟨e, he2, (agN h hok ((hok c hc).1 e he2).1).mp g⟩
    · rintro ⟨e, he, g⟩
      exact ⟨e, by rw [h c hc]; exact he, (agN h hok ((hok c hc).1 e he).1).mpr g⟩
theorem agT {V W : Nat → TV} {D : Nat → Prop} {rk : Nat → Nat} (h : ∀ c, D c → W c = V c) (hok : vOK V D rk) {c x : Nat} (hc : D c) : tg W c x ↔ tg V c x :=
  ⟨fun ⟨n, g⟩ => ⟨n, (agN h hok hc).mp g⟩, fun ⟨n, g⟩ => ⟨n, (agN h hok hc).mpr g⟩⟩
theorem tgD {V : Nat → TV} {D : Nat → Prop} {rk : Nat → Nat} (hok : vOK V D rk) : ∀ {n c x : Nat}, D c → tgN V n c x → D x
  | 0, _, _, hc, h => h.1 ▸ hc
  | _ + 1, _, _, hc, ⟨e, he, h⟩ => tgD hok ((hok _ hc).1 e he).1 h
/-- V2 has all that V has, with new pairs and new variables that are free -/
def grw (V V2 : Nat → TV) (D D2 Hd Hd2 Rt Rt2 Tp2 : Nat → Prop) : Prop :=
  (∀ c, D c → V2 c = V c) ∧ (∀ c, D c → D2 c) ∧ (∃ rk, vOK V D rk) ∧ (∀ c, D2 c → ¬ D c → ∀ e, V2 c ≠ some (.inl e)) ∧ (∀ c, D c → (Hd2 c ↔ Hd c)) ∧ (∀ c, D c → Rt c → Rt2 c) ∧ ∀ c, D c → Tp2 c → Rt c
section
variable {V V2 : Nat → TV} {D D2 Hd Hd2 Rt Rt2 Tp Tp2 : Nat → Prop} {th : Nat → Nat}
theorem grw_sol (h : grw V V2 D D2 Hd Hd2 Rt Rt2 Tp2) (hs : vSol V2 D2 th) : vSol V D th := fun c hc => by
  have := hs c (h.2.1 c hc)
  rw [h.1 c hc] at this
  exact this
theorem grw_nOK (h : grw V V2 D D2 Hd Hd2 Rt Rt2 Tp2) (hn : nOK D2 th) : nOK D th := fun c hc => hn c (h.2.1 c hc)
theorem grw_ty (h : grw V V2 D D2 Hd Hd2 Rt Rt2 Tp2) : (∀ c, tLR V D Hd Rt th c → tLR V2 D2 Hd2 Rt2 th c) ∧ ∀ c, tLt V D Hd Rt th c → tLt V2 D2 Hd2 Rt2 th c := by
  obtain ⟨h1, h2, _, _, h5, h6, _⟩ := h
  refine gL_mono (fun c q => tLR_of ⟨h2 c q.1, ?_⟩) (fun c q => tLt_of ⟨h2 c q.1, ?_⟩) (fun d a b hd hv => ⟨h2 d hd, by rw [h1 d hd]; exact hv⟩)
  · rcases q.2 with z | z | z | z
    · exact Or.inl z
    · exact Or.inr (Or.inl ⟨z.1, fun y => z.2 ((h5 c q.1).mp y)⟩)
    · exact Or.inr (Or.inr (Or.inl ⟨(h5 c q.1).mpr z.1, z.2⟩))
    · exact Or.inr (Or.inr (Or.inr (h6 c q.1 z)))
  · rcases q.2 with z | z
    · exact Or.inl z
    · exact Or.inr ⟨(h5 c q.1).mpr z.1, z.2⟩
theorem grw_vTy (h : grw V V2 D D2 Hd Hd2 Rt Rt2 Tp2) (hst : stru V D Hd Rt Tp) (hst2 : stru V2 D2 Hd2 Rt2 Tp2) (hs : vSol V2 D2 th) (hn : nOK D2 th) (hv : vTy V D (tLR V D Hd Rt th) (tLt V D Hd Rt th)) : vTy V2 D2 (tLR V2 D2 Hd2 Rt2 th) (tLt V2 D2 Hd2 Rt2 th) := by
  obtain ⟨h1, h2, ⟨rk, hok⟩, h4, h5, h6, h7⟩ := id h
  have mono := grw_ty (th := th) h
  intro c e dc he
  have hc : D c := Classical.byContradiction (fun q => h4 c dc q e he)
  have he2 : V c = some (.inl e) := by rw [← h1 c hc]; exact he
  have de := ((hok c hc).1 e he2).1
  have hth : th c = th e := (hs c dc).1 e he
  have hiv : isV c := Classical.byContradiction (fun q => (hst.2.2.2.2.1 c hc q).2 e he2)
  by_cases h9 : 11 < th c
  · refine ⟨fun q => ?_, fun q => ?_⟩
    · have g := ((tL_var hst2 hs hn).1 c q).2 hiv h9
      refine mono.1 e ((hv c e hc he2).1 (tLR_of ⟨hc, ?_⟩))
      by_cases hh : Hd c
      · rcases g with g | g
        · exact absurd ((h5 c hc).mpr hh) g
        · exact Or.inr (Or.inr (Or.inl ⟨hh, g⟩))
      · exact Or.inr (Or.inl ⟨hiv, hh⟩)
    · have g := ((tL_var hst2 hs hn).2 c q).2.1 hiv h9
      exact mono.2 e ((hv c e hc he2).2 (tLt_of ⟨hc, Or.inr ⟨(h5 c hc).mp g.1, g.2⟩⟩))
  · exact ⟨fun _ => tLR_of ⟨h2 e de, Or.inl (by omega)⟩, fun _ => tLt_of ⟨h2 e de, Or.inl (by omega)⟩⟩
theorem grw_itm (h : grw V V2 D D2 Hd Hd2 Rt Rt2 Tp2) (hst2 : stru V2 D2 Hd2 Rt2 Tp2) {c x : Nat} (hi : itm V2 D2 (tLR V2 D2 Hd2 Rt2 th) V2 c x) : (∃ a b, V2 c = some (.inr (.inr (a, b))) ∧ ¬ Hd2 a) ∨ (itm V D (tLR V D Hd Rt th) V c x ∧ D x) ∨ (¬ D c ∧ ∃ a b, V2 c = some (.inr (.inr (a, b))) ∧ Hd2 a ∧ tg V2 a x) := by
  obtain ⟨h1, h2, ⟨rk, hok⟩, h4, h5, h6, h7⟩ := id h
  obtain ⟨d1, d2, a, b, e, t⟩ := hi
  by_cases ha : Hd2 a
  · by_cases hc : D c
    · have hTp := (hst2.1 c a b d1 e).2.2.2.2.1 ha
      have e2 : V c = some (.inr (.inr (a, b))) := by rw [← h1 c hc]; exact e
      have da := ((hok c hc).2.2 a b e2).1.1
      have ta := (agT h1 hok da).mp t
      obtain ⟨n, tn⟩ := id ta
      exact Or.inr (Or.inl ⟨⟨hc, tLR_of ⟨hc, Or.inr (Or.inr (Or.inr (h7 c hc hTp)))⟩, a, b, e2, ta⟩, tgD hok da tn⟩)
    · exact Or.inr (Or.inr ⟨hc, a, b, e, ha, t⟩)
  · exact Or.inl ⟨a, b, e, ha⟩
theorem grw_anV (h : grw V V2 D D2 Hd Hd2 Rt Rt2 Tp2) {x u : Nat} (ha : anV V D (tLR V D Hd Rt th) Hd th V x u) : anV V2 D2 (tLR V2 D2 Hd2 Rt2 th) Hd2 th V2 x u := by
  obtain ⟨h1, h2, ⟨rk, hok⟩, h4, h5, h6, h7⟩ := id h
  obtain ⟨c, ⟨d1, d2, a, b, e, t⟩, e2, a2, b2, e3, hh⟩ := ha
  rw [e] at e3
  cases e3
  have da := ((hok c d1).2.2 a b e).1.1
  exact ⟨c, ⟨h2 c d1, (grw_ty h).1 c d2, a, b, by rw [h1 c d1]; exact e, (agT h1 hok da).mpr t⟩, e2, a, b, by rw [h1 c d1]; exact e, fun q => hh ((h5 a da).mp q)⟩
theorem grw_Lk (h : grw V V2 D D2 Hd Hd2 Rt Rt2 Tp2) {Ab Ab2 : Nat → Prop} (hA : ∀ b, Ab b → D b ∧ Ab2 b) {x : Nat} : ∀ {n w u : Nat}, lkN Ab th V x n w u → Lk Ab2 th V2 x w u
  | 0, w, u, e => by
    have e : w = u := e
    rw [e]
    exact Lk.self'
  | n + 1, w, u, ⟨e, g1, b, hb, t, g2⟩ => by
    obtain ⟨h1, h2, ⟨rk, hok⟩, _⟩ := id h
    exact Lk.step' (grw_Lk h hA g1) ⟨b, (hA b hb).2, (agT h1 hok (hA b hb).1).mpr t, g2⟩
theorem grw_HO (h : grw V V2 D D2 Hd Hd2 Rt Rt2 Tp2) {x : Nat} (hx : D x) (ho : HO D Hd V x) : HO D2 Hd2 V2 x := by
  obtain ⟨h1, h2, ⟨rk, hok⟩, h4, h5, h6, h7⟩ := id h
  intro e de te
  by_cases hc : D e
  · exact (h5 e hc).mpr (ho e hc ((agT h1 hok hc).mp te))
  · have : e = x := tg_uniq (tg_self (h4 e de hc)) te
    exact absurd (this ▸ hx) hc
/-- no pair with a head is new -/
theorem JSg_G0 (h : grw V V2 D D2 Hd Hd2 Rt Rt2 Tp2) (hst : stru V D Hd Rt Tp) (hst2 : stru V2 D2 Hd2 Rt2 Tp2) {Ab : Nat → Prop} (hA : ∀ b, Ab b → D b) (hno : ∀ c a b, D2 c → ¬ D c → V2 c = some (.inr (.inr (a, b))) → ¬ Hd2 a) (hj : JSg V D Hd Rt Ab) : JSg V2 D2 Hd2 Rt2 Ab := by
  intro th hs hn
  obtain ⟨g1, g2⟩ := hj th (grw_sol h hs) (grw_nOK h hn)
  refine ⟨grw_vTy h hst hst2 hs hn g1, fun x w hw => ?_⟩
  obtain ⟨h1, h2, ⟨rk, hok⟩, h4, h5, h6, h7⟩ := id h
  have eg : ∀ {x w u}, egV Ab th V2 x w u → egV Ab th V x w u ∧ D x := fun {x w u} ⟨b, hb, t, q⟩ => by
    have t2 := (agT h1 hok (hA b hb)).mp t
    obtain ⟨n, tn⟩ := id t2
    exact ⟨⟨b, hb, t2, q⟩, tgD hok (hA b hb) tn⟩
  have cls : ∀ {x w}, xv V2 D2 (tLR V2 D2 Hd2 Rt2 th) Ab th V2 x w → anV V2 D2 (tLR V2 D2 Hd2 Rt2 th) Hd2 th V2 x w ∨ (xv V D (tLR V D Hd Rt th) Ab th V x w ∧ D x) := by
    rintro x w (⟨c, hi, e⟩ | ⟨u, hu⟩)
    · rcases grw_itm h hst2 hi with ⟨a, b, q1, q2⟩ | ⟨q, dx⟩ | ⟨q, a, b, q1, q2, _⟩
      · exact Or.inl ⟨c, hi, e, a, b, q1, q2⟩
      · exact Or.inr ⟨Or.inl ⟨c, q, e⟩, dx⟩
      · exact absurd q2 (hno c a b hi.1 q q1)
    · obtain ⟨q, dx⟩ := eg hu
      exact Or.inr ⟨Or.inr ⟨u, q⟩, dx⟩
  rcases cls hw with q | ⟨q, dx⟩
  · exact Or.inl ⟨w, q, Lk.self'⟩
  · rcases g2 x w q with ⟨u, u1, n, u2⟩ | ⟨u1, u2⟩
    · exact Or.inl ⟨u, grw_anV h u1, grw_Lk h (fun b hb => ⟨hA b hb, hb⟩) u2⟩
    · refine Or.inr ⟨grw_HO h dx u1, fun u hu => ?_⟩
      rcases cls hu with z | ⟨z, _⟩
      · exact (HO_anc (fun c a b dc e => (hst2.1 c a b dc e).2.1.1) (grw_HO h dx u1) z).elim
      · obtain ⟨n, z2⟩ := u2 u z
        exact grw_Lk h (fun b hb => ⟨hA b hb, hb⟩) z2
/-- one new pair, its head new -/
theorem JSg_G1 (h : grw V V2 D D2 Hd Hd2 Rt Rt2 Tp2) (hst : stru V D Hd Rt Tp) (hst2 : stru V2 D2 Hd2 Rt2 Tp2) {Ab : Nat → Prop} (hA : ∀ b, Ab b → D b) {cn hn0 : Nat} (hh : ¬ D hn0 ∧ Hd2 hn0 ∧ D2 hn0) (hno : ∀ c a b, D2 c → ¬ D c → V2 c = some (.inr (.inr (a, b))) → ¬ Hd2 a ∨ (c = cn ∧ a = hn0)) (hj : JSg V D Hd Rt Ab) : JSg V2 D2 Hd2 Rt2 Ab := by
  intro th hs hn
  obtain ⟨g1, g2⟩ := hj th (grw_sol h hs) (grw_nOK h hn)
  refine ⟨grw_vTy h hst hst2 hs hn g1, fun x w hw => ?_⟩
  obtain ⟨h1, h2, ⟨rk, hok⟩, h4, h5, h6, h7⟩ := id h
  have eg : ∀ {x w u}, egV Ab th V2 x w u → egV Ab th V x w u ∧ D x := fun {x w u} ⟨b, hb, t, q⟩ => by
    have t2 := (agT h1 hok (hA b hb)).mp t
    obtain ⟨n, tn⟩ := id t2
    exact ⟨⟨b, hb, t2, q⟩, tgD hok (hA b hb) tn⟩
  have tn0 : ∀ {x}, tg V2 hn0 x → x = hn0 := fun t => (tg_uniq (tg_self (h4 hn0 hh.2.2 hh.1)) t).symm
  have cls : ∀ {x w}, xv V2 D2 (tLR V2 D2 Hd2 Rt2 th) Ab th V2 x w → anV V2 D2 (tLR V2 D2 Hd2 Rt2 th) Hd2 th V2 x w ∨ (xv V D (tLR V D Hd Rt th) Ab th V x w ∧ D x) ∨ (x = hn0 ∧ w = th cn) := by
    rintro x w (⟨c, hi, e⟩ | ⟨u, hu⟩)
    · rcases grw_itm h hst2 hi with ⟨a, b, q1, q2⟩ | ⟨q, dx⟩ | ⟨q, a, b, q1, q2, q3⟩
      · exact Or.inl ⟨c, hi, e, a, b, q1, q2⟩
      · exact Or.inr (Or.inl ⟨Or.inl ⟨c, q, e⟩, dx⟩)
      · rcases hno c a b hi.1 q q1 with z | ⟨z1, z2⟩
        · exact absurd q2 z
        · rw [z2] at q3
          exact Or.inr (Or.inr ⟨tn0 q3, by rw [← e, z1]⟩)
    · obtain ⟨q, dx⟩ := eg hu
      exact Or.inr (Or.inl ⟨Or.inr ⟨u, q⟩, dx⟩)
  have hoN : HO D2 Hd2 V2 hn0 := fun e de te => by
    by_cases hc : D e
    · have t2 := (agT h1 hok hc).mp te
      obtain ⟨n, tn⟩ := t2
      exact absurd (tgD hok hc tn) hh.1
    · have : e = hn0 := tg_uniq (tg_self (h4 e de hc)) te
      rw [this]
      exact hh.2.1
  rcases cls hw with q | ⟨q, dx⟩ | ⟨rfl, rfl⟩
  · exact Or.inl ⟨w, q, Lk.self'⟩
  · rcases g2 x w q with ⟨u, u1, n, u2⟩ | ⟨u1, u2⟩
    · exact Or.inl ⟨u, grw_anV h u1, grw_Lk h (fun b hb => ⟨hA b hb, hb⟩) u2⟩
    · refine Or.inr ⟨grw_HO h dx u1, fun u hu => ?_⟩
      rcases cls hu with z | ⟨z, _⟩ | ⟨z, _⟩
      · exact (HO_anc (fun c a b dc e => (hst2.1 c a b dc e).2.1.1) (grw_HO h dx u1) z).elim
      · obtain ⟨n, z2⟩ := u2 u z
        exact grw_Lk h (fun b hb => ⟨hA b hb, hb⟩) z2
      · rw [z] at dx
        exact absurd dx hh.1
  · refine Or.inr ⟨hoN, fun u hu => ?_⟩
    rcases cls hu with z | ⟨_, z⟩ | ⟨_, z⟩
    · exact (HO_anc (fun c a b dc e => (hst2.1 c a b dc e).2.1.1) hoN z).elim
    · exact absurd z hh.1
    · rw [z]
      exact Lk.self'
/-- one new pair (h, h + 2): the second one of an unfold -/
theorem JSg_G3 (h : grw V V2 D D2 Hd Hd2 Rt Rt2 Tp2) (hst : stru V D Hd Rt Tp) (hst2 : stru V2 D2 Hd2 Rt2 Tp2) {Ab Ab2 : Nat → Prop} (hA : ∀ b, Ab b → D b) {cn hh : Nat} (hA2 : ∀ b, Ab2 b ↔ Ab b ∨ b = hh) (dh : D hh) (hcn : D2 cn ∧ V2 cn = some (.inr (.inr (hh, hh + 2)))) (hno : ∀ c a b, D2 c → ¬ D c → V2 c = some (.inr (.inr (a, b))) → ¬ Hd2 a ∨ c = cn)
    (hw1 : ∀ th, vSol V2 D2 th → nOK D2 th → ∀ x, tg V hh x → xv V D (tLR V D Hd Rt th) Ab th V x (nd (th hh) (th (hh + 1)))) (hj : JSg V D Hd Rt Ab) : JSg V2 D2 Hd2 Rt2 Ab2 := by
  intro th hs hn
  obtain ⟨g1, g2⟩ := hj th (grw_sol h hs) (grw_nOK h hn)
  refine ⟨grw_vTy h hst hst2 hs hn g1, fun x w hw => ?_⟩
  obtain ⟨h1, h2, ⟨rk, hok⟩, h4, h5, h6, h7⟩ := id h
  have hcv : th cn = nd (th hh) (th (hh + 2)) := (hs cn hcn.1).2.2 _ _ hcn.2
  have mk : ∀ b, Ab b → D b ∧ Ab2 b := fun b hb => ⟨hA b hb, (hA2 b).mpr (Or.inl hb)⟩
  have w1 := hw1 th hs hn
  -- the two values of the new unfold are joined
  have ed : ∀ {x}, tg V hh x → egV Ab2 th V2 x (nd (th hh) (th (hh + 1))) (th cn) := fun t => ⟨hh, (hA2 hh).mpr (Or.inr rfl), (agT h1 hok dh).mpr t, Or.inl ⟨rfl, hcv⟩⟩
  have cls : ∀ {x w}, xv V2 D2 (tLR V2 D2 Hd2 Rt2 th) Ab2 th V2 x w → anV V2 D2 (tLR V2 D2 Hd2 Rt2 th) Hd2 th V2 x w ∨ (D x ∧ ∃ v, xv V D (tLR V D Hd Rt th) Ab th V x v ∧ Lk Ab2 th V2 x w v) := by
    rintro x w (⟨c, hi, e⟩ | ⟨u, b, hb, t, q⟩)
    · rcases grw_itm h hst2 hi with ⟨a, b, q1, q2⟩ | ⟨q, dx⟩ | ⟨q, a, b, q1, q2, q3⟩
      · exact Or.inl ⟨c, hi, e, a, b, q1, q2⟩
      · exact Or.inr ⟨dx, w, Or.inl ⟨c, q, e⟩, Lk.self'⟩
      · rcases hno c a b hi.1 q q1 with z | z
        · exact absurd q2 z
        · rw [z, hcn.2] at q1
          cases q1
          have t2 := (agT h1 hok dh).mp q3
          obtain ⟨n, tn⟩ := id t2
          refine Or.inr ⟨tgD hok dh tn, _, w1 x t2, ?_⟩
          rw [← e, z]
          exact Lk.step' Lk.self' (ed t2).symm'
    · rcases (hA2 b).mp hb with hb2 | rfl
      · have t2 := (agT h1 hok (hA b hb2)).mp t
        obtain ⟨n, tn⟩ := id t2
        exact Or.inr ⟨tgD hok (hA b hb2) tn, w, Or.inr ⟨u, b, hb2, t2, q⟩, Lk.self'⟩
      · have t2 := (agT h1 hok dh).mp t
        obtain ⟨n, tn⟩ := id t2
        refine Or.inr ⟨tgD hok dh tn, _, w1 x t2, ?_⟩
        rcases q with ⟨q1, q2⟩ | ⟨q1, q2⟩
        · rw [q1]
          exact Lk.self'
        · rw [q1, ← hcv]
          exact Lk.step' Lk.self' (ed t2).symm'
  rcases cls hw with q | ⟨dx, v, q, lk⟩
  · exact Or.inl ⟨w, q, Lk.self'⟩
  · rcases g2 x v q with ⟨u, u1, n, u2⟩ | ⟨u1, u2⟩
    · exact Or.inl ⟨u, grw_anV h u1, lk.trans' (grw_Lk h mk u2)⟩
    · refine Or.inr ⟨grw_HO h dx u1, fun u hu => ?_⟩
      rcases cls hu with z | ⟨_, v2, z, lk2⟩
      · exact (HO_anc (fun c a b dc e => (hst2.1 c a b dc e).2.1.1) (grw_HO h dx u1) z).elim
      · obtain ⟨n, z2⟩ := u2 v2 z
        exact (lk.trans' (grw_Lk h mk z2)).trans' lk2.symm'
end
