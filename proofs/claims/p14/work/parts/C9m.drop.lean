/-! LINKS AND TYPES: a pair dropped, the start -/
theorem JSg_drop {V : Nat → TV} {D D2 Hd Rt Rt2 Tp Ab : Nat → Prop} {cd h t : Nat} (hj : JSg V D Hd Rt Ab) (hst : stru V D Hd Rt Tp) (hTp : Tp cd) (hD : ∀ c, D c ↔ D2 c ∨ c = cd) (hR : ∀ c, Rt2 c ↔ Rt c ∧ c ≠ cd) (hv : V cd = some (.inr (.inr (h, t)))) (hh : Hd h ∧ D2 h) (ht : D2 t ∧ isV t ∧ ¬ Hd t) (hcd : ¬ isV cd ∧ ¬ D2 cd) (hcl : ∀ c, D2 c → (∀ a b, V c = some (.inr (.inr (a, b))) → D2 a ∧ D2 b) ∧ ∀ e, V c = some (.inl e) → D2 e) (hAb : ∀ b, Ab b → b + 2 < 128) : JSg V D2 Hd Rt2 Ab := by
  intro th hs hn
  have e6 : ∀ v, v < 128 → v ≠ cd := fun v hv q => hcd.1 (by rw [← q]; exact hv)
  have ext : ∃ ph : Nat → Nat, ph cd = nd (th h) (th t) ∧ ∀ c, c ≠ cd → ph c = th c := ⟨fun c => if c = cd then nd (th h) (th t) else th c, if_pos rfl, fun c hc => if_neg hc⟩
  obtain ⟨ph, p1, p2⟩ := ext
  have ne : ∀ c, D2 c → c ≠ cd := fun c hc q => hcd.2 (by rw [← q]; exact hc)
  have hnm : nmO ph = nmO th := by
    funext w
    unfold nmO
    rw [p2 0 (e6 0 (by omega)), p2 1 (e6 1 (by omega)), p2 2 (e6 2 (by omega)), p2 3 (e6 3 (by omega)), p2 4 (e6 4 (by omega)), p2 5 (e6 5 (by omega))]
  have nmc : ∀ c, D2 c → nmO ph (ph c) = nmO th (th c) := fun c hc => by rw [hnm, p2 c (ne c hc)]
  have hs2 : vSol V D ph := fun c hc => by
    by_cases q : c = cd
    · rw [q, hv]
      refine ⟨fun e he => (by cases he), fun n he => (by cases he), fun a b he => ?_⟩
      cases he
      rw [p1, p2 h (ne h hh.2), p2 t (ne t ht.1)]
    · have dc : D2 c := ((hD c).mp hc).resolve_right q
      have := hs c dc
      refine ⟨fun e he => ?_, fun n he => ?_, fun a b he => ?_⟩
      · rw [p2 c q, p2 e (ne e ((hcl c dc).2 e he))]
        exact this.1 e he
      · rw [p2 c q]
        exact this.2.1 n he
      · have g := (hcl c dc).1 a b he
        rw [p2 c q, p2 a (ne a g.1), p2 b (ne b g.2)]
        exact this.2.2 a b he
  have hn2 : nOK D ph := fun c hc hN h9 => by
    have q : c ≠ cd := e6 c (by unfold isN at hN; omega)
    have dc : D2 c := ((hD c).mp hc).resolve_right q
    rw [p2 c q] at h9
    rw [nmc c dc]
    exact hn c dc hN h9
  have up : (∀ c, tLR V D2 Hd Rt2 th c → D2 c ∧ tLR V D Hd Rt ph c) ∧ ∀ c, tLt V D2 Hd Rt2 th c → D2 c ∧ tLt V D Hd Rt ph c := by
    refine gL_ind (fun c q => ⟨q.1, tLR_of ⟨(hD c).mpr (Or.inl q.1), ?_⟩⟩) (fun c q => ⟨q.1, tLt_of ⟨(hD c).mpr (Or.inl q.1), ?_⟩⟩) (fun d a b dd e => ?_)
    · rw [nmc c q.1, p2 c (ne c q.1)]
      rcases q.2 with z | z | z | z
      · exact Or.inl z
      · exact Or.inr (Or.inl z)
      · exact Or.inr (Or.inr (Or.inl z))
      · exact Or.inr (Or.inr (Or.inr ((hR c).mp z).1))
    · rw [nmc c q.1, p2 c (ne c q.1)]
      exact q.2
    · obtain ⟨da, db⟩ := (hcl d dd).1 a b e
      have dD : D d := (hD d).mpr (Or.inl dd)
      refine ⟨fun q => ⟨db, gLR_right dD e q.2⟩, fun q => ⟨fun z => ⟨da, (gL_left dD e (q.imp (fun y => y.2) (fun y => y.2))).1 (by rw [nmc a da]; exact z)⟩, fun z => ⟨da, (gL_left dD e (q.imp (fun y => y.2) (fun y => y.2))).2 (by rw [nmc a da]; exact z)⟩⟩, fun q => ⟨fun z => ⟨db, (gLt_right dD e q.2).1 (by rw [nmc b db]; exact z)⟩, fun z => ⟨db, (gLt_right dD e q.2).2 (by rw [nmc b db]; exact z)⟩⟩⟩
  have dn : (∀ c, tLR V D Hd Rt ph c → D2 c → tLR V D2 Hd Rt2 th c) ∧ ∀ c, tLt V D Hd Rt ph c → (D2 c → tLt V D2 Hd Rt2 th c) ∧ c ≠ cd := by
    refine gL_ind (fun c q dc => tLR_of ⟨dc, ?_⟩) (fun c q => ⟨fun dc => tLt_of ⟨dc, ?_⟩, fun e => ?_⟩) (fun d a b dd e => ?_)
    · have q2 := q.2
      rw [nmc c dc, p2 c (ne c dc)] at q2
      rcases q2 with z | z | z | z
      · exact Or.inl z
      · exact Or.inr (Or.inl z)
      · exact Or.inr (Or.inr (Or.inl z))
      · exact Or.inr (Or.inr (Or.inr ((hR c).mpr ⟨z, ne c dc⟩)))
    · have q2 := q.2
      rw [nmc c dc, p2 c (ne c dc)] at q2
      exact q2
    · rcases q.2 with z | z
      · rw [e, p1] at z
        have := nd_big (th h) (th t)
        omega
      · rw [e] at z
        exact hcd.1 (hst.2.1 cd z.1).1
    · have hna : a ≠ cd ∧ b ≠ cd := by
        obtain ⟨_, _, _, ⟨t1, t2⟩, _⟩ := hst.1 d a b dd e
        exact ⟨fun q => t1 (by rw [q]; exact hTp), fun q => t2 (by rw [q]; exact hTp)⟩
      by_cases q : d = cd
      · rw [q, hv] at e
        cases e
        have rt : tLR V D2 Hd Rt2 th t := tLR_of ⟨ht.1, Or.inr (Or.inl ht.2)⟩
        exact ⟨fun _ _ => rt, fun _ => ⟨fun z dc => tLR_of ⟨dc, Or.inr (Or.inr (Or.inl ⟨hh.1, by rw [← nmc h dc]; exact z⟩))⟩, fun z => ⟨fun dc => tLt_of ⟨dc, Or.inr ⟨hh.1, by rw [← nmc h dc]; exact z⟩⟩, hna.1⟩⟩, fun y => absurd q y.2⟩
      · have d2 : D2 d := ((hD d).mp dd).resolve_right q
        have or2 : ∀ {k : Prop}, ((D2 d → tLR V D2 Hd Rt2 th d) ∨ ((D2 d → tLt V D2 Hd Rt2 th d) ∧ d ≠ cd)) → tLR V D2 Hd Rt2 th d ∨ tLt V D2 Hd Rt2 th d := fun y => y.imp (fun k => k d2) (fun k => k.1 d2)
        exact ⟨fun y _ => gLR_right d2 e (y d2), fun y => ⟨fun z da => (gL_left d2 e (or2 (k := True) y)).1 (by rw [← nmc a da]; exact z), fun z => ⟨fun da => (gL_left d2 e (or2 (k := True) y)).2 (by rw [← nmc a da]; exact z), hna.1⟩⟩, fun y => ⟨fun z db => (gLt_right d2 e (y.1 d2)).1 (by rw [← nmc b db]; exact z), fun z => ⟨fun db => (gLt_right d2 e (y.1 d2)).2 (by rw [← nmc b db]; exact z), hna.2⟩⟩⟩
  obtain ⟨g1, g2⟩ := hj ph hs2 hn2
  have it : ∀ {c x}, itm V D2 (tLR V D2 Hd Rt2 th) V c x → itm V D (tLR V D Hd Rt ph) V c x := fun {c x} ⟨d1, d2, a, b, e, t⟩ => ⟨(hD c).mpr (Or.inl d1), (up.1 c d2).2, a, b, e, t⟩
  have pv : ∀ v, v < 128 → ph v = th v := fun v hv => p2 v (e6 v hv)
  have eg : ∀ {x w u}, egV Ab th V x w u ↔ egV Ab ph V x w u := fun {x w u} => by
    constructor
    · rintro ⟨b, hb, t, q⟩
      have := hAb b hb
      exact ⟨b, hb, t, by rw [pv b (by omega), pv (b + 1) (by omega), pv (b + 2) (by omega)]; exact q⟩
    · rintro ⟨b, hb, t, q⟩
      have := hAb b hb
      rw [pv b (by omega), pv (b + 1) (by omega), pv (b + 2) (by omega)] at q
      exact ⟨b, hb, t, q⟩
  have lk : ∀ {n x w u}, lkN Ab ph V x n w u → lkN Ab th V x n w u := by
    intro n
    induction n with
    | zero => intro x w u h; exact h
    | succ n ih =>
      rintro x w u ⟨e, q1, q2⟩
      exact ⟨e, ih q1, eg.mpr q2⟩
  have xx : ∀ {x w}, xv V D2 (tLR V D2 Hd Rt2 th) Ab th V x w → xv V D (tLR V D Hd Rt ph) Ab ph V x w := by
    rintro x w (⟨c, hi, e⟩ | ⟨u, hu⟩)
    · exact Or.inl ⟨c, it hi, by rw [p2 c (ne c hi.1)]; exact e⟩
    · exact Or.inr ⟨u, eg.mp hu⟩
  refine ⟨fun c e dc he => ?_, fun x w hw => ?_⟩
  · have de := (hcl c dc).2 e he
    have := g1 c e ((hD c).mpr (Or.inl dc)) he
    exact ⟨fun q => dn.1 e (this.1 (up.1 c q).2) de, fun q => (dn.2 e (this.2 (up.2 c q).2)).1 de⟩
  · rcases g2 x w (xx hw) with ⟨u, ⟨c, ⟨i1, i2, a, b, i3, i4⟩, e, a2, b2, i5, i6⟩, n, q⟩ | ⟨q1, q2⟩
    · rw [i3] at i5
      cases i5
      have hc : c ≠ cd := fun q => by
        rw [q, hv] at i3
        cases i3
        exact i6 hh.1
      have dc : D2 c := ((hD c).mp i1).resolve_right hc
      exact Or.inl ⟨u, ⟨c, ⟨dc, dn.1 c i2 dc, a, b, i3, i4⟩, by rw [← p2 c hc]; exact e, a, b, i3, i6⟩, n, lk q⟩
    · refine Or.inr ⟨fun e de te => q1 e ((hD e).mpr (Or.inl de)) te, fun u hu => ?_⟩
      obtain ⟨n, q⟩ := q2 u (xx hu)
      exact ⟨n, lk q⟩
/-- the start: nothing bound, no heads -/
theorem JSg_new {V : Nat → TV} {D Rt : Nat → Prop} (hb : ∀ c e, D c → V c ≠ some (.inl e)) : JSg V D (fun _ => False) Rt (fun _ => False) := by
  intro th hs hn
  refine ⟨fun c e dc he => absurd he (hb c e dc), fun x w hw => ?_⟩
  rcases hw with ⟨c, hi, e⟩ | ⟨u, b, hb, _⟩
  · obtain ⟨d1, d2, a, b, e2, t⟩ := id hi
    exact Or.inl ⟨w, ⟨c, hi, e, a, b, e2, fun q => q⟩, Lk.self'⟩
  · exact absurd hb id
