/-! THE CLASS IS ASKED: turned -/
theorem cTab_kind {C : Cf} {t : rSg} {s g : Nat} (h : cTab C t s) (hg : g < C.ng) : t (s + 1) g = nI (C.tb g).1 ∧ (C.tb g).1 < 1000 ∧ ((C.tb g).1 = 38 ∨ (C.tb g).1 = 124 → t (s + 2) (3 * g) = nI (tbA C.tb g) ∧ t (s + 2) (3 * g + 1) = nI (tbB C.tb g) ∧ tbA C.tb g < C.ng ∧ tbB C.tb g < C.ng) := by
  obtain ⟨k, h1, h2, h3⟩ := h g hg
  refine ⟨by rw [h2]; exact h1, ?_, fun q => ?_⟩
  · rcases h3 with ⟨h3, _⟩ | ⟨⟨h3, _⟩, _⟩ | ⟨h3, _⟩ | h3 | h3 <;> omega
  · rcases h3 with ⟨h3, _⟩ | ⟨⟨h3, _⟩, _⟩ | ⟨h3, h4⟩ | h3 | h3
    · omega
    · omega
    · exact h4
    · omega
    · omega
theorem cfS_sz {C : Cf} {nT : Nat} (h : tSz C nT) : tSz (cfS C) nT := by
  have kd : ∀ g, ((cfS C).tb g).1 = (C.tb g).1 := fun g => by
    show (tbS C.tb g).1 = _
    unfold tbS
    split
    · next q => rw [q]
    · rfl
  obtain ⟨h1, p, gs, h2, h3, h4, h5⟩ := h
  refine ⟨fun c a b d => ?_, p, gs, h2, h3, h4, fun g hg => by rw [kd g]; exact h5 g hg⟩
  obtain ⟨g, hg, h⟩ := h1 c a b d
  refine ⟨g, hg, ?_⟩
  unfold lpt at h ⊢
  rw [kd g]
  exact h
theorem cfS_tab {C : Cf} {t u : rSg} {s : Nat} (htp : C.tp ≤ 640) (hto : cTo t s C.tp C.p) (h : cTab C t s) (hpos : 0 < C.ng) (k0 : (C.tb 0).1 = 38 ∨ (C.tb 0).1 = 124) (e1 : u (s + 1) = t (s + 1)) (e3 : u (s + 3) = t (s + 3)) (e2 : ∀ j, j ≠ 0 → j ≠ 1 → u (s + 2) j = t (s + 2) j) (e4 : u (s + 2) 0 = nI (tbB C.tb 0)) (e5 : u (s + 2) 1 = nI (tbA C.tb 0)) : cTab (cfS C) u s := by
  intro g hg
  have hg : g < C.ng := hg
  have td : ∀ {c : Nat} {f : Tf}, tdn t s C.tp c f → tdn u s C.tp c f := fun hd => tdn_same hto (fun j _ => by rw [e3]) htp hd
  by_cases g0 : g = 0
  · subst g0
    obtain ⟨q1, q2, q3⟩ := cTab_kind h hpos
    obtain ⟨q4, q5, q6, q7⟩ := q3 k0
    have e : tbS C.tb 0 = ((C.tb 0).1, (C.tb 0).2.1, (C.tb 0).2.2.1, (C.tb 0).2.2.2.1, tbB C.tb 0, tbA C.tb 0) := if_pos rfl
    refine ⟨(C.tb 0).1, by rw [e1]; exact q1, ?_, Or.inr (Or.inr (Or.inl ⟨k0, ?_, ?_, ?_, ?_⟩))⟩
    · show (tbS C.tb 0).1 = _
      rw [e]
    · show u (s + 2) (3 * 0) = nI (tbA (tbS C.tb) 0)
      simp only [tbA, e]
      exact e4
    · show u (s + 2) (3 * 0 + 1) = nI (tbB (tbS C.tb) 0)
      simp only [tbB, e]
      exact e5
    · show tbA (tbS C.tb) 0 < C.ng
      simp only [tbA, e]
      exact q7
    · show tbB (tbS C.tb) 0 < C.ng
      simp only [tbB, e]
      exact q6
  · have e : tbS C.tb g = C.tb g := if_neg g0
    obtain ⟨k, h1, h2, h3⟩ := h g hg
    refine ⟨k, by rw [e1]; exact h1, by show (tbS C.tb g).1 = k; rw [e]; exact h2, ?_⟩
    have r0 : u (s + 2) (3 * g) = t (s + 2) (3 * g) := e2 _ (by omega) (by omega)
    have r1 : u (s + 2) (3 * g + 1) = t (s + 2) (3 * g + 1) := e2 _ (by omega) (by omega)
    have r2 : u (s + 2) (3 * g + 2) = t (s + 2) (3 * g + 2) := e2 _ (by omega) (by omega)
    have b1 : tb1 (tbS C.tb) g = tb1 C.tb g := by simp only [tb1, e]
    have b2 : tb2 (tbS C.tb) g = tb2 C.tb g := by simp only [tb2, e]
    have b3 : tb3 (tbS C.tb) g = tb3 C.tb g := by simp only [tb3, e]
    have bA : tbA (tbS C.tb) g = tbA C.tb g := by simp only [tbA, e]
    have bB : tbB (tbS C.tb) g = tbB C.tb g := by simp only [tbB, e]
    rcases h3 with ⟨h3, x, y, p1, p2, p3, p4, p5⟩ | ⟨h3, x, y, z, p1, p2, p3, p4, p5, p6, p7⟩ | ⟨h3, p1, p2, p3, p4⟩ | h3 | h3
    · exact Or.inl ⟨h3, x, y, r0.trans p1, r1.trans p2, p3, by show tdn u s C.tp x (tb1 (tbS C.tb) g); rw [b1]; exact td p4, by show tdn u s C.tp y (tb2 (tbS C.tb) g); rw [b2]; exact td p5.1, p5.2⟩
    · exact Or.inr (Or.inl ⟨h3, x, y, z, r0.trans p1, r1.trans p2, r2.trans p3, p4, by show tdn u s C.tp x (tb1 (tbS C.tb) g); rw [b1]; exact td p5, by show tdn u s C.tp y (tb2 (tbS C.tb) g); rw [b2]; exact td p6, by show tdn u s C.tp z (tb3 (tbS C.tb) g); rw [b3]; exact td p7.1, p7.2⟩)
    · refine Or.inr (Or.inr (Or.inl ⟨h3, ?_, ?_, ?_, ?_⟩))
      · show u (s + 2) (3 * g) = nI (tbA (tbS C.tb) g); rw [bA]; exact r0.trans p1
      · show u (s + 2) (3 * g + 1) = nI (tbB (tbS C.tb) g); rw [bB]; exact r1.trans p2
      · show tbA (tbS C.tb) g < C.ng; rw [bA]; exact p3
      · show tbB (tbS C.tb) g < C.ng; rw [bB]; exact p4
    · exact Or.inr (Or.inr (Or.inr (Or.inl h3)))
    · exact Or.inr (Or.inr (Or.inr (Or.inr h3)))
theorem cx_99 {s : rSg} {A : Ab} {im : Option Ab} (h : clI s) {l : Nat} (hl : cSn s l) (hl9 : l + 5304000 + 30000 < 2 ^ 32) (c : CJ s A im) (x : Int32) : EvS rSkel 8 99 [.inr (.inr (some 0)), .inl x] s (cP (sTurn A x) l 5304000 s) := by
  have k0 : kc0 l 5304000 s s := ⟨kc.rfl', rfl, ⟨l, by omega, hl⟩, h⟩
  obtain ⟨C, e1, e2, e3, e4, e5, e6, e7, e8⟩ := c.1
  have htp : C.tp ≤ 640 := by
    obtain ⟨np, gl, q, _⟩ := e7
    have := q.1
    omega
  have hpos : 0 < C.ng := e3.2.1
  obtain ⟨kd, kd9, kd3⟩ := cTab_kind e8.2.2.2.2.2.1 hpos
  rw [e1] at kd kd9 kd3
  have main : (x = 0 ∨ x = 1) → ((A.tb 0).1 = 38 ∨ (A.tb 0).1 = 124) → EvS rSkel 2 26 [.inr (.inr (some 231)), .inr (.inr (some 7))] s (fun v12 t13 => v12 = none ∧
          EvS rSkel 1 28 [.inr (.inr (some 7)), .inl (t13 7 5), .inl 1] t13 (fun v15 t16 => ∃ n18, v15 = some (.inl n18) ∧
            EvS rSkel 1 22 [.inr (.inr (some 231)), .inl (t13 231 5), .inl 0, .inl n18] t16 (fun v19 t20 => v19 = none ∧
              EvS rSkel 1 28 [.inr (.inr (some 7)), .inl (t20 7 5), .inl 0] t20 (fun v22 t23 => ∃ n25, v22 = some (.inl n25) ∧
                EvS rSkel 1 22 [.inr (.inr (some 231)), .inl (t20 231 5), .inl 1, .inl n25] t23 (fun v26 t27 => v26 = none ∧
                  EvS rSkel 3 33 [.inr (.inr (some 230))] t27 (fun v29 t30 => v29 = none ∧
                    EvS rSkel 7 36 [.inr (.inr (some 230)), .inl 120, .inl 30] t30 (fun v32 t33 => v32 = none ∧
                      (¬ x = 0 → 
                        (¬ (t33 230 10) = 0 → 
                          EvS rSkel 1 48 [.inr (.inr (some 230)), .inl 0] t33 (fun v37 t38 => ∃ n40, v37 = some (.inl n40) ∧
                            cP (sTurn A x) l 5304000 s (some (.inl n40)) t38)) ∧
                        (¬ (¬ (t33 230 10) = 0) → 
                          cP (sTurn A x) l 5304000 s (some (.inl ((-9)))) t33)) ∧
                      (¬ (¬ x = 0) → 
                        cP (sTurn A x) l 5304000 s (some (.inl (t33 230 10))) t33)))))))) := by
    intro hx h2
    obtain ⟨d1, d2, d3, d4⟩ := kd3 h2
    refine (ce_26 e3.1 scr231 scr7 (by decide) e8).imp ?_
    rintro _ t ⟨rfl, t1, t2⟩
    have t75 : t 7 5 = nI 0 := by rw [t2 7 (by decide) (by decide) (by decide) (by decide)]; exact e8.1
    have t315 : t 231 5 = nI 0 := t1.1.1
    rw [t75, t315]
    refine ⟨rfl, (ce_28 scr7 (g := 0) (j := 1) (by decide) (by decide) t).imp ?_⟩
    rintro _ t' ⟨rfl, rfl⟩
    refine ⟨_, rfl, (ce_22 scr231 t' (g := 0) (j := 0) (by decide) (by decide) _).imp ?_⟩
    rintro _ u ⟨rfl, eu⟩
    have u7 : ∀ q, q ≠ 233 → u q = t' q := fun q hq => by rw [eu, up2_nk _ _ _ hq]
    rw [u7 7 (by decide), u7 231 (by decide), t75, t315]
    refine ⟨rfl, (ce_28 scr7 (g := 0) (j := 0) (by decide) (by decide) u).imp ?_⟩
    rintro _ u' ⟨rfl, rfl⟩
    refine ⟨_, rfl, (ce_22 scr231 u' (g := 0) (j := 1) (by decide) (by decide) _).imp ?_⟩
    rintro _ w ⟨rfl, ew⟩
    have p7 : t' 9 1 = nI (tbB A.tb 0) := by rw [t2 9 (by decide) (by decide) (by decide) (by decide)]; exact d2
    have p6 : t' 9 0 = nI (tbA A.tb 0) := by rw [t2 9 (by decide) (by decide) (by decide) (by decide)]; exact d1
    have w7 : ∀ q, q ≠ 233 → w q = t' q := fun q hq => by rw [ew, up2_nk _ _ _ hq]; exact u7 q hq
    have w0 : w 233 0 = nI (tbB C.tb 0) := by
      rw [ew]
      show up2 u' 233 1 (u' 9 0) 233 0 = _
      rw [up2_nj _ _ _ (by decide), eu]
      show up2 t' 233 0 (t' 9 1) 233 0 = _
      rw [up2_same, p7, e1]
    have w1 : w 233 1 = nI (tbA C.tb 0) := by
      rw [ew]
      show up2 u' 233 1 (u' 9 0) 233 1 = _
      rw [up2_same, u7 9 (by decide), p6, e1]
    have w2 : ∀ j, j ≠ 0 → j ≠ 1 → w 233 j = t' 233 j := fun j h0 h1 => by
      rw [ew]
      show up2 u' 233 1 (u' 9 0) 233 j = _
      rw [up2_nj _ _ _ h1, eu]
      show up2 t' 233 0 (t' 9 1) 233 j = _
      rw [up2_nj _ _ _ h0]
    obtain ⟨⟨s1, s2, s3, s4, s5, s6, sz⟩, s7, s8⟩ := t1
    have tabS : cTab (cfS C) w 231 := cfS_tab htp s5 s6 hpos (by rw [e1]; exact h2) (w7 232 (by decide)) (w7 234 (by decide)) w2 w0 w1
    have toS : cTo w 231 C.tp C.p := cTo_same s5 (fun j _ => by rw [w7 234 (by decide)])
    have scS : scN (cfS C) w 231 0 A.nT := ⟨⟨by rw [w7 231 (by decide)]; exact s1, by rw [w7 231 (by decide)]; exact s2, by rw [w7 231 (by decide)]; exact s3, by rw [w7 231 (by decide)]; exact s4, toS, tabS, fun q => cfS_sz (sz q)⟩, by rw [w7 231 (by decide)]; exact s7, by rw [w7 231 (by decide)]; exact s8⟩
    have cS := cfS_ok e3
    refine ⟨rfl, (ce_33 cS seaA230 scS).imp ?_⟩
    rintro _ y ⟨rfl, y1, y2, y3⟩
    have fr : ∀ q, q < 230 ∨ 453 < q → y q = s q := fun q hq => by rw [y3 q (by omega), w7 q (by omega), t2 q (by omega) (by omega) (by omega) (by omega)]
    refine ⟨rfl, (cx_36 (s := s) (l := l) (D := 0) cS.1 ⟨kc.of fr, fr 691 (by omega), ⟨l, by omega, cSn_fr hl (by rw [fr 1 (by omega)]) (fr 5 (by omega))⟩, h.1.ext (fr 6 (by omega)), h.2.2.ext (fr 454 (by omega))⟩ y1 (N := 120) (en := 30) (by decide) (by decide) (by omega)).imp ?_⟩
    rintro _ z ⟨rfl, Q2, q1, q2, q3⟩
    have q3 : kc0 l 5304000 s z := ⟨q3.1, q3.2.1, q3.2.2.1.elim (fun m z => ⟨m, by omega, z.2⟩), q3.2.2.2⟩
    have q1 : gos (tbS A.tb) 30 120 (bgn 0) Q2 := by
      have : (cfS C).tb = tbS A.tb := by show tbS C.tb = _; rw [e1]
      rw [← this]; exact q1
    have t10 := q2.ten
    rw [t10.1]
    refine ⟨rfl, fun e => ⟨fun z => ?_, fun z => ?_⟩, fun e => ?_⟩
    · cases eQ : Q2.2.1 with
      | nil => exact absurd (by rw [eQ]; rfl) z
      | cons nX l =>
        obtain ⟨n, X⟩ := nX
        have hX : Q2.2.1[0]? = some (n, X) := by rw [eQ]; rfl
        refine cx_48 (tb := A.tb) (nG := 0) (nT := 0) (Q := Q2) (i := 0) sea230 t10.1 t10.2 hX (q2.an hX).1 ⟨_, rfl, q3.is (Or.inl ⟨hx, Or.inl ⟨h2, Q2, q1, ?_, rfl⟩⟩)⟩
        rw [if_neg e, eQ]
        rfl
    · have z := Classical.not_not.mp z
      have z := (nI_eq (b := 0) (by omega) (by decide)).mp z
      refine q3.is (Or.inl ⟨hx, Or.inl ⟨h2, Q2, q1, ?_, rfl⟩⟩)
      rw [if_neg e, List.length_eq_zero_iff.mp z]
      rfl
    · refine q3.is (Or.inl ⟨hx, Or.inl ⟨h2, Q2, q1, ?_, rfl⟩⟩)
      rw [if_pos (Classical.not_not.mp e)]
  have all : (x = 0 ∨ x = 1) → g_99_16 x s (cP (sTurn A x) l 5304000 s) := fun hx => by
    refine w_99_16 s x ?_
    rw [e8.1]
    refine (ce_29 scr7 (g := 0) (by decide) s).imp ?_
    rintro _ s' ⟨rfl, rfl⟩
    refine ⟨_, rfl, fun e => main hx (Or.inl ?_), fun e1 => ⟨fun e => main hx (Or.inr ?_), fun e2 => cx_no k0 (by decide) (Or.inl ⟨hx, Or.inr ⟨?_, rfl, rfl⟩⟩)⟩⟩
    · exact (nI_eq (b := 38) (by omega) (by decide)).mp (kd.symm.trans e)
    · exact (nI_eq (b := 124) (by omega) (by decide)).mp (kd.symm.trans e)
    · rintro (z | z)
      · exact e1 (kd.trans (by rw [z]; rfl))
      · exact e2 (kd.trans (by rw [z]; rfl))
  exact w_99 s x ⟨fun e => all (Or.inl e), fun e => ⟨fun e2 => all (Or.inr e2), fun e2 => cx_no k0 (by decide) (Or.inr ⟨fun z => z.elim e e2, rfl, rfl⟩)⟩⟩
