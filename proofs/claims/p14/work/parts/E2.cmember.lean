/-! THE CLASS: "M" -/
theorem ce_46 {C : Cf} (hC : cfOK C) {b : Nat} (hb : isSeaA rSkel b) {sg : rSg} {np gl l : Nat} (hsc : cSc C sg (b + 1) np gl) (hnp : np + 1 ≤ 640) {td : List It} {ks : List Nat} {nv : Nat} {K : Kx} {fs ms : List Nat} {H : Nat → Prop} {gs : List Nat} (h : cSo C sg (b + 1) (b + 221) np gl (td, ks, nv, K) fs ms H gs) (hv : nv ≤ 60) (hm : ms.length + 1 + sumI (imm C) td ≤ C.mu) (hl : cSn sg l) (hl0 : l + 400 < 2 ^ 32) {x y : Nat} {fx fy : Tf} (hx : cTd C.tp x ∧ tdn sg (b + 1) C.tp x fx) (hmx : mPt C x) (hy : arg C sg (b + 1) nv H y fy) {K2 : Kx} (hK2 : K2 = uni K fy (prf fx (vr nv)))
    {L : List Bk} {bq : Bk} (hlk : hLk C nv (cV sg (b + 1) (b + 221 + 1) 64) fs ms L) (hbq : bkB bq = nv ∧ bkK bq = 2 ∧ bkG bq < C.ng) (hfx : fx = tb1 C.tb (bkG bq)) (hbL : ∀ p ∈ L, bkB p < nv) (hho : HsO C.tb td (nv + 1) K2 (bq :: L)) (hct : hCt C td (bq :: L)) :
    EvS rSkel 5 46 [.inr (.inr (some b)), .inl (nI x), .inl (nI y)] sg (fun r t => ∃ n, r = some (.inl n) ∧ frK b (b + 221) sg t ∧ scSame np gl (b + 1) (b + 1) sg t ∧ cSc C t (b + 1) (np + 1) gl ∧ (∃ l2, cSn t l2 ∧ l2 ≤ l + 65) ∧ ((¬ n = 0 ∧ sax K2 ∧ cSt C t (b + 1) (b + 221) (np + 1) gl (td, ks, nv + 1, K2)) ∨ (n = 0 ∧ ¬ sax K2))) := by
  subst hK2
  have b5 : 5 < b := hb.1.1
  have hsr : isScr (b + 1) := hb.1.2.2.2.2.2.1
  have hst : isSt (b + 221) := hb.1.2.2.2.2.2.2.2
  obtain ⟨e1, e2, e3, e4, e5, e6, e7⟩ := id h
  have e6 : cCo sg (b + 1) (b + 221 + 1) C.tp np C.p nv fs ms H K := e6
  have hf : cFr (cV sg (b + 1) (b + 221 + 1) 64) C.tp np C.p nv fs ms H := e6.2.1
  have hnv : 6 ≤ nv ∧ nv ≤ 63 := hf.1
  have e1 : sg (b + 221) 2 = nI nv := e1
  refine w_46 sg b hb.1 _ _ ((ce_56p hst sg e1 (by omega)).imp ?_)
  rintro _ t1 ⟨rfl, a1, a2, a3, a4, a5⟩
  refine ⟨_, rfl, (ce_23p hsr t1 (n := np) (by rw [a1 _ (by omega) (by omega)]; exact hsc.2.2.1) (by omega) (nI x) (nI nv)).imp ?_⟩
  rintro _ m ⟨rfl, g1, g2, g3, g4, g5, g6⟩
  have F1 : frK b (b + 221) sg m := ⟨fun q z1 z2 z3 => by rw [g1 q (by omega) (by omega), a1 q (by omega) (by omega)], fun j hj => by rw [g2 j (by omega), a1 _ (by omega) (by omega)]⟩
  have F3 : scSame np gl (b + 1) (b + 1) sg m := ⟨fun j hj => by
      show m (b + 1 + 3) j = _
      rw [g4 j hj, a1 _ (by omega) (by omega)], fun j hj => by
      show m (b + 2) j = sg (b + 2) j
      rw [g1 _ (by omega) (by omega), a1 _ (by omega) (by omega)], fun j hj => by
      show m (b + 3) j = sg (b + 3) j
      rw [g1 _ (by omega) (by omega), a1 _ (by omega) (by omega)]⟩
  have F2 : m (b + 1) 3 = nI gl := by rw [g2 3 (by decide), a1 _ (by omega) (by omega)]; exact hsc.2.1
  have F7 : ∀ j, j < nv → m (b + 221 + 1) j = sg (b + 221 + 1) j := fun j hj => by rw [g1 _ (by omega) (by omega), a5 j (by omega)]
  have F7n : ∀ j, nv ≤ j → j < nv + 1 → m (b + 221 + 1) j = -1 := fun j z1 z2 => by rw [g1 _ (by omega) (by omega), show j = nv by omega]; exact a4
  have hlm : cSn m l := ⟨by rw [g1 1 (by omega) (by omega), a1 1 (by omega) (by omega)]; exact hl.1, fun j hj => by rw [g1 5 (by omega) (by omega), a1 5 (by omega) (by omega)]; exact hl.2 j hj⟩
  have hscm : cSc C m (b + 1) (np + 1) gl := cSc_same hsc F3 F2 g3 ⟨by omega, by omega⟩ ⟨Nat.le_refl _, hsc.1.2.2.2⟩
  have nHn : ¬ H nv := fun q => by have := hf.2.2.2.1 nv q; omega
  have hHb : ∀ v, H v → 6 ≤ v ∧ v < nv + 1 := fun v q => by have := hf.2.2.2.1 v q; omega
  have cS1 : cCo m (b + 1) (b + 221 + 1) C.tp (np + 1) C.p (nv + 1) ([] ++ fs) ([256 + np] ++ ms) H K := cCo_grow hsc.1.1 e6 ⟨by omega, by omega⟩ ⟨by omega, by omega⟩ F7 F7n F3.1 (fun c hc => by cases hc) (fun c hc => by
    rcases List.mem_cons.mp hc with rfl | hc
    · exact ⟨by omega, x, nv, by rw [show 2 * (256 + np - 256) = 2 * np by omega]; exact g5, by rw [show 2 * (256 + np - 256) = 2 * np by omega]; exact g6, hx.1, by omega, nHn⟩
    · cases hc) (fun v _ => Iff.rfl) hHb (fun q1 q2 q3 q4 => cJS_G0 hsc.1.1 (by have := hsc.1.1; omega) q1 q2 q3 q4)
  simp only [List.nil_append, List.cons_append] at cS1
  have hcn : cCn C.tp fs.length (ms.length + 1) := by
    have q1 := e7.1
    have q2 := e7.2.1
    simp only at q1 q2
    unfold cCn
    by_cases ha : C.hA
    · have := (hC.2.1 ha).1
      omega
    · have := hC.2.2.1
      have := q2 ha
      omega
  have hnu : ∀ {K' : Kx}, cNu C (td, ks, nv + 1, K') fs.length (ms.length + 1) := by
    intro K'
    obtain ⟨q1, q2, q3, q4, q5, q6⟩ := e7
    simp only at q1 q2 q3 q4 q5 q6
    refine ⟨?_, fun z => ?_, hm, q4, q5, q6⟩
    · show 3 * fs.length ≤ 2 * (nv + 1 - 6)
      omega
    · have := q2 z
      show 2 * fs.length ≤ nv + 1 - 6
      omega
  have hX1 : cSo C m (b + 1) (b + 221) (np + 1) gl (td, ks, nv + 1, K) fs ((256 + np) :: ms) H gs := ⟨by rw [g1 _ (by omega) (by omega)]; exact a3, by rw [g1 _ (by omega) (by omega), a2 3 (by decide)]; exact e2, pilk_mv (fun j _ => by rw [g1 _ (by omega) (by omega), a1 _ (by omega) (by omega)]) e3, cIts_same hsc.2.2.2.1 hsc.1.1 hsc.1.2.1 F3 (Nat.le_refl _) (by show nv ≤ nv + 1; omega) (fun _ _ z => z) e4, by rw [g1 _ (by omega) (by omega), a2 4 (by decide)]; exact e5, cS1, hnu⟩
  have hx2 : tdn m (b + 1) C.tp x fx := tdn_same hsc.2.2.2.1 (fun j hj => F3.1 j (by have := hsc.1; omega)) (by have := hsc.1; omega) hx.2
  have hxl : x < 2 ^ 31 := by have := hx.1; have := hsc.1; omega
  have vcx : cV m (b + 1) (b + 221 + 1) 64 (256 + np) = some (.inr (.inr (x, nv))) := cV_pair (by omega) (by omega) (by rw [show 2 * (256 + np - 256) = 2 * np by omega]; exact g5) (by rw [show 2 * (256 + np - 256) = 2 * np by omega]; exact g6) hxl (by omega)
  have dcx : cDm (nv + 1) C.tp fs ((256 + np) :: ms) (256 + np) := Or.inr (Or.inr (Or.inr (Or.inr List.mem_cons_self)))
  have hold : vAg (cDm nv C.tp fs ms) (cV sg (b + 1) (b + 221 + 1) 64) (cV m (b + 1) (b + 221 + 1) 64) := cSame_ag hsc.1.1 hsc.1.2.1 hf ⟨F7, fun c hc => by
    have : 256 ≤ c ∧ c < 256 + np := by
      have htn := hsc.1.1
      rcases hc with q | q | q
      · omega
      · have := (hf.2.1 c q).1; omega
      · have := (hf.2.2.1 c q).1; omega
    exact ⟨F3.1 _ (by omega), F3.1 _ (by omega)⟩⟩
  have hlkm : hLk C (nv + 1) (cV m (b + 1) (b + 221 + 1) 64) fs ((256 + np) :: ms) (bq :: L) := by
    refine hLk_up hlk (fun c hc => Or.inl (hold c hc)) (fun c hc => ?_) (fun p hp => by rw [hbq.1]; exact hbL p hp) hbq.2.2 (fun c hc => Or.inl hc) (fun c hc d hd n1 _ _ => absurd hc n1) (fun c hc => ?_) (fun c hc => hc) (fun k => absurd (hbq.2.1.symm.trans k) (by decide))
    · rcases hc with z | z | z | z | z
      · exact Or.inl (by omega)
      · exact Or.inr (Or.inl z)
      · exact Or.inr (Or.inr (Or.inl z))
      · exact Or.inr (Or.inr (Or.inr (Or.inl z)))
      · exact Or.inr (Or.inr (Or.inr (Or.inr (List.mem_cons_of_mem _ z))))
    · rcases List.mem_cons.mp hc with rfl | hc
      · refine Or.inr ⟨rfl, hbq.2.1, x, by rw [hbq.1]; exact vcx, hmx, fun th hs r hr => ?_⟩
        rw [← hfx]
        exact tdn_dnt (by omega) hx2 th hs r hr
      · exact Or.inl hc
  refine ⟨_, rfl, (so_newp hC hsr hst (by omega) hscm hX1 (dnt_pair dcx vcx (tdn_dnt (by omega) hx2) (vr_dnt (by omega))) dcx (by omega) hcn hlm (by omega) (arg_move hsc F3 (show nv ≤ nv + 1 by omega) (fun _ _ z => z) hy) (Or.inr (Or.inr (Or.inr (Or.inr List.mem_cons_self)))) (h := 0) (t := 0)).imp ?_⟩
  rintro _ m2 ⟨n, rfl, u1, ⟨l2, hl2, hl3⟩, hout⟩
  have F3b : scSame np gl (b + 1) (b + 1) sg m2 := F3.trans (scSame.of (u1 _ (by omega) (by omega)) (u1 _ (by omega) (by omega)) (u1 _ (by omega) (by omega)))
  have hsc2 : cSc C m2 (b + 1) (np + 1) gl := cSc_same hscm (scSame.of (u1 _ (by omega) (by omega)) (u1 _ (by omega) (by omega)) (u1 _ (by omega) (by omega))) (by rw [u1 _ (by omega) (by omega)]; exact F2) (by rw [u1 _ (by omega) (by omega)]; exact g3) ⟨Nat.le_refl _, by omega⟩ ⟨Nat.le_refl _, hsc.1.2.2.2⟩
  rcases hout with ⟨rfl, s1, s2, s3, lk2, _⟩ | ⟨rfl, s1⟩
  · exact ⟨1, rfl, by decide, 1, rfl, F1.trans (frU.K b5 (by omega) u1), F3b, hsc2, ⟨l2, hl2, by omega⟩, Or.inl ⟨by decide, s1, s2.st ⟨bq :: L, hho, hct, lk2 _ hlkm⟩⟩⟩
  · exact ⟨0, rfl, by decide, 0, rfl, F1.trans (frU.K b5 (by omega) u1), F3b, hsc2, ⟨l2, hl2, by omega⟩, Or.inr ⟨rfl, s1⟩⟩
theorem ce_47 {C : Cf} (hC : cfOK C) {b : Nat} (hb : isSeaA rSkel b) {sg : rSg} {np gl l : Nat} (hsc : cSc C sg (b + 1) np gl) (hnp : np + 1 ≤ 640) (hgl : gl + 1 ≤ 326) {td : List It} {ks : List Nat} {nv : Nat} {K : Kx} {fs ms : List Nat} {H : Nat → Prop} {gs : List Nat} (h : cSo C sg (b + 1) (b + 218) np gl (td, ks, nv, K) fs ms H gs) (hv : nv ≤ 60) (hm : ms.length + 1 + sumI (imm C) td ≤ C.mu) (hw : sumI (iw C) td + 1 ≤ 26) (hl : cSn sg l) (hl0 : l + 400 < 2 ^ 32) {x y : Nat} {fx fy : Tf} (hx : cTd C.tp x ∧ tdn sg (b + 1) C.tp x fx) (hmx : mPt C x) (hy : arg C sg (b + 1) nv H y fy) {K2 : Kx} (hK2 : K2 = uni K fy (prf (vr nv) (vr (nv + 1))))
    {L : List Bk} {bq : Bk} (hlk : hLk C nv (cV sg (b + 1) (b + 218 + 1) 64) fs ms L) (hbq : bkB bq = nv ∧ bkK bq = 1 ∧ bkG bq < C.ng) (hbL : ∀ p ∈ L, bkB p < nv) (hho : HsO C.tb (.inr (false, fx, vr (nv + 1), atm 10) :: td) (nv + 2) K2 (bq :: L)) (hct : hCt C (.inr (false, fx, vr (nv + 1), atm 10) :: td) (bq :: L)) :
    EvS rSkel 5 47 [.inr (.inr (some b)), .inl (nI x), .inl (nI y)] sg (fun r t => ∃ n, r = some (.inl n) ∧ frK b (b + 218) sg t ∧ scSame np gl (b + 1) (b + 1) sg t ∧ cSc C t (b + 1) (np + 1) (gl + 1) ∧ (∃ l2, cSn t l2 ∧ l2 ≤ l + 65) ∧ ((¬ n = 0 ∧ sax K2 ∧ cSt C t (b + 1) (b + 218) (np + 1) (gl + 1) (.inr (false, fx, vr (nv + 1), atm 10) :: td, ks, nv + 2, K2)) ∨ (n = 0 ∧ ¬ sax K2))) := by
  subst hK2
  have b5 : 5 < b := hb.1.1
  have hsr : isScr (b + 1) := hb.1.2.2.2.2.2.1
  have hst : isSt (b + 218) := hb.1.2.2.2.2.2.2.1
  obtain ⟨e1, e2, e3, e4, e5, e6, e7⟩ := id h
  have e6 : cCo sg (b + 1) (b + 218 + 1) C.tp np C.p nv fs ms H K := e6
  have hf : cFr (cV sg (b + 1) (b + 218 + 1) 64) C.tp np C.p nv fs ms H := e6.2.1
  have hnv : 6 ≤ nv ∧ nv ≤ 63 := hf.1
  have e1 : sg (b + 218) 2 = nI nv := e1
  have hgl9 := cSo_len hC h
  refine w_47 sg b hb.1 _ _ ((ce_56p hst sg e1 (by omega)).imp ?_)
  rintro _ t1 ⟨rfl, a1, a2, a3, a4, a5⟩
  refine ⟨_, rfl, (ce_56p hst t1 a3 (by omega)).imp ?_⟩
  rintro _ t2 ⟨rfl, b1, b2, b3, b4, b5'⟩
  refine ⟨_, rfl, ((ce_45 hb t2 (g := gl) (by rw [b1 _ (by omega) (by omega), a1 _ (by omega) (by omega)]; exact hsc.2.1) (by omega) 77 (nI x) (nI (nv + 1)) 138).up (by decide)).imp ?_⟩
  rintro _ t4 ⟨rfl, d1, d2, d3, d4, d5, d6, d7, d8, d9⟩
  refine ⟨_, rfl, (c_stpush hst t4 (t := gs.length) (by rw [d1 _ (by omega) (by omega) (by omega), b2 3 (by decide), a2 3 (by decide)]; exact e2) (by omega) (nI gl)).imp ?_⟩
  rintro _ t5 ⟨rfl, f1, f2, f3, f4, f5⟩
  refine ⟨rfl, (ce_23p hsr t5 (n := np) (by rw [f1 _ (by omega) (by omega), d2 4 (by decide), b1 _ (by omega) (by omega), a1 _ (by omega) (by omega)]; exact hsc.2.2.1) (by omega) (nI nv) (nI (nv + 1))).imp ?_⟩
  rintro _ m ⟨rfl, g1, g2, g3, g4, g5, g6⟩
  have F1 : frK b (b + 218) sg m := ⟨fun q z1 z2 z3 => by rw [g1 q (by omega) (by omega), f1 q (by omega) (by omega), d1 q (by omega) (by omega) (by omega), b1 q (by omega) (by omega), a1 q (by omega) (by omega)], fun j hj => by rw [g2 j (by omega), f1 _ (by omega) (by omega), d2 j (by omega), b1 _ (by omega) (by omega), a1 _ (by omega) (by omega)]⟩
  have F3 : scSame np gl (b + 1) (b + 1) sg m := ⟨fun j hj => by
      show m (b + 1 + 3) j = _
      rw [g4 j hj, f1 _ (by omega) (by omega), d1 _ (by omega) (by omega) (by omega), b1 _ (by omega) (by omega), a1 _ (by omega) (by omega)], fun j hj => by
      show m (b + 2) j = sg (b + 2) j
      rw [g1 _ (by omega) (by omega), f1 _ (by omega) (by omega), d4 j hj, b1 _ (by omega) (by omega), a1 _ (by omega) (by omega)], fun j hj => by
      show m (b + 3) j = sg (b + 3) j
      rw [g1 _ (by omega) (by omega), f1 _ (by omega) (by omega), d6 j hj, b1 _ (by omega) (by omega), a1 _ (by omega) (by omega)]⟩
  have F2 : m (b + 1) 3 = nI (gl + 1) := by rw [g2 3 (by decide), f1 _ (by omega) (by omega)]; exact d3
  have F4 : m (b + 2) gl = nI 77 := by rw [g1 _ (by omega) (by omega), f1 _ (by omega) (by omega)]; exact d5
  have F4a : m (b + 3) (3 * gl) = nI x := by rw [g1 _ (by omega) (by omega), f1 _ (by omega) (by omega)]; exact d7
  have F4b : m (b + 3) (3 * gl + 1) = nI (nv + 1) := by rw [g1 _ (by omega) (by omega), f1 _ (by omega) (by omega)]; exact d8
  have F6 : m (b + 218) 2 = nI (nv + 2) := by rw [g1 _ (by omega) (by omega), f2 2 (by decide), d1 _ (by omega) (by omega) (by omega)]; exact b3
  have F6b : m (b + 218) 3 = nI (gs.length + 1) := by rw [g1 _ (by omega) (by omega)]; exact f3
  have F6c : m (b + 218) 4 = sg (b + 218) 4 := by rw [g1 _ (by omega) (by omega), f2 4 (by decide), d1 _ (by omega) (by omega) (by omega), b2 4 (by decide), a2 4 (by decide)]
  have F7r : ∀ j, m (b + 218 + 1) j = t2 (b + 218 + 1) j := fun j => by rw [g1 _ (by omega) (by omega), f1 _ (by omega) (by omega), d1 _ (by omega) (by omega) (by omega)]
  have F7 : ∀ j, j < nv → m (b + 218 + 1) j = sg (b + 218 + 1) j := fun j hj => by rw [F7r j, b5' j (by omega), a5 j (by omega)]
  have F7n : ∀ j, nv ≤ j → j < nv + 2 → m (b + 218 + 1) j = -1 := fun j z1 z2 => by
    rw [F7r j]
    by_cases q1 : j = nv + 1
    · rw [q1]; exact b4
    · rw [b5' j (by omega), show j = nv by omega]
      exact a4
  have F8 : m (b + 218 + 2) gs.length = nI gl := by rw [g1 _ (by omega) (by omega)]; exact f4
  have F8b : ∀ j, j < gs.length → m (b + 218 + 2) j = sg (b + 218 + 2) j := fun j hj => by rw [g1 _ (by omega) (by omega), f5 j (by omega), d1 _ (by omega) (by omega) (by omega), b1 _ (by omega) (by omega), a1 _ (by omega) (by omega)]
  have hlm : cSn m l := ⟨by rw [g1 1 (by omega) (by omega), f1 1 (by omega) (by omega), d1 1 (by omega) (by omega) (by omega), b1 1 (by omega) (by omega), a1 1 (by omega) (by omega)]; exact hl.1, fun j hj => by rw [g1 5 (by omega) (by omega), f1 5 (by omega) (by omega), d1 5 (by omega) (by omega) (by omega), b1 5 (by omega) (by omega), a1 5 (by omega) (by omega)]; exact hl.2 j hj⟩
  clear a1 a2 a3 a4 a5 b1 b2 b3 b4 b5' d1 d2 d3 d4 d5 d6 d7 d8 d9 f1 f2 f3 f4 f5 g1 g2 g4
  have hscm : cSc C m (b + 1) (np + 1) (gl + 1) := cSc_same hsc F3 F2 g3 ⟨by omega, by omega⟩ ⟨by omega, by omega⟩
  have hx2 : tdn m (b + 1) C.tp x fx := tdn_same hsc.2.2.2.1 (fun j hj => F3.1 j (by have := hsc.1; omega)) (by have := hsc.1; omega) hx.2
  have hHb : ∀ v, (H v ∨ v = nv) → 6 ≤ v ∧ v < nv + 2 := fun v q => by
    rcases q with q | q
    · have := hf.2.2.2.1 v q; omega
    · omega
  have hHi : ∀ v, v < nv → ((H v ∨ v = nv) ↔ H v) := fun v q => ⟨fun z => z.resolve_right (by omega), Or.inl⟩
  have nH : ∀ v, nv < v → ¬ (H v ∨ v = nv) := fun v q z => by
    rcases z with z | z
    · have := hf.2.2.2.1 v z; omega
    · omega
  have vcx : cV m (b + 1) (b + 218 + 1) 64 (256 + np) = some (.inr (.inr (nv, nv + 1))) := cV_pair (by omega) (by omega) (by rw [show 2 * (256 + np - 256) = 2 * np by omega]; exact g5) (by rw [show 2 * (256 + np - 256) = 2 * np by omega]; exact g6) (by omega) (by omega)
  have cS1 : cCo m (b + 1) (b + 218 + 1) C.tp (np + 1) C.p (nv + 2) ([256 + np] ++ fs) ([] ++ ms) (fun v => H v ∨ v = nv) K := cCo_grow hsc.1.1 e6 ⟨by omega, by omega⟩ ⟨by omega, by omega⟩ F7 F7n F3.1 (fun c hc => by
    rcases List.mem_cons.mp hc with rfl | hc
    · exact ⟨by omega, nv, nv + 1, by rw [show 2 * (256 + np - 256) = 2 * np by omega]; exact g5, by rw [show 2 * (256 + np - 256) = 2 * np by omega]; exact g6, Or.inr rfl, by omega, nH _ (by omega)⟩
    · cases hc) (fun c hc => by cases hc) hHi hHb (fun q1 q2 q3 q4 => cJS_G1 (h0 := nv) hsc.1.1 (by have := hsc.1.1; omega) ⟨Nat.le_refl _, by omega, Or.inr rfl⟩ vcx q1 q2 q3 q4)
  simp only [List.nil_append, List.cons_append] at cS1
  have hnu : ∀ {K' : Kx}, cNu C (.inr (false, fx, vr (nv + 1), atm 10) :: td, ks, nv + 2, K') (fs.length + 1) ms.length := by
    intro K'
    obtain ⟨q1, q2, q3, q4, q5, q6⟩ := e7
    simp only at q1 q2 q3 q4 q5 q6
    refine ⟨?_, fun z => ?_, ?_, ?_, fun q => ?_, q6⟩
    · show 3 * (fs.length + 1) ≤ 2 * (nv + 2 - 6)
      omega
    · have := q2 z
      show 2 * (fs.length + 1) ≤ nv + 2 - 6
      omega
    · show ms.length + (1 + sumI (imm C) td) ≤ C.mu
      omega
    · show 1 + sumI (iw C) td ≤ 26
      omega
    · have := q5 q
      show ks.count q + (0 + sumI (ioc C q) td) ≤ 1
      omega
  have hit : cIts C m (b + 1) (nv + 2) (fun v => H v ∨ v = nv) (gl + 1) (gl :: gs) (.inr (false, fx, vr (nv + 1), atm 10) :: td) := ⟨Or.inr ⟨⟨hsc.1.2.2.1, by omega⟩, Or.inr ⟨F4, x, nv + 1, fx, F4a, F4b, ⟨by omega, nH _ (by omega)⟩, hx.1, hx2, rfl, hmx⟩⟩, cIts_same hsc.2.2.2.1 hsc.1.1 (by omega) F3 (by omega) (by show nv ≤ nv + 2; omega) (fun v q z => (hHi v q).mp z) e4⟩
  have hX1 : cSo C m (b + 1) (b + 218) (np + 1) (gl + 1) (.inr (false, fx, vr (nv + 1), atm 10) :: td, ks, nv + 2, K) ((256 + np) :: fs) ms (fun v => H v ∨ v = nv) (gl :: gs) := ⟨F6, F6b, ⟨F8, pilk_mv F8b e3⟩, hit, by rw [F6c]; exact e5, cS1, hnu⟩
  have dcx : cDm (nv + 2) C.tp ((256 + np) :: fs) ms (256 + np) := Or.inr (Or.inr (Or.inr (Or.inl List.mem_cons_self)))
  have hcn := (cNu_cn hC e7 hv).2
  have hold : vAg (cDm nv C.tp fs ms) (cV sg (b + 1) (b + 218 + 1) 64) (cV m (b + 1) (b + 218 + 1) 64) := cSame_ag hsc.1.1 hsc.1.2.1 hf ⟨F7, fun c hc => by
    have : 256 ≤ c ∧ c < 256 + np := by
      have htn := hsc.1.1
      rcases hc with q | q | q
      · omega
      · have := (hf.2.1 c q).1; omega
      · have := (hf.2.2.1 c q).1; omega
    exact ⟨F3.1 _ (by omega), F3.1 _ (by omega)⟩⟩
  have hlkm : hLk C (nv + 2) (cV m (b + 1) (b + 218 + 1) 64) ((256 + np) :: fs) ms (bq :: L) := by
    have two : ∀ {c}, c ∈ (256 + np) :: fs → c ∉ fs → c = 256 + np := fun {c} h1 h2 => by
      rcases List.mem_cons.mp h1 with z | z
      · exact z
      · exact absurd z h2
    refine hLk_up hlk (fun c hc => Or.inl (hold c hc)) (fun c hc => ?_) (fun p hp => by rw [hbq.1]; exact hbL p hp) hbq.2.2 (fun c hc => ?_) (fun c hc d hd n1 n2 _ => by rw [two hc n1, two hd n2]) (fun c hc => Or.inl hc) (fun c hc => List.mem_cons_of_mem _ hc) (fun k => absurd (hbq.2.1.symm.trans k) (by decide))
    · rcases hc with z | z | z | z | z
      · exact Or.inl (by omega)
      · exact Or.inr (Or.inl z)
      · exact Or.inr (Or.inr (Or.inl z))
      · exact Or.inr (Or.inr (Or.inr (Or.inl (List.mem_cons_of_mem _ z))))
      · exact Or.inr (Or.inr (Or.inr (Or.inr z)))
    · rw [hbq.1]
      rcases List.mem_cons.mp hc with rfl | hc
      · exact Or.inr ⟨_, vcx, Or.inr ⟨hbq.2.1, rfl⟩⟩
      · exact Or.inl hc
  refine ⟨_, rfl, (so_newp hC hsr hst (by omega) hscm hX1 (dnt_pair dcx vcx (vr_dnt (by omega)) (vr_dnt (by omega))) dcx (by omega) (by simpa using hcn) hlm (by omega) (arg_move hsc F3 (show nv ≤ nv + 2 by omega) (fun v z1 z2 => (hHi v z1).mp z2) hy) (Or.inr (Or.inr (Or.inr (Or.inl List.mem_cons_self)))) (h := 0) (t := 0)).imp ?_⟩
  rintro _ m2 ⟨n, rfl, u1, ⟨l2, hl2, hl3⟩, hout⟩
  have F3b : scSame np gl (b + 1) (b + 1) sg m2 := F3.trans (scSame.of (u1 _ (by omega) (by omega)) (u1 _ (by omega) (by omega)) (u1 _ (by omega) (by omega)))
  have hsc2 : cSc C m2 (b + 1) (np + 1) (gl + 1) := cSc_same hscm (scSame.of (u1 _ (by omega) (by omega)) (u1 _ (by omega) (by omega)) (u1 _ (by omega) (by omega))) (by rw [u1 _ (by omega) (by omega)]; exact F2) (by rw [u1 _ (by omega) (by omega)]; exact g3) ⟨Nat.le_refl _, by omega⟩ ⟨Nat.le_refl _, by omega⟩
  rcases hout with ⟨rfl, s1, s2, s3, lk2, _⟩ | ⟨rfl, s1⟩
  · exact ⟨1, rfl, by decide, 1, rfl, F1.trans (frU.K b5 (by omega) u1), F3b, hsc2, ⟨l2, hl2, by omega⟩, Or.inl ⟨by decide, s1, s2.st ⟨bq :: L, hho, hct, lk2 _ hlkm⟩⟩⟩
  · exact ⟨0, rfl, by decide, 0, rfl, F1.trans (frU.K b5 (by omega) u1), F3b, hsc2, ⟨l2, hl2, by omega⟩, Or.inr ⟨rfl, s1⟩⟩
