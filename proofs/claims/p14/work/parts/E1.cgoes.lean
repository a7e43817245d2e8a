/-! THE CLASS: "A" goes on -/
theorem ce_56p {k : Nat} (hk : isSt k) (sg : rSg) {v : Nat} (hv : sg k 2 = nI v) (h9 : v < 64) : EvS rSkel 1 56 [.inr (.inr (some k))] sg (fun r t => r = some (.inl (nI v)) ∧ (∀ q, q ≠ k → q ≠ k + 1 → t q = sg q) ∧ (∀ j, j ≠ 2 → t k j = sg k j) ∧ t k 2 = nI (v + 1) ∧ t (k + 1) v = -1 ∧ ∀ j, j ≠ v → t (k + 1) j = sg (k + 1) j) := by
  refine (ce_56 hk sg hv h9).imp ?_
  rintro _ t ⟨rfl, rfl⟩
  exact ⟨rfl, fun q g1 g2 => by rw [up2_nk _ _ _ g1, up2_nk _ _ _ g2], fun j hj => by rw [up2_nj _ _ _ hj, up2_nk _ _ _ (by omega)], up2_same _ _ _ _, by rw [up2_nk _ _ _ (by omega), up2_same], fun j hj => by rw [up2_nk _ _ _ (by omega), up2_nj _ _ _ hj]⟩
theorem ce_23p {s : Nat} (hs : isScr s) (sg : rSg) {n : Nat} (hn : sg s 4 = nI n) (h9 : n < 640) (x y : Int32) : EvS rSkel 1 23 [.inr (.inr (some s)), .inl x, .inl y] sg (fun r t => r = some (.inl (nI (256 + n))) ∧ (∀ q, q ≠ s → q ≠ s + 3 → t q = sg q) ∧ (∀ j, j ≠ 4 → t s j = sg s j) ∧ t s 4 = nI (n + 1) ∧ (∀ j, j < 2 * n → t (s + 3) j = sg (s + 3) j) ∧ t (s + 3) (2 * n) = x ∧ t (s + 3) (2 * n + 1) = y) := by
  refine (ce_23 hs sg hn h9 x y).imp ?_
  rintro _ t ⟨rfl, rfl⟩
  exact ⟨rfl, fun q g1 g2 => by rw [up2_nk _ _ _ g1, up2_nk _ _ _ g2, up2_nk _ _ _ g2], fun j hj => by rw [up2_nj _ _ _ hj, up2_nk _ _ _ (by omega), up2_nk _ _ _ (by omega)], up2_same _ _ _ _, fun j hj => by rw [up2_nk _ _ _ (by omega), up2_nj _ _ _ (by omega), up2_nj _ _ _ (by omega)], by rw [up2_nk _ _ _ (by omega), up2_nj _ _ _ (by omega), up2_same], by rw [up2_nk _ _ _ (by omega), up2_same]⟩
/-- what a step with the state at k may change besides the queue: the unifier, the script, the state -/
def frK (b k : Nat) (sg t : rSg) : Prop := (∀ q, (q = 0 ∨ 5 < q) → ¬ (b + 1 ≤ q ∧ q ≤ b + 4) → ¬ (k ≤ q ∧ q ≤ k + 2) → t q = sg q) ∧ ∀ j, 5 ≤ j → t (b + 1) j = sg (b + 1) j
theorem frK.trans {b k : Nat} {a c d : rSg} (h1 : frK b k a c) (h2 : frK b k c d) : frK b k a d := ⟨fun q g1 g2 g3 => (h2.1 q g1 g2 g3).trans (h1.1 q g1 g2 g3), fun j hj => (h2.2 j hj).trans (h1.2 j hj)⟩
theorem frU.K {b k : Nat} {sg t : rSg} (hb : 5 < b) (hk : k ≠ b) (h : frU k sg t) : frK b k sg t := ⟨fun q g1 _ g3 => h q g1 (by omega), fun j _ => by rw [h (b + 1) (by omega) (by omega)]⟩
theorem vCl_of {V : Nat → TV} {D : Nat → Prop} {rk : Nat → Nat} (hok : vOK V D rk) : vCl V D := fun y hy => ⟨fun e he => ((hok y hy).1 e he).1, fun a b hp => ⟨((hok y hy).2.2 a b hp).1.1, ((hok y hy).2.2 a b hp).2.1⟩⟩
theorem vCl_ag {V W : Nat → TV} {S : Nat → Prop} (h : vAg S V W) (hS : vCl V S) : vCl W S := fun y hy => by
  rw [h y hy]
  exact hS y hy
/-- unify with a pair that is new -/
theorem so_newp {C : Cf} (hC : cfOK C) {sg : rSg} {s k np gl l : Nat} (hs : isScr s) (hk : isSt k) (hks : k + 2 < s ∨ s + 3 < k) (hsc : cSc C sg s np gl) {td : List It} {ks : List Nat} {nv : Nat} {K : Kx} {fs ms : List Nat} {H : Nat → Prop} {gs : List Nat} {c h t : Nat} {g : Tf} (hst : cSo C sg s k np gl (td, ks, nv, K) fs ms H gs) (hdb : dnt (cV sg s (k + 1) 64) (cDm nv C.tp fs ms) c g) (dc : cDm nv C.tp fs ms c) (hcp : 256 ≤ c) (hcn : cCn C.tp fs.length ms.length) (hl : cSn sg l) (hl0 : l + 300 < 2 ^ 32) {a : Nat} {f : Tf} (ha : arg C sg s nv H a f) (lc : cAr C.tp C.p nv fs ms H c) :
    EvS rSkel 4 65 [.inr (.inr (some 1)), .inr (.inr (some s)), .inr (.inr (some (k + 1))), .inl (nI a), .inl (nI c)] sg (fun r t => ∃ x, r = some (.inl x) ∧ frU k sg t ∧ (∃ l2, cSn t l2 ∧ l2 ≤ l + 65) ∧ ((x = 1 ∧ sax (uni K f g) ∧ cSo C t s k np gl (td, ks, nv, uni K f g) fs ms H gs ∧ cSc C t s np gl ∧ (∀ L, hLk C nv (cV sg s (k + 1) 64) fs ms L → hLk C nv (cV t s (k + 1) 64) fs ms L) ∧ ∃ n, uRun (cDm nv C.tp fs ms) (cV sg s (k + 1) 64) [(a, c)] n (cV t s (k + 1) 64) []) ∨ (x = 0 ∧ ¬ sax (uni K f g)))) := by
  have hf : cFr (cV sg s (k + 1) 64) C.tp np C.p nv fs ms H := hst.2.2.2.2.2.1.2.1
  have hnv : 6 ≤ nv ∧ nv ≤ 63 := hf.1
  have nHa : ¬ H a := arg_H ha hf.2.2.2.1 hnv.2
  have nHc : ¬ H c := fun q => by have := hf.2.2.2.1 c q; omega
  exact so_unify hC hs hk hks hsc hst hl hl0 (by unfold cCn at hcn; omega) (fun th n W rs h1 h2 hr => cFr_few hf hsc.1.1 hcn nHa nHc h1 h2 hr) (arg_D ha hnv.1) dc nHa nHc (arg_dnt ha hnv) hdb (arg_Ar ha hnv.1 nHa) lc
theorem ce_44 {C : Cf} (hC : cfOK C) {b : Nat} (hb : isSeaA rSkel b) {sg : rSg} {np gl l : Nat} (hsc : cSc C sg (b + 1) np gl) (hnp : np + 2 ≤ 640) (hgl : gl + 1 ≤ 326) {td : List It} {ks : List Nat} {nv : Nat} {K : Kx} {fs ms : List Nat} {H : Nat → Prop} {gs : List Nat} (h : cSo C sg (b + 1) (b + 218) np gl (td, ks, nv, K) fs ms H gs) (hv : nv ≤ 60) (hA : C.hA) (hw : sumI (iw C) td + 1 ≤ 26) (hl : cSn sg l) (hl0 : l + 400 < 2 ^ 32) {x y z : Nat} {fx fy fz : Tf} (hx : arg C sg (b + 1) nv H x fx) (hy : cTd C.tp y ∧ tdn sg (b + 1) C.tp y fy ∧ rtc C y) (hz : arg C sg (b + 1) nv H z fz) {K2 : Kx} (hK2 : K2 = uni (uni K fx (prf (vr nv) (vr (nv + 1)))) fz (prf (vr nv) (vr (nv + 2))))
    {L : List Bk} {bq : Bk} (hlk : hLk C nv (cV sg (b + 1) (b + 218 + 1) 64) fs ms L) (hbq : bkB bq = nv ∧ bkK bq = 0 ∧ bkG bq < C.ng) (hbL : ∀ p ∈ L, bkB p < nv) (hho : HsO C.tb (.inr (true, vr (nv + 1), fy, vr (nv + 2)) :: td) (nv + 3) K2 (bq :: L)) (hct : hCt C (.inr (true, vr (nv + 1), fy, vr (nv + 2)) :: td) (bq :: L)) :
    EvS rSkel 5 44 [.inr (.inr (some b)), .inl (nI x), .inl (nI y), .inl (nI z)] sg (fun r t => ∃ n, r = some (.inl n) ∧ ∃ np2, (np ≤ np2 ∧ np2 ≤ np + 2) ∧ frK b (b + 218) sg t ∧ scSame np gl (b + 1) (b + 1) sg t ∧ cSc C t (b + 1) np2 (gl + 1) ∧ (∃ l2, cSn t l2 ∧ l2 ≤ l + 130) ∧ ((¬ n = 0 ∧ sax K2 ∧ cSt C t (b + 1) (b + 218) np2 (gl + 1) (.inr (true, vr (nv + 1), fy, vr (nv + 2)) :: td, ks, nv + 3, K2)) ∨ (n = 0 ∧ ¬ sax K2))) := by
  subst hK2
  have b5 : 5 < b := hb.1.1
  have hsr : isScr (b + 1) := hb.1.2.2.2.2.2.1
  have hst : isSt (b + 218) := hb.1.2.2.2.2.2.2.1
  obtain ⟨e1, e2, e3, e4, e5, e6, e7⟩ := id h
  have e6 : cCo sg (b + 1) (b + 218 + 1) C.tp np C.p nv fs ms H K := e6
  have hf : cFr (cV sg (b + 1) (b + 218 + 1) 64) C.tp np C.p nv fs ms H := e6.2.1
  have hnv : 6 ≤ nv ∧ nv ≤ 63 := hf.1
  have hgl9 := cSo_len hC h
  have e1 : sg (b + 218) 2 = nI nv := e1
  refine w_44 sg b hb.1 _ _ _ ((ce_56p hst sg e1 (by omega)).imp ?_)
  rintro _ t1 ⟨rfl, a1, a2, a3, a4, a5⟩
  refine ⟨_, rfl, (ce_56p hst t1 a3 (by omega)).imp ?_⟩
  rintro _ t2 ⟨rfl, b1, b2, b3, b4, b5'⟩
  refine ⟨_, rfl, (ce_56p hst t2 b3 (by omega)).imp ?_⟩
  rintro _ t3 ⟨rfl, c1, c2, c3, c4, c5⟩
  refine ⟨_, rfl, ((ce_45 hb t3 (g := gl) (by rw [c1 _ (by omega) (by omega), b1 _ (by omega) (by omega), a1 _ (by omega) (by omega)]; exact hsc.2.1) (by omega) 65 (nI (nv + 1)) (nI y) (nI (nv + 2))).up (by decide)).imp ?_⟩
  rintro _ t4 ⟨rfl, d1, d2, d3, d4, d5, d6, d7, d8, d9⟩
  refine ⟨_, rfl, (c_stpush hst t4 (t := gs.length) (by rw [d1 _ (by omega) (by omega) (by omega), c2 3 (by decide), b2 3 (by decide), a2 3 (by decide)]; exact e2) (by omega) (nI gl)).imp ?_⟩
  rintro _ t5 ⟨rfl, f1, f2, f3, f4, f5⟩
  refine ⟨rfl, (ce_23p hsr t5 (n := np) (by rw [f1 _ (by omega) (by omega), d2 4 (by decide), c1 _ (by omega) (by omega), b1 _ (by omega) (by omega), a1 _ (by omega) (by omega)]; exact hsc.2.2.1) (by omega) (nI nv) (nI (nv + 1))).imp ?_⟩
  rintro _ m ⟨rfl, g1, g2, g3, g4, g5, g6⟩
  -- the store with all of that
  have F1 : frK b (b + 218) sg m := ⟨fun q z1 z2 z3 => by rw [g1 q (by omega) (by omega), f1 q (by omega) (by omega), d1 q (by omega) (by omega) (by omega), c1 q (by omega) (by omega), b1 q (by omega) (by omega), a1 q (by omega) (by omega)], fun j hj => by rw [g2 j (by omega), f1 _ (by omega) (by omega), d2 j (by omega), c1 _ (by omega) (by omega), b1 _ (by omega) (by omega), a1 _ (by omega) (by omega)]⟩
  have F3 : scSame np gl (b + 1) (b + 1) sg m := ⟨fun j hj => by
      show m (b + 1 + 3) j = _
      rw [g4 j hj, f1 _ (by omega) (by omega), d1 _ (by omega) (by omega) (by omega), c1 _ (by omega) (by omega), b1 _ (by omega) (by omega), a1 _ (by omega) (by omega)], fun j hj => by
      show m (b + 2) j = sg (b + 2) j
      rw [g1 _ (by omega) (by omega), f1 _ (by omega) (by omega), d4 j hj, c1 _ (by omega) (by omega), b1 _ (by omega) (by omega), a1 _ (by omega) (by omega)], fun j hj => by
      show m (b + 3) j = sg (b + 3) j
      rw [g1 _ (by omega) (by omega), f1 _ (by omega) (by omega), d6 j hj, c1 _ (by omega) (by omega), b1 _ (by omega) (by omega), a1 _ (by omega) (by omega)]⟩
  have F2 : m (b + 1) 3 = nI (gl + 1) := by rw [g2 3 (by decide), f1 _ (by omega) (by omega)]; exact d3
  have F4 : m (b + 2) gl = nI 65 := by rw [g1 _ (by omega) (by omega), f1 _ (by omega) (by omega)]; exact d5
  have F4a : m (b + 3) (3 * gl) = nI (nv + 1) := by rw [g1 _ (by omega) (by omega), f1 _ (by omega) (by omega)]; exact d7
  have F4b : m (b + 3) (3 * gl + 1) = nI y := by rw [g1 _ (by omega) (by omega), f1 _ (by omega) (by omega)]; exact d8
  have F4c : m (b + 3) (3 * gl + 2) = nI (nv + 2) := by rw [g1 _ (by omega) (by omega), f1 _ (by omega) (by omega)]; exact d9
  have F6 : m (b + 218) 2 = nI (nv + 3) := by rw [g1 _ (by omega) (by omega), f2 2 (by decide), d1 _ (by omega) (by omega) (by omega)]; exact c3
  have F6b : m (b + 218) 3 = nI (gs.length + 1) := by rw [g1 _ (by omega) (by omega)]; exact f3
  have F6c : m (b + 218) 4 = sg (b + 218) 4 := by rw [g1 _ (by omega) (by omega), f2 4 (by decide), d1 _ (by omega) (by omega) (by omega), c2 4 (by decide), b2 4 (by decide), a2 4 (by decide)]
  have F7r : ∀ j, m (b + 219) j = t3 (b + 219) j := fun j => by rw [g1 _ (by omega) (by omega), f1 _ (by omega) (by omega), d1 _ (by omega) (by omega) (by omega)]
  have F7 : ∀ j, j < nv → m (b + 218 + 1) j = sg (b + 218 + 1) j := fun j hj => by
    show m (b + 219) j = _
    rw [F7r j, c5 j (by omega), b5' j (by omega), a5 j (by omega)]
  have F7n : ∀ j, nv ≤ j → j < nv + 3 → m (b + 218 + 1) j = -1 := fun j z1 z2 => by
    show m (b + 219) j = _
    rw [F7r j]
    by_cases q2 : j = nv + 2
    · rw [q2]; exact c4
    · rw [c5 j (by omega)]
      by_cases q1 : j = nv + 1
      · rw [q1]; exact b4
      · rw [b5' j (by omega), show j = nv by omega]
        exact a4
  have F8 : m (b + 220) gs.length = nI gl := by rw [g1 _ (by omega) (by omega)]; exact f4
  have F8b : ∀ j, j < gs.length → m (b + 220) j = sg (b + 220) j := fun j hj => by
    rw [g1 _ (by omega) (by omega)]
    show t5 (b + 218 + 2) j = _
    rw [f5 j (by omega), d1 _ (by omega) (by omega) (by omega), c1 _ (by omega) (by omega), b1 _ (by omega) (by omega), a1 _ (by omega) (by omega)]
  have FL : m 1 = sg 1 ∧ m 5 = sg 5 := by
    constructor
    · rw [g1 1 (by omega) (by omega), f1 1 (by omega) (by omega), d1 1 (by omega) (by omega) (by omega), c1 1 (by omega) (by omega), b1 1 (by omega) (by omega), a1 1 (by omega) (by omega)]
    · rw [g1 5 (by omega) (by omega), f1 5 (by omega) (by omega), d1 5 (by omega) (by omega) (by omega), c1 5 (by omega) (by omega), b1 5 (by omega) (by omega), a1 5 (by omega) (by omega)]
  have hlm : cSn m l := ⟨by rw [FL.1]; exact hl.1, fun j hj => by rw [FL.2]; exact hl.2 j hj⟩
  clear a1 a2 a3 a4 a5 b1 b2 b3 b4 b5' c1 c2 c3 c4 c5 d1 d2 d3 d4 d5 d6 d7 d8 d9 f1 f2 f3 f4 f5 g1 g2 g4 FL
  have hscm : cSc C m (b + 1) (np + 1) (gl + 1) := cSc_same hsc F3 F2 g3 ⟨by omega, by omega⟩ ⟨by omega, by omega⟩
  have hy2 : tdn m (b + 1) C.tp y fy := tdn_same hsc.2.2.2.1 (fun j hj => F3.1 j (by have := hsc.1; omega)) (by have := hsc.1; omega) hy.2.1
  -- heads
  have hHb : ∀ v, (H v ∨ v = nv) → 6 ≤ v ∧ v < nv + 3 := fun v q => by
    rcases q with q | q
    · have := hf.2.2.2.1 v q; omega
    · omega
  have hHi : ∀ v, v < nv → ((H v ∨ v = nv) ↔ H v) := fun v q => ⟨fun z => z.resolve_right (by omega), Or.inl⟩
  have nH : ∀ v, nv < v → ¬ (H v ∨ v = nv) := fun v q z => by
    rcases z with z | z
    · have := hf.2.2.2.1 v z; omega
    · omega
  have vcx : cV m (b + 1) (b + 218 + 1) 64 (256 + np) = some (.inr (.inr (nv, nv + 1))) := cV_pair (by omega) (by omega) (by rw [show 2 * (256 + np - 256) = 2 * np by omega]; exact g5) (by rw [show 2 * (256 + np - 256) = 2 * np by omega]; exact g6) (by omega) (by omega)
  have cS0 : cCo m (b + 1) (b + 218 + 1) C.tp (np + 1) C.p (nv + 3) ([] ++ fs) ([] ++ ms) (fun v => H v ∨ v = nv) K := cCo_grow hsc.1.1 e6 ⟨by show nv ≤ nv + 3; omega, by omega⟩ ⟨by omega, by omega⟩ F7 F7n F3.1 (fun c hc => by cases hc) (fun c hc => by cases hc) hHi hHb (fun q1 q2 q3 q4 => cJS_G0 hsc.1.1 (by have := hsc.1.1; omega) q1 q2 q3 q4)
  have cS1 : cCo m (b + 1) (b + 218 + 1) C.tp (np + 1) C.p (nv + 3) ([256 + np] ++ fs) ([] ++ ms) (fun v => H v ∨ v = nv) K := cCo_grow hsc.1.1 e6 ⟨by show nv ≤ nv + 3; omega, by omega⟩ ⟨by omega, by omega⟩ F7 F7n F3.1 (fun c hc => by
    rcases List.mem_cons.mp hc with rfl | hc
    · exact ⟨by omega, nv, nv + 1, by rw [show 2 * (256 + np - 256) = 2 * np by omega]; exact g5, by rw [show 2 * (256 + np - 256) = 2 * np by omega]; exact g6, Or.inr rfl, by omega, nH _ (by omega)⟩
    · cases hc) (fun c hc => by cases hc) hHi hHb (fun q1 q2 q3 q4 => cJS_G1 (h0 := nv) hsc.1.1 (by have := hsc.1.1; omega) ⟨Nat.le_refl _, by omega, Or.inr rfl⟩ vcx q1 q2 q3 q4)
  simp only [List.nil_append, List.cons_append] at cS0 cS1
  have cNx : ∀ {K' : Kx} {f : Nat}, f ≤ fs.length + 2 → cNu C (.inr (true, vr (nv + 1), fy, vr (nv + 2)) :: td, ks, nv + 3, K') f ms.length := by
    intro K' f hf2
    obtain ⟨q1, q2, q3, q4, q5, q6⟩ := e7
    simp only at q1 q3 q4 q5 q6
    refine ⟨?_, fun z => absurd hA z, ?_, ?_, fun q => ?_, q6⟩
    · show 3 * f ≤ 2 * (nv + 3 - 6)
      omega
    · show ms.length + (0 + sumI (imm C) td) ≤ C.mu
      omega
    · show 1 + sumI (iw C) td ≤ 26
      omega
    · have := q5 q
      show ks.count q + (0 + sumI (ioc C q) td) ≤ 1
      omega
  have hit : cIts C m (b + 1) (nv + 3) (fun v => H v ∨ v = nv) (gl + 1) (gl :: gs) (.inr (true, vr (nv + 1), fy, vr (nv + 2)) :: td) := ⟨Or.inr ⟨⟨hsc.1.2.2.1, by omega⟩, Or.inl ⟨hA, F4, nv + 1, y, nv + 2, fy, F4a, F4b, F4c, ⟨by omega, nH _ (by omega)⟩, ⟨by omega, nH _ (by omega)⟩, hy.1, hy2, rfl, hy.2.2⟩⟩, cIts_same hsc.2.2.2.1 hsc.1.1 (by omega) F3 (by omega) (by show nv ≤ nv + 3; omega) (fun v q z => (hHi v q).mp z) e4⟩
  have hX1 : cSo C m (b + 1) (b + 218) (np + 1) (gl + 1) (.inr (true, vr (nv + 1), fy, vr (nv + 2)) :: td, ks, nv + 3, K) ((256 + np) :: fs) ms (fun v => H v ∨ v = nv) (gl :: gs) := ⟨F6, F6b, ⟨F8, pilk_mv F8b e3⟩, hit, by rw [F6c]; exact e5, cS1, cNx (by simp)⟩
  have mvm : ∀ {a f}, arg C sg (b + 1) nv H a f → arg C m (b + 1) (nv + 3) (fun v => H v ∨ v = nv) a f := fun q => arg_move hsc F3 (by omega) (fun v z1 z2 => (hHi v z1).mp z2) q
  have dcx : cDm (nv + 3) C.tp ((256 + np) :: fs) ms (256 + np) := Or.inr (Or.inr (Or.inr (Or.inl List.mem_cons_self)))
  have hcn := (cNu_cn hC e7 hv).2
  refine ⟨_, rfl, (so_newp hC hsr hst (by omega) hscm hX1 (dnt_pair dcx vcx (vr_dnt (by omega)) (vr_dnt (by omega))) dcx (by omega) (by simpa using hcn) hlm (by omega) (mvm hx) (Or.inr (Or.inr (Or.inr (Or.inl List.mem_cons_self)))) (h := 0) (t := 0)).imp ?_⟩
  rintro _ m2 ⟨n, rfl, u1, ⟨l2, hl2, hl3⟩, hout⟩
  have F3b : scSame np gl (b + 1) (b + 1) sg m2 := F3.trans (scSame.of (u1 _ (by omega) (by omega)) (u1 _ (by omega) (by omega)) (u1 _ (by omega) (by omega)))
  rcases hout with ⟨rfl, s1, s2, s3, lk2, nn, hrun⟩ | ⟨rfl, s1⟩
  · refine ⟨1, rfl, fun q => absurd q (by decide), fun _ => ?_⟩
    -- the second pair
    refine (ce_23p hsr m2 (n := np + 1) s3.2.2.1 (by omega) (nI nv) (nI (nv + 2))).imp ?_
    rintro _ m3 ⟨rfl, v1, v2, v3, v4, v5, v6⟩
    have F3c : scSame (np + 1) (gl + 1) (b + 1) (b + 1) m2 m3 := ⟨v4, fun j _ => by rw [v1 (b + 1 + 1) (by omega) (by omega)], fun j _ => by rw [v1 (b + 1 + 2) (by omega) (by omega)]⟩
    have F3d : scSame np gl (b + 1) (b + 1) sg m3 := F3b.trans ⟨fun j hj => F3c.1 j (by omega), fun j hj => F3c.2.1 j (by omega), fun j hj => F3c.2.2 j (by omega)⟩
    have hsc3 : cSc C m3 (b + 1) (np + 2) (gl + 1) := cSc_same s3 F3c (by rw [v2 3 (by decide)]; exact s3.2.1) v3 ⟨by omega, by omega⟩ ⟨by omega, by omega⟩
    have r3 : m3 (b + 218 + 1) = m2 (b + 218 + 1) := v1 _ (by omega) (by omega)
    have ncl : ∀ c ∈ [256 + (np + 1)], (256 + (np + 1) ≤ c ∧ c < 256 + (np + 2)) ∧ ∃ h u, m3 (b + 1 + 3) (2 * (c - 256)) = nI h ∧ m3 (b + 1 + 3) (2 * (c - 256) + 1) = nI u ∧ (H h ∨ h = nv) ∧ (6 ≤ u ∧ u < nv + 3) ∧ ¬ (H u ∨ u = nv) := fun c hc => by
      rcases List.mem_cons.mp hc with rfl | hc
      · exact ⟨by omega, nv, nv + 2, by rw [show 2 * (256 + (np + 1) - 256) = 2 * (np + 1) by omega]; exact v5, by rw [show 2 * (256 + (np + 1) - 256) = 2 * (np + 1) by omega]; exact v6, Or.inr rfl, by omega, nH _ (by omega)⟩
      · cases hc
    have vcz : cV m3 (b + 1) (b + 218 + 1) 64 (256 + (np + 1)) = some (.inr (.inr (nv, nv + 2))) := cV_pair (by omega) (by omega) (by rw [show 2 * (256 + (np + 1) - 256) = 2 * (np + 1) by omega]; exact v5) (by rw [show 2 * (256 + (np + 1) - 256) = 2 * (np + 1) by omega]; exact v6) (by omega) (by omega)
    -- the second unify, with the pairs that still count
    have fin : ∀ fs3, fs3.length ≤ fs.length + 2 → C.tp + fs3.length + ms.length ≤ 500 → cCo m3 (b + 1) (b + 218 + 1) C.tp (np + 2) C.p (nv + 3) fs3 ms (fun v => H v ∨ v = nv) (uni K fx (prf (vr nv) (vr (nv + 1)))) → (256 + (np + 1)) ∈ fs3 → hLk C (nv + 3) (cV m3 (b + 1) (b + 218 + 1) 64) fs3 ms (bq :: L) → (∀ th n W rs, vSol (cV m3 (b + 1) (b + 218 + 1) 64) (cDm (nv + 3) C.tp fs3 ms) th → th z = th (256 + (np + 1)) → uRun (cDm (nv + 3) C.tp fs3 ms) (cV m3 (b + 1) (b + 218 + 1) 64) [(z, 256 + (np + 1))] n W rs → n < 900000) → EvS rSkel 4 65 [.inr (.inr (some 1)), .inr (.inr (some (b + 1))), .inr (.inr (some (b + 219))), .inl (nI z), .inl (nI (256 + (np + 1)))] m3 (fun v33 t34 => ∃ n36, v33 = some (.inl n36) ∧ (n36 = 0 → (∃ n, (some (.inl (0 : Int32)) : Option rv) = some (.inl n) ∧ ∃ np2, (np ≤ np2 ∧ np2 ≤ np + 2) ∧ frK b (b + 218) sg t34 ∧ scSame np gl (b + 1) (b + 1) sg t34 ∧ cSc C t34 (b + 1) np2 (gl + 1) ∧ (∃ l2, cSn t34 l2 ∧ l2 ≤ l + 130) ∧ ((¬ n = 0 ∧ sax (uni (uni K fx (prf (vr nv) (vr (nv + 1)))) fz (prf (vr nv) (vr (nv + 2)))) ∧ cSt C t34 (b + 1) (b + 218) np2 (gl + 1) (.inr (true, vr (nv + 1), fy, vr (nv + 2)) :: td, ks, nv + 3, (uni (uni K fx (prf (vr nv) (vr (nv + 1)))) fz (prf (vr nv) (vr (nv + 2)))))) ∨ (n = 0 ∧ ¬ sax (uni (uni K fx (prf (vr nv) (vr (nv + 1)))) fz (prf (vr nv) (vr (nv + 2)))))))) ∧ (¬ (n36 = 0) → (∃ n, (some (.inl (1 : Int32)) : Option rv) = some (.inl n) ∧ ∃ np2, (np ≤ np2 ∧ np2 ≤ np + 2) ∧ frK b (b + 218) sg t34 ∧ scSame np gl (b + 1) (b + 1) sg t34 ∧ cSc C t34 (b + 1) np2 (gl + 1) ∧ (∃ l2, cSn t34 l2 ∧ l2 ≤ l + 130) ∧ ((¬ n = 0 ∧ sax (uni (uni K fx (prf (vr nv) (vr (nv + 1)))) fz (prf (vr nv) (vr (nv + 2)))) ∧ cSt C t34 (b + 1) (b + 218) np2 (gl + 1) (.inr (true, vr (nv + 1), fy, vr (nv + 2)) :: td, ks, nv + 3, (uni (uni K fx (prf (vr nv) (vr (nv + 1)))) fz (prf (vr nv) (vr (nv + 2)))))) ∨ (n = 0 ∧ ¬ sax (uni (uni K fx (prf (vr nv) (vr (nv + 1)))) fz (prf (vr nv) (vr (nv + 2))))))))) := by
      intro fs3 hl9 hl8 hco hmem hlk3 hfew
      have hX3 : cSo C m3 (b + 1) (b + 218) (np + 2) (gl + 1) (.inr (true, vr (nv + 1), fy, vr (nv + 2)) :: td, ks, nv + 3, uni K fx (prf (vr nv) (vr (nv + 1)))) fs3 ms (fun v => H v ∨ v = nv) (gl :: gs) := ⟨by rw [v1 _ (by omega) (by omega)]; exact s2.1, by rw [v1 _ (by omega) (by omega)]; exact s2.2.1, pilk_mv (fun j _ => by rw [v1 (b + 218 + 2) (by omega) (by omega)]) s2.2.2.1, cIts_same s3.2.2.2.1 s3.1.1 s3.1.2.1 F3c (Nat.le_refl _) (Nat.le_refl _) (fun _ _ q => q) s2.2.2.2.1, by rw [v1 _ (by omega) (by omega)]; exact s2.2.2.2.2.1, hco, cNx hl9⟩
      have hz3 : arg C m3 (b + 1) (nv + 3) (fun v => H v ∨ v = nv) z fz := arg_move hsc F3d (by omega) (fun v z1 z2 => (hHi v z1).mp z2) hz
      have hf3 := hco.2.1
      have nHz := arg_H hz3 hf3.2.2.2.1 hf3.1.2
      have dcz : cDm (nv + 3) C.tp fs3 ms (256 + (np + 1)) := Or.inr (Or.inr (Or.inr (Or.inl hmem)))
      have nHc : ¬ (H (256 + (np + 1)) ∨ 256 + (np + 1) = nv) := nH _ (by omega)
      have hl4 : cSn m3 l2 := ⟨by rw [v1 1 (by omega) (by omega)]; exact hl2.1, fun j hj => by rw [v1 5 (by omega) (by omega)]; exact hl2.2 j hj⟩
      refine (so_unify hC hsr hst (by omega) hsc3 hX3 hl4 (by omega) hl8 hfew (arg_D hz3 hf3.1.1) dcz nHz nHc (arg_dnt hz3 hf3.1) (dnt_pair dcz vcz (vr_dnt (by omega)) (vr_dnt (by omega))) (arg_Ar hz3 hf3.1.1 nHz) (Or.inr (Or.inr (Or.inr (Or.inl hmem))))).imp ?_
      rintro _ m4 ⟨n, rfl, w1, ⟨l3, hl5, hl6⟩, hout⟩
      have F3e : scSame (np + 2) (gl + 1) (b + 1) (b + 1) m3 m4 := scSame.of (w1 _ (by omega) (by omega)) (w1 _ (by omega) (by omega)) (w1 _ (by omega) (by omega))
      have hfr : frK b (b + 218) sg m4 := ((F1.trans (frU.K b5 (by omega) u1)).trans ⟨fun q z1 z2 z3 => v1 q (by omega) (by omega), fun j hj => v2 j (by omega)⟩).trans (frU.K b5 (by omega) w1)
      have hssf : scSame np gl (b + 1) (b + 1) sg m4 := F3d.trans ⟨fun j hj => F3e.1 j (by omega), fun j hj => F3e.2.1 j (by omega), fun j hj => F3e.2.2 j (by omega)⟩
      have hsc4 : cSc C m4 (b + 1) (np + 2) (gl + 1) := cSc_same hsc3 F3e (by rw [w1 _ (by omega) (by omega)]; exact hsc3.2.1) (by rw [w1 _ (by omega) (by omega)]; exact hsc3.2.2.1) ⟨Nat.le_refl _, by omega⟩ ⟨Nat.le_refl _, by omega⟩
      rcases hout with ⟨rfl, y1, y2, y3, lk4, _⟩ | ⟨rfl, y1⟩
      · exact ⟨1, rfl, fun q => absurd q (by decide), fun _ => ⟨1, rfl, np + 2, ⟨by omega, by omega⟩, hfr, hssf, hsc4, ⟨l3, hl5, by omega⟩, Or.inl ⟨by decide, y1, y2.st ⟨bq :: L, hho, hct, lk4 _ hlk3⟩⟩⟩⟩
      · exact ⟨0, rfl, fun _ => ⟨0, rfl, np + 2, ⟨by omega, by omega⟩, hfr, hssf, hsc4, ⟨l3, hl5, by omega⟩, Or.inr ⟨rfl, y1⟩⟩, fun q => absurd rfl q⟩
    refine ⟨_, rfl, ?_⟩
    have hx9 : cDm nv C.tp fs ms x := arg_D hx hnv.1
    have hz9 : cDm nv C.tp fs ms z := arg_D hz hnv.1
    have hS0 : vCl (cV m (b + 1) (b + 218 + 1) 64) (cDm (nv + 3) C.tp fs ms) := by
      obtain ⟨rk, q⟩ := cS0.2.1.2.2.2.2.2.2.1
      exact vCl_of q
    obtain ⟨rk1, hok1⟩ := cS1.2.1.2.2.2.2.2.2.1
    have hsubn : ∀ q, cDm nv C.tp fs ms q → cDm (nv + 3) C.tp fs ms q := by
      intro q hq
      rcases hq with z | z
      · exact Or.inl (by omega)
      · exact Or.inr z
    have ncx : ¬ cDm (nv + 3) C.tp fs ms (256 + np) := fun q => by
      have := cFr_code cS0.2.1 (by have := hsc.1.1; omega) q
      rcases this with z | z | ⟨z, _⟩
      · omega
      · omega
      · have htn := hsc.1.1
        rcases z with z | z | z
        · omega
        · have := (hf.2.1 _ z).1; omega
        · have := (hf.2.2.1 _ z).1; omega
    have s2co : cCo m2 (b + 1) (b + 218 + 1) C.tp (np + 1) C.p (nv + 3) ((256 + np) :: fs) ms (fun v => H v ∨ v = nv) (uni K fx (prf (vr nv) (vr (nv + 1)))) := s2.2.2.2.2.2.1
    have hold : vAg (cDm nv C.tp fs ms) (cV sg (b + 1) (b + 218 + 1) 64) (cV m (b + 1) (b + 218 + 1) 64) := cSame_ag hsc.1.1 hsc.1.2.1 hf ⟨F7, fun c hc => by
      have : 256 ≤ c ∧ c < 256 + np := by
        have htn := hsc.1.1
        rcases hc with q | q | q
        · omega
        · have := (hf.2.1 c q).1; omega
        · have := (hf.2.2.1 c q).1; omega
      exact ⟨F3.1 _ (by omega), F3.1 _ (by omega)⟩⟩
    have ag3 : ∀ q, cDm (nv + 3) C.tp ((256 + np) :: fs) ms q → cV m3 (b + 1) (b + 218 + 1) 64 q = cV m2 (b + 1) (b + 218 + 1) 64 q := cSame_ag s3.1.1 s3.1.2.1 s2co.2.1 ⟨fun j _ => by rw [r3], fun c hc => by
      have : 256 ≤ c ∧ c < 256 + (np + 1) := by
        have htn := hsc.1.1
        rcases hc with q | q | q
        · omega
        · have := (s2co.2.1.2.1 c q).1; omega
        · have := (s2co.2.1.2.2.1 c q).1; omega
      exact ⟨v4 _ (by omega), v4 _ (by omega)⟩⟩
    have vx2 : vExt (cV m (b + 1) (b + 218 + 1) 64) (cV m2 (b + 1) (b + 218 + 1) 64) := uxRun hrun
    have vcx2 : cV m2 (b + 1) (b + 218 + 1) 64 (256 + np) = some (.inr (.inr (nv, nv + 1))) := xv_pr vx2 vcx
    -- what holds of the old codes
    have hup : ∀ c, cDm nv C.tp fs ms c → cV m3 (b + 1) (b + 218 + 1) 64 c = cV sg (b + 1) (b + 218 + 1) 64 c ∨ cV sg (b + 1) (b + 218 + 1) 64 c = none := fun c hc => by
      have d2 : cDm (nv + 3) C.tp ((256 + np) :: fs) ms c := by
        rcases hsubn c hc with z | z | z | z | z
        · exact Or.inl z
        · exact Or.inr (Or.inl z)
        · exact Or.inr (Or.inr (Or.inl z))
        · exact Or.inr (Or.inr (Or.inr (Or.inl (List.mem_cons_of_mem _ z))))
        · exact Or.inr (Or.inr (Or.inr (Or.inr z)))
      rw [ag3 c d2, ← hold c hc]
      rcases vx2 c with z | ⟨z, _⟩
      · exact Or.inl z
      · exact Or.inr z
    have vcx3 : cV m3 (b + 1) (b + 218 + 1) 64 (256 + np) = some (.inr (.inr (nv, nv + 1))) := by rw [ag3 _ dcx]; exact vcx2
    rcases uRun_new hok1 hS0 vcx (hsubn x hx9) (Or.inl (by omega)) (Or.inl (by omega)) ncx hrun with ⟨i, hri, hio, hW⟩ | hcl
    · -- what is x was open
      have hclo : vCl (cV m (b + 1) (b + 218 + 1) 64) (cDm nv C.tp fs ms) := by
        obtain ⟨rk, q⟩ := hf.2.2.2.2.2.2.1
        exact vCl_ag hold (vCl_of q)
      have di : cDm nv C.tp fs ms i := hri _ hclo hx9
      have hcodi := cFr_code hf hsc.1.1 di
      have nvo : ∀ j, nv ≤ j → j < nv + 3 → cV m (b + 1) (b + 218 + 1) 64 j = none := fun j z1 z2 => cV_opn (by omega) (F7n j z1 z2)
      have ino : ∀ j, nv ≤ j → j < nv + 3 → j ≠ i := fun j z1 z2 q => by omega
      have V2e : ∀ j, j ≠ i → cV m2 (b + 1) (b + 218 + 1) 64 j = cV m (b + 1) (b + 218 + 1) 64 j := fun j q => by rw [hW, vB_ne _ _ _ q]
      let S2 : Nat → Prop := fun q => cDm nv C.tp fs ms q ∨ q = 256 + np ∨ q = nv ∨ q = nv + 1
      have hS2 : vCl (cV m2 (b + 1) (b + 218 + 1) 64) S2 := by
        intro q hq
        by_cases hqi : q = i
        · subst hqi
          rw [hW, vB_same]
          refine ⟨fun e he => ?_, fun a b he => (by cases he)⟩
          cases he
          exact Or.inr (Or.inl rfl)
        · rw [V2e q hqi]
          rcases hq with hq | rfl | rfl | rfl
          · exact ⟨fun e he => Or.inl ((hclo q hq).1 e he), fun a b he => ⟨Or.inl ((hclo q hq).2 a b he).1, Or.inl ((hclo q hq).2 a b he).2⟩⟩
          · rw [vcx]
            refine ⟨fun e he => (by cases he), fun a b he => ?_⟩
            cases he
            exact ⟨Or.inr (Or.inr (Or.inl rfl)), Or.inr (Or.inr (Or.inr rfl))⟩
          · rw [nvo _ (by omega) (by omega)]
            exact ⟨fun e he => (by cases he), fun a b he => (by cases he)⟩
          · rw [nvo _ (by omega) (by omega)]
            exact ⟨fun e he => (by cases he), fun a b he => (by cases he)⟩
      have hS2D : ∀ q, S2 q → cDm (nv + 3) C.tp ((256 + np) :: fs) ms q := by
        intro q hq
        rcases hq with hq | rfl | rfl | rfl
        · rcases hq with z | z | z | z | z
          · exact Or.inl (by omega)
          · exact Or.inr (Or.inl z)
          · exact Or.inr (Or.inr (Or.inl z))
          · exact Or.inr (Or.inr (Or.inr (Or.inl (List.mem_cons_of_mem _ z))))
          · exact Or.inr (Or.inr (Or.inr (Or.inr z)))
        · exact dcx
        · exact Or.inl (by omega)
        · exact Or.inl (by omega)
      have hco3 := cCo_grow (nf := [256 + (np + 1)]) (nm := []) (t := m3) (np2 := np + 2) (nv2 := nv + 3) (H2 := fun v => H v ∨ v = nv) s3.1.1 s2co ⟨Nat.le_refl _, by omega⟩ ⟨by omega, by omega⟩ (fun j _ => by rw [r3]) (fun j z1 z2 => by omega) v4 ncl (fun c hc => by cases hc) (fun v _ => Iff.rfl) hHb (fun q1 q2 q3 q4 => cJS_G3 (h0 := nv) s3.1.1 (by have := s3.1.1; omega) ⟨by omega, by omega⟩ vcz (fun th hs _ x9 t9 => Or.inl ⟨256 + np, ⟨dcx, tLR_of ⟨dcx, Or.inr (Or.inr (Or.inr (Or.inr (Or.inl List.mem_cons_self))))⟩, nv, nv + 1, vcx2, t9⟩, (hs _ dcx).2.2 _ _ vcx2⟩) q1 q2 q3 q4)
      simp only [List.nil_append, List.cons_append] at hco3
      refine fin _ (by simp) (by unfold cCn at hcn; simp; omega) hco3 List.mem_cons_self (hLk_up hlk hup (fun c hc => ?_) (fun p hp => by rw [hbq.1]; exact hbL p hp) hbq.2.2 (fun c hc => ?_) (fun c hc d hd n1 n2 e => ?_) (fun c hc => Or.inl hc) (fun c hc => List.mem_cons_of_mem _ (List.mem_cons_of_mem _ hc)) (fun _ => ⟨_, List.mem_cons_self, by rw [hbq.1]; exact vcz⟩)) (fun th n W rs _ _ hr => ?_)
      · rcases hsubn c hc with z | z | z | z | z
        · exact Or.inl z
        · exact Or.inr (Or.inl z)
        · exact Or.inr (Or.inr (Or.inl z))
        · exact Or.inr (Or.inr (Or.inr (Or.inl (List.mem_cons_of_mem _ (List.mem_cons_of_mem _ z)))))
        · exact Or.inr (Or.inr (Or.inr (Or.inr z)))
      · rw [hbq.1]
        rcases List.mem_cons.mp hc with rfl | hc
        · exact Or.inr ⟨_, vcz, Or.inl ⟨hbq.2.1, Or.inr rfl⟩⟩
        · rcases List.mem_cons.mp hc with rfl | hc
          · exact Or.inr ⟨_, vcx3, Or.inl ⟨hbq.2.1, Or.inl rfl⟩⟩
          · exact Or.inl hc
      · have two : ∀ {c}, c ∈ (256 + (np + 1)) :: (256 + np) :: fs → c ∉ fs → c = 256 + (np + 1) ∨ c = 256 + np := fun {c} h1 h2 => by
          rcases List.mem_cons.mp h1 with z | z
          · exact Or.inl z
          · rcases List.mem_cons.mp z with z | z
            · exact Or.inr z
            · exact absurd z h2
        rcases two hc n1 with rfl | rfl
        · rcases two hd n2 with rfl | rfl
          · rfl
          · rw [vcz, vcx3] at e
            simp only [Option.some.injEq, Sum.inr.injEq, Prod.mk.injEq] at e
            omega
        · rcases two hd n2 with rfl | rfl
          · rw [vcz, vcx3] at e
            simp only [Option.some.injEq, Sum.inr.injEq, Prod.mk.injEq] at e
            omega
          · rfl
      obtain ⟨rk3, hok3⟩ := hco3.2.1.2.2.2.2.2.2.1
      have o1 : ∀ j, nv ≤ j → j < nv + 3 → cV m3 (b + 1) (b + 218 + 1) 64 j = none := fun j z1 z2 => by rw [ag3 j (Or.inl (by omega)), V2e j (ino j z1 z2)]; exact nvo j z1 z2
      have := uRun_three (S := S2) hok3 (vCl_ag (fun q hq => ag3 q (hS2D q hq)) hS2) vcz (o1 nv (by omega) (by omega)) (o1 (nv + 2) (by omega) (by omega)) (Or.inl hz9) (Or.inr (Or.inr (Or.inl rfl))) (fun q => by
        rcases q with q | q | q | q
        · have := cFr_code hf hsc.1.1 q; omega
        · omega
        · omega
        · omega) (fun q => by
        rcases q with q | q | q | q
        · have := cFr_code hf hsc.1.1 q; omega
        · omega
        · omega
        · omega) hr
      omega
    · -- the first pair is needed no more
      have hco2 := cCo_drop s3.1.1 s2co hcl ⟨nv, vcx2⟩ ncx
      have nvn : cV m (b + 1) (b + 218 + 1) 64 nv = none := cV_opn (by omega) (F7n nv (Nat.le_refl _) (by omega))
      have hx2 : arg C m2 (b + 1) (nv + 3) (fun v => H v ∨ v = nv) x fx := arg_move hsc F3b (by omega) (fun v z1 z2 => (hHi v z1).mp z2) hx
      have hxD : cDm (nv + 3) C.tp fs ms x := hsubn x hx9
      have hw1 : ∀ th, vSol (cV m2 (b + 1) (b + 218 + 1) 64) (cDm (nv + 3) C.tp fs ms) th → nOK (cDm (nv + 3) C.tp fs ms) th → ∀ x9, tg (cV m2 (b + 1) (b + 218 + 1) 64) nv x9 → xv (cV m2 (b + 1) (b + 218 + 1) 64) (cDm (nv + 3) C.tp fs ms) (tLR (cV m2 (b + 1) (b + 218 + 1) 64) (cDm (nv + 3) C.tp fs ms) (fun v => H v ∨ v = nv) (cRt C.tp C.p fs ms) th) (cAb (cV m2 (b + 1) (b + 218 + 1) 64) fs) th (cV m2 (b + 1) (b + 218 + 1) 64) x9 (nd (th nv) (th (nv + 1))) := fun th hs hn x9 t9 => by
        obtain ⟨rk2, hok2⟩ := hco2.2.1.2.2.2.2.2.2.1
        rcases new_head ⟨rk1, hok1⟩ s2co.2.1.2.2.2.2.2.2.1 vcx nvn hrun with ⟨i, ⟨n1, ti⟩, wi⟩ | ⟨c0, ⟨n1, t0⟩, hc0⟩
        · exact absurd ((hcl i (tgCl hS0 hxD ti)).1 _ wi) ncx
        · have dc0 := tgCl hS0 hxD t0
          rcases hc0 with rfl | ⟨a9, b9, e0, y9, ta, tn⟩
          · exact absurd dc0 ncx
          · have w0 := xv_pr vx2 e0
            have tw : tg (cV m2 (b + 1) (b + 218 + 1) 64) x c0 := tgUp vx2 t0 (tg_self (fun e he => by rw [w0] at he; cases he))
            have hxA := cAr_LR hco2.2.1 (arg_Ar hx2 (by omega) (arg_H hx2 hco2.2.1.2.2.2.1 hco2.2.1.1.2)) hs
            have lr0 := (tg_ty hok2 (hco2.2.2.2 th hs hn).1 hxD tw).1 hxA.1
            obtain ⟨n2, tw2⟩ := tw
            have hth := tgTh hok2 hs hxD tw2
            have hK := (hco2.2.2.1 th).mpr ⟨th, hs, fun _ _ => rfl⟩
            have hd := arg_dnt hx2 ⟨by omega, by omega⟩ th hs th (fun _ _ => rfl)
            refine Or.inl ⟨c0, ⟨dc0, lr0, a9, b9, w0, (tg_uniq tn t9) ▸ ta⟩, ?_⟩
            rw [← hth, hd]
            exact hK.2
      have hco3 := cCo_grow (nf := [256 + (np + 1)]) (nm := []) (t := m3) (np2 := np + 2) (nv2 := nv + 3) (H2 := fun v => H v ∨ v = nv) s3.1.1 hco2 ⟨Nat.le_refl _, by omega⟩ ⟨by omega, by omega⟩ (fun j _ => by rw [r3]) (fun j z1 z2 => by omega) v4 ncl (fun c hc => by cases hc) (fun v _ => Iff.rfl) hHb (fun q1 q2 q3 q4 => cJS_G3 (h0 := nv) s3.1.1 (by have := s3.1.1; omega) ⟨by omega, by omega⟩ vcz hw1 q1 q2 q3 q4)
      simp only [List.nil_append, List.cons_append] at hco3
      refine fin _ (by simp) (by unfold cCn at hcn; simp; omega) hco3 List.mem_cons_self (hLk_up hlk hup (fun c hc => ?_) (fun p hp => by rw [hbq.1]; exact hbL p hp) hbq.2.2 (fun c hc => ?_) (fun c hc d hd n1 n2 e => ?_) (fun c hc => Or.inl hc) (fun c hc => List.mem_cons_of_mem _ hc) (fun _ => ⟨_, List.mem_cons_self, by rw [hbq.1]; exact vcz⟩)) (fun th n W rs q1 q2 hr => ?_)
      · rcases hsubn c hc with z | z | z | z | z
        · exact Or.inl z
        · exact Or.inr (Or.inl z)
        · exact Or.inr (Or.inr (Or.inl z))
        · exact Or.inr (Or.inr (Or.inr (Or.inl (List.mem_cons_of_mem _ z))))
        · exact Or.inr (Or.inr (Or.inr (Or.inr z)))
      · rw [hbq.1]
        rcases List.mem_cons.mp hc with rfl | hc
        · exact Or.inr ⟨_, vcz, Or.inl ⟨hbq.2.1, Or.inr rfl⟩⟩
        · exact Or.inl hc
      · have one : ∀ {c}, c ∈ (256 + (np + 1)) :: fs → c ∉ fs → c = 256 + (np + 1) := fun {c} h1 h2 => by
          rcases List.mem_cons.mp h1 with z | z
          · exact z
          · exact absurd z h2
        rw [one hc n1, one hd n2]
      have hz3 : arg C m3 (b + 1) (nv + 3) (fun v => H v ∨ v = nv) z fz := arg_move hsc F3d (by omega) (fun v z1 z2 => (hHi v z1).mp z2) hz
      exact cFr_few hco3.2.1 (by have := hsc.1.1; omega) (by simpa using hcn) (arg_H hz3 hco3.2.1.2.2.2.1 hco3.2.1.1.2) (nH _ (by omega)) q1 q2 hr
  · refine ⟨0, rfl, fun _ => ⟨0, rfl, np + 1, ⟨by omega, by omega⟩, F1.trans (frU.K b5 (by omega) u1), F3b, ?_, ⟨l2, hl2, by omega⟩, Or.inr ⟨rfl, sax_uni s1⟩⟩, fun q => absurd rfl q⟩
    exact cSc_same hscm (scSame.of (u1 _ (by omega) (by omega)) (u1 _ (by omega) (by omega)) (u1 _ (by omega) (by omega))) (by rw [u1 _ (by omega) (by omega)]; exact F2) (by rw [u1 _ (by omega) (by omega)]; exact g3) ⟨Nat.le_refl _, by omega⟩ ⟨Nat.le_refl _, by omega⟩
