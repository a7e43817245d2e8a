/-! THE CLASS: "A" and "M" are done -/
/-- what a step leaves outside the search -/
def frS (b : Nat) (sg t : rSg) : Prop := (∀ q, (q = 0 ∨ 5 < q) → q < b ∨ b + 223 < q → t q = sg q) ∧ (∀ j, j ≠ 8 → j ≠ 11 → t b j = sg b j) ∧ ∀ j, 5 ≤ j → t (b + 1) j = sg (b + 1) j
theorem frS.trans {b : Nat} {a c d : rSg} (h1 : frS b a c) (h2 : frS b c d) : frS b a d := ⟨fun q g1 g2 => (h2.1 q g1 g2).trans (h1.1 q g1 g2), fun j g1 g2 => (h2.2.1 j g1 g2).trans (h1.2.1 j g1 g2), fun j hj => (h2.2.2 j hj).trans (h1.2.2 j hj)⟩
theorem frS.rfl' {b : Nat} {a : rSg} : frS b a a := ⟨fun _ _ _ => rfl, fun _ _ _ => rfl, fun _ _ => rfl⟩
theorem fr5.S {b k : Nat} (hb : 5 < b) (hk : k = b + 218 ∨ k = b + 221) {sg t : rSg} (h : fr5 b k sg t) : frS b sg t := ⟨fun q g1 g2 => h.1 q g1 (by omega) (by omega) (by omega) (by omega), h.2, fun j _ => by rw [h.1 (b + 1) (by omega) (by omega) (by omega) (by omega) (by omega)]⟩
theorem fr4.S {b : Nat} {sg t : rSg} (h : fr4 b sg t) : frS b sg t := ⟨fun q g1 g2 => h.1 q (by omega) (by omega), h.2, fun j _ => by rw [h.1 (b + 1) (by omega) (by omega)]⟩
theorem frK.S {b k : Nat} (hb : 5 < b) (hk : k = b + 218 ∨ k = b + 221) {sg t : rSg} (h : frK b k sg t) : frS b sg t := ⟨fun q g1 g2 => h.1 q g1 (by omega) (by omega), fun j _ _ => by rw [h.1 b (by omega) (by omega) (by omega)], h.2⟩
/-- all that stands between the parts of a step -/
def cPS (C : Cf) (sg : rSg) (b np gl : Nat) (Q : Qx) (l : Nat) : Prop := cSc C sg (b + 1) np gl ∧ cQ C sg b np gl Q ∧ ∃ l2, cSn sg l2 ∧ l2 ≤ l
theorem cPS_K {C : Cf} (hC : cfOK C) {b k : Nat} (hb : 5 < b) (hk : k = b + 218 ∨ k = b + 221) {sg t : rSg} {np gl np2 gl2 : Nat} {Q : Qx} (hsc : cSc C sg (b + 1) np gl) (hq : cQ C sg b np gl Q) (hn : np ≤ np2 ∧ np2 ≤ 640) (hg : gl ≤ gl2) (h : frK b k sg t) (hss : scSame np gl (b + 1) (b + 1) sg t) : cQ C t b np2 gl2 Q :=
  cQ_frame hC hsc hq hn hg hss (fun j _ _ => by rw [h.1 b (by omega) (by omega) (by omega)]) (fun q g1 g2 => h.1 q (by omega) (by omega) (by omega))
/-- the state at hand while the other one goes behind the queue -/
theorem so_keep {C : Cf} (hC : cfOK C) {b : Nat} (hb : 5 < b) {sg t : rSg} {np gl : Nat} (hsc : cSc C sg (b + 1) np gl) {X : Sx} {fs ms : List Nat} {H : Nat → Prop} {gs : List Nat} (h : cSo C sg (b + 1) (b + 218) np gl X fs ms H gs) (hfr : ∀ q, (b + 1 ≤ q ∧ q ≤ b + 4) ∨ (b + 218 ≤ q ∧ q ≤ b + 220) → t q = sg q) : cSo C t (b + 1) (b + 218) np gl X fs ms H gs ∧ cSc C t (b + 1) np gl := by
  have hss : scSame np gl (b + 1) (b + 1) sg t := scSame.of (hfr _ (by omega)) (hfr _ (by omega)) (hfr _ (by omega))
  exact ⟨cSo_move hC hsc h ⟨Nat.le_refl _, hsc.1.2.1⟩ (Nat.le_refl _) hss (by rw [hfr _ (by omega)]) (by rw [hfr _ (by omega)]) (by rw [hfr _ (by omega)]) (fun j _ => by rw [hfr _ (by omega)]) (fun j _ => by rw [hfr _ (by omega)]), cSc_same hsc hss (by rw [hfr _ (by omega)]; exact hsc.2.1) (by rw [hfr _ (by omega)]; exact hsc.2.2.1) ⟨Nat.le_refl _, hsc.1.2.1⟩ ⟨Nat.le_refl _, hsc.1.2.2.2⟩⟩
theorem tri_no {tb : Tb} {q : Qx} {td : List It} {ks : List Nat} {nv : Nat} {K : Kx} (h : ¬ sax K) : tri tb q (td, ks, nv, K) q := Or.inl ⟨fun z => h z.1, rfl⟩
theorem ce_doA {C : Cf} (hC : cfOK C) {b : Nat} (hb : isSeaA rSkel b) {sg : rSg} {np gl l : Nat} (hps : cSc C sg (b + 1) np gl) {Q : Qx} (hq : cQ C sg b np gl Q) (hl : cSn sg l) (hl0 : l + 20000 < 2 ^ 32) (hnp : np + 2 ≤ 640) (hgl : gl + 1 ≤ 326) {td : List It} {ks : List Nat} {nv : Nat} {K : Kx} {fs ms : List Nat} {H : Nat → Prop} {gs : List Nat} (h : cSo C sg (b + 1) (b + 218) np gl (td, ks, nv, K) fs ms H gs) (hv : nv ≤ 60) (hA : C.hA) (hw : sumI (iw C) td + 1 ≤ 26) {i x y z : Nat} (hi : i < gl) (pz : sg (b + 1 + 2) (3 * i + 2) = nI z) {fx fy fz : Tf} (hx : arg C sg (b + 1) nv H x fx) (hy : cTd C.tp y ∧ tdn sg (b + 1) C.tp y fy ∧ rtc C y) (hz : arg C sg (b + 1) nv H z fz)
    (hL : hA3 C td nv K fx fy fz (cV sg (b + 1) (b + 218 + 1) 64) fs ms)
    {P : Option rv → rSg → Prop} (hP : ∀ t Q2 np2 gl2, doA C.tb Q td ks nv K fx fy fz Q2 → (np ≤ np2 ∧ np2 ≤ np + 2) → (gl ≤ gl2 ∧ gl2 ≤ gl + 1) → cPS C t b np2 gl2 Q2 (l + 4420) → frS b sg t → P none t) :
    EvS rSkel 1 53 [.inr (.inr (some (b + 221))), .inr (.inr (some (b + 218)))] sg (fun v40 t41 => v40 = none ∧
      EvS rSkel 1 28 [.inr (.inr (some (b + 1))), .inl (nI i), .inl 2] t41 (fun v43 t44 => ∃ n46, v43 = some (.inl n46) ∧
        EvS rSkel 5 43 [.inr (.inr (some b)), .inl (nI x), .inl (nI y), .inl n46] t44 (fun v47 t48 => ∃ n50, v47 = some (.inl n50) ∧
          (n50 = 0 → EvS rSkel 1 28 [.inr (.inr (some (b + 1))), .inl (nI i), .inl 2] t48 (fun v52 t53 => ∃ n55, v52 = some (.inl n55) ∧
              EvS rSkel 5 44 [.inr (.inr (some b)), .inl (nI x), .inl (nI y), .inl n55] t53 (fun v56 t57 => ∃ n59, v56 = some (.inl n59) ∧ (n59 = 0 → P none t57) ∧ (¬ (n59 = 0) → EvS rSkel 5 42 [.inr (.inr (some b)), .inr (.inr (some (b + 218)))] t57 (fun v61 t62 => v61 = none ∧ P none t62))))) ∧
          (¬ (n50 = 0) → EvS rSkel 5 42 [.inr (.inr (some b)), .inr (.inr (some (b + 221)))] t48 (fun v64 t65 => v64 = none ∧
              EvS rSkel 1 28 [.inr (.inr (some (b + 1))), .inl (nI i), .inl 2] t65 (fun v67 t68 => ∃ n70, v67 = some (.inl n70) ∧
                EvS rSkel 5 44 [.inr (.inr (some b)), .inl (nI x), .inl (nI y), .inl n70] t68 (fun v71 t72 => ∃ n74, v71 = some (.inl n74) ∧ (n74 = 0 → P none t72) ∧ (¬ (n74 = 0) → EvS rSkel 5 42 [.inr (.inr (some b)), .inr (.inr (some (b + 218)))] t72 (fun v76 t77 => v76 = none ∧ P none t77))))))))) := by
  have b5 : 5 < b := hb.1.1
  have hsr : isScr (b + 1) := hb.1.2.2.2.2.2.1
  have hst : isSt (b + 218) := hb.1.2.2.2.2.2.2.1
  have hbr : isSt (b + 221) := hb.1.2.2.2.2.2.2.2
  have hnv : 6 ≤ nv ∧ nv ≤ 63 := h.2.2.2.2.2.1.2.1.1
  obtain ⟨L, bq, hlk, hbL, hho0, hct0, hbq, hho, hct⟩ := hL
  -- from the other state on
  have rest : ∀ {t : rSg} {Q1 : Qx} {l1 : Nat}, (∀ q, (b + 1 ≤ q ∧ q ≤ b + 4) ∨ (b + 218 ≤ q ∧ q ≤ b + 220) → t q = sg q) → cQ C t b np gl Q1 → tri C.tb Q (td, ks, nv, uni (uni K fx (atm 10)) fy fz) Q1 → frS b sg t → cSn t l1 → l1 ≤ l + 2210 → EvS rSkel 1 28 [.inr (.inr (some (b + 1))), .inl (nI i), .inl 2] t (fun v52 t53 => ∃ n55, v52 = some (.inl n55) ∧
              EvS rSkel 5 44 [.inr (.inr (some b)), .inl (nI x), .inl (nI y), .inl n55] t53 (fun v56 t57 => ∃ n59, v56 = some (.inl n59) ∧ (n59 = 0 → P none t57) ∧ (¬ (n59 = 0) → EvS rSkel 5 42 [.inr (.inr (some b)), .inr (.inr (some (b + 218)))] t57 (fun v61 t62 => v61 = none ∧ P none t62)))) := by
    intro t Q1 l1 hfr hq1 htri hS hl1 hl2
    obtain ⟨k1, k2⟩ := so_keep hC b5 hps h hfr
    have hss : scSame np gl (b + 1) (b + 1) sg t := scSame.of (hfr _ (by omega)) (hfr _ (by omega)) (hfr _ (by omega))
    refine (ce_28 hsr (g := i) (j := 2) (by omega) (by decide) t).imp ?_
    rintro _ t2 ⟨rfl, rfl⟩
    rw [show t2 (b + 1 + 2) (3 * i + 2) = nI z by rw [hfr (b + 1 + 2) (by omega)]; exact pz]
    have mv : ∀ {a f}, arg C sg (b + 1) nv H a f → arg C t2 (b + 1) nv H a f := fun q => arg_move hps hss (Nat.le_refl _) (fun _ _ z => z) q
    have hy2 : tdn t2 (b + 1) C.tp y fy := tdn_same hps.2.2.2.1 (fun j hj => hss.1 j (by have := hps.1; omega)) (by have := hps.1; omega) hy.2.1
    refine ⟨_, rfl, (ce_44 hC hb k2 hnp hgl k1 hv hA hw hl1 (by omega) (mv hx) ⟨hy.1, hy2, hy.2.2⟩ (mv hz) rfl (hLk_move (X := (td, ks, nv, K)) hps h hss (fun j _ => by rw [hfr _ (by omega)]) hlk) hbq hbL hho hct).imp ?_⟩
    rintro _ u ⟨n, rfl, np2, hn2, fk, ss, sc, ⟨l3, hl3, hl4⟩, hout⟩
    have hq2 : cQ C u b np2 (gl + 1) Q1 := cPS_K hC b5 (Or.inl rfl) k2 hq1 ⟨hn2.1, by omega⟩ (by omega) fk ss
    have hS2 : frS b sg u := hS.trans (fk.S b5 (Or.inl rfl))
    rcases hout with ⟨n0, s1, s2⟩ | ⟨n0, s1⟩
    · refine ⟨n, rfl, fun q => absurd q n0, fun _ => (ce_42 hC hb (Or.inl rfl) sc hq2 s2 s1 hl3 (by omega)).imp ?_⟩
      rintro _ w ⟨rfl, Q2, w1, w2, w3, l5, w4, w5⟩
      refine ⟨rfl, hP w Q2 np2 (gl + 1) ⟨Q1, htri, w1⟩ hn2 ⟨by omega, by omega⟩ ⟨?_, w2, l5, w4, by omega⟩ (hS2.trans (w3.S b5 (Or.inl rfl)))⟩
      exact cSc_same sc (scSame.of (w3.1 _ (by omega) (by omega) (by omega) (by omega) (by omega)) (w3.1 _ (by omega) (by omega) (by omega) (by omega) (by omega)) (w3.1 _ (by omega) (by omega) (by omega) (by omega) (by omega))) (by rw [w3.1 _ (by omega) (by omega) (by omega) (by omega) (by omega)]; exact sc.2.1) (by rw [w3.1 _ (by omega) (by omega) (by omega) (by omega) (by omega)]; exact sc.2.2.1) ⟨Nat.le_refl _, sc.1.2.1⟩ ⟨Nat.le_refl _, sc.1.2.2.2⟩
    · exact ⟨n, rfl, fun _ => hP u Q1 np2 (gl + 1) ⟨Q1, htri, tri_no s1⟩ hn2 ⟨by omega, by omega⟩ ⟨sc, hq2, l3, hl3, by omega⟩ hS2, fun q => absurd n0 q⟩
  refine (so_copy hC hbr hst (by omega) (by omega) hps h).imp ?_
  rintro _ t1 ⟨rfl, a1, a2, a3, a4⟩
  have hss1 : scSame np gl (b + 1) (b + 1) sg t1 := scSame.of (a1 _ (by omega) (by omega) (by omega)) (a1 _ (by omega) (by omega) (by omega)) (a1 _ (by omega) (by omega) (by omega))
  have hq1 : cQ C t1 b np gl Q := cQ_frame hC hps hq ⟨Nat.le_refl _, hps.1.2.1⟩ (Nat.le_refl _) hss1 (fun j _ _ => by rw [a1 b (by omega) (by omega) (by omega)]) (fun q g1 g2 => a1 q (by omega) (by omega) (by omega))
  have hl1 : cSn t1 l := ⟨by rw [a1 1 (by omega) (by omega) (by omega)]; exact hl.1, fun j hj => by rw [a1 5 (by omega) (by omega) (by omega)]; exact hl.2 j hj⟩
  refine ⟨rfl, (ce_28 hsr (g := i) (j := 2) (by omega) (by decide) t1).imp ?_⟩
  rintro _ t2 ⟨rfl, rfl⟩
  rw [show t2 (b + 1 + 2) (3 * i + 2) = nI z by rw [a1 (b + 1 + 2) (by omega) (by omega) (by omega)]; exact pz]
  have mv : ∀ {a f}, arg C sg (b + 1) nv H a f → arg C t2 (b + 1) nv H a f := fun q => arg_move hps hss1 (Nat.le_refl _) (fun _ _ z => z) q
  refine ⟨_, rfl, (ce_43 hC hb a3 a2 hv hl1 (by omega) (mv hx) (mv (Or.inl hy)) (mv hz)).imp ?_⟩
  rintro _ t3 ⟨n, rfl, c1, ⟨l3, hl3, hl4⟩, hout⟩
  have hss3 : scSame np gl (b + 1) (b + 1) t2 t3 := scSame.of (c1 _ (by omega) (by omega)) (c1 _ (by omega) (by omega)) (c1 _ (by omega) (by omega))
  have hq3 : cQ C t3 b np gl Q := cQ_frame hC a3 hq1 ⟨Nat.le_refl _, hps.1.2.1⟩ (Nat.le_refl _) hss3 (fun j _ _ => by rw [c1 b (by omega) (by omega)]) (fun q g1 g2 => c1 q (by omega) (by omega))
  have fr3 : ∀ q, (b + 1 ≤ q ∧ q ≤ b + 4) ∨ (b + 218 ≤ q ∧ q ≤ b + 220) → t3 q = sg q := fun q hh => by rw [c1 q (by omega) (by omega), a1 q (by omega) (by omega) (by omega)]
  have fS3 : frS b sg t3 := ⟨fun q g1 g2 => by rw [c1 q g1 (by omega), a1 q (by omega) (by omega) (by omega)], fun j _ _ => by rw [c1 b (by omega) (by omega), a1 b (by omega) (by omega) (by omega)], fun j _ => by rw [c1 (b + 1) (by omega) (by omega), a1 (b + 1) (by omega) (by omega) (by omega)]⟩
  rcases hout with ⟨n0, s1, s2, s3, k9⟩ | ⟨n0, s1⟩
  · refine ⟨n, rfl, fun q => absurd q n0, fun _ => (ce_42 hC hb (Or.inr rfl) s3 hq3 (s2.st ⟨L, hho0, hct0, k9 _ (a4 _ hlk)⟩) s1 hl3 (by omega)).imp ?_⟩
    rintro _ w ⟨rfl, Q1, w1, w2, w3, l5, w4, w5⟩
    exact ⟨rfl, rest (fun q hh => by rw [w3.1 q (by omega) (by omega) (by omega) (by omega) (by omega)]; exact fr3 q hh) w2 w1 (fS3.trans (w3.S b5 (Or.inr rfl))) w4 (by omega)⟩
  · exact ⟨n, rfl, fun _ => rest fr3 hq3 (tri_no s1) fS3 hl3 (by omega), fun q => absurd n0 q⟩
theorem ce_doM {C : Cf} (hC : cfOK C) {b : Nat} (hb : isSeaA rSkel b) {sg : rSg} {np gl l : Nat} (hps : cSc C sg (b + 1) np gl) {Q : Qx} (hq : cQ C sg b np gl Q) (hl : cSn sg l) (hl0 : l + 20000 < 2 ^ 32) (hnp : np + 2 ≤ 640) (hgl : gl + 1 ≤ 326) {td : List It} {ks : List Nat} {nv : Nat} {K : Kx} {fs ms : List Nat} {H : Nat → Prop} {gs : List Nat} (h : cSo C sg (b + 1) (b + 218) np gl (td, ks, nv, K) fs ms H gs) (hv : nv ≤ 60) (hm : ms.length + 1 + sumI (imm C) td ≤ C.mu) (hw : sumI (iw C) td + 1 ≤ 26) {x y : Nat} {fx fy : Tf} (hx : cTd C.tp x ∧ tdn sg (b + 1) C.tp x fx) (hmx : mPt C x) (hy : arg C sg (b + 1) nv H y fy)
    (hL : hM3 C td nv K fx fy (cV sg (b + 1) (b + 218 + 1) 64) fs ms)
    {P : Option rv → rSg → Prop} (hP : ∀ t Q2 np2 gl2, doM C.tb Q td ks nv K fx fy Q2 → (np ≤ np2 ∧ np2 ≤ np + 2) → (gl ≤ gl2 ∧ gl2 ≤ gl + 1) → cPS C t b np2 gl2 Q2 (l + 4420) → frS b sg t → P none t) :
    EvS rSkel 1 53 [.inr (.inr (some (b + 221))), .inr (.inr (some (b + 218)))] sg (fun v40 t41 => v40 = none ∧
      EvS rSkel 5 46 [.inr (.inr (some b)), .inl (nI x), .inl (nI y)] t41 (fun v47 t48 => ∃ n50, v47 = some (.inl n50) ∧
          (n50 = 0 → EvS rSkel 5 47 [.inr (.inr (some b)), .inl (nI x), .inl (nI y)] t48 (fun v56 t57 => ∃ n59, v56 = some (.inl n59) ∧ (n59 = 0 → P none t57) ∧ (¬ (n59 = 0) → EvS rSkel 5 42 [.inr (.inr (some b)), .inr (.inr (some (b + 218)))] t57 (fun v61 t62 => v61 = none ∧ P none t62)))) ∧
          (¬ (n50 = 0) → EvS rSkel 5 42 [.inr (.inr (some b)), .inr (.inr (some (b + 221)))] t48 (fun v64 t65 => v64 = none ∧
                EvS rSkel 5 47 [.inr (.inr (some b)), .inl (nI x), .inl (nI y)] t65 (fun v71 t72 => ∃ n74, v71 = some (.inl n74) ∧ (n74 = 0 → P none t72) ∧ (¬ (n74 = 0) → EvS rSkel 5 42 [.inr (.inr (some b)), .inr (.inr (some (b + 218)))] t72 (fun v76 t77 => v76 = none ∧ P none t77))))))) := by
  have b5 : 5 < b := hb.1.1
  have hsr : isScr (b + 1) := hb.1.2.2.2.2.2.1
  have hst : isSt (b + 218) := hb.1.2.2.2.2.2.2.1
  have hbr : isSt (b + 221) := hb.1.2.2.2.2.2.2.2
  have hnv : 6 ≤ nv ∧ nv ≤ 63 := h.2.2.2.2.2.1.2.1.1
  obtain ⟨L, b2, b1, hlk, hbL, ⟨hb2, hfx, hho2, hct2⟩, hb1, hho1, hct1⟩ := hL
  have rest : ∀ {t : rSg} {Q1 : Qx} {l1 : Nat}, scSame np gl (b + 1) (b + 1) sg t → cSc C t (b + 1) (np + 1) gl → (∀ q, b + 218 ≤ q → q ≤ b + 220 → t q = sg q) → cQ C t b (np + 1) gl Q1 → tri C.tb Q (td, ks, nv + 1, uni K fy (prf fx (vr nv))) Q1 → frS b sg t → cSn t l1 → l1 ≤ l + 2210 → EvS rSkel 5 47 [.inr (.inr (some b)), .inl (nI x), .inl (nI y)] t (fun v56 t57 => ∃ n59, v56 = some (.inl n59) ∧ (n59 = 0 → P none t57) ∧ (¬ (n59 = 0) → EvS rSkel 5 42 [.inr (.inr (some b)), .inr (.inr (some (b + 218)))] t57 (fun v61 t62 => v61 = none ∧ P none t62))) := by
    intro t Q1 l1 hss k2 hfr hq1 htri hS hl1 hl2
    have k1 : cSo C t (b + 1) (b + 218) (np + 1) gl (td, ks, nv, K) fs ms H gs := cSo_move hC hps h ⟨by omega, by omega⟩ (Nat.le_refl _) hss (by rw [hfr _ (by omega) (by omega)]) (by rw [hfr _ (by omega) (by omega)]) (by rw [hfr _ (by omega) (by omega)]) (fun j _ => by rw [hfr _ (by omega) (by omega)]) (fun j _ => by rw [hfr _ (by omega) (by omega)])
    have mv : ∀ {a f}, arg C sg (b + 1) nv H a f → arg C t (b + 1) nv H a f := fun q => arg_move hps hss (Nat.le_refl _) (fun _ _ z => z) q
    have hx2 : tdn t (b + 1) C.tp x fx := tdn_same hps.2.2.2.1 (fun j hj => hss.1 j (by have := hps.1; omega)) (by have := hps.1; omega) hx.2
    refine (ce_47 hC hb k2 (by omega) hgl k1 hv hm hw hl1 (by omega) ⟨hx.1, hx2⟩ hmx (mv hy) rfl (hLk_move (X := (td, ks, nv, K)) hps h hss (fun j _ => by rw [hfr _ (by omega) (by omega)]) hlk) hb1 hbL hho1 hct1).imp ?_
    rintro _ u ⟨n, rfl, fk, ss, sc, ⟨l3, hl3, hl4⟩, hout⟩
    have hq2 : cQ C u b (np + 1 + 1) (gl + 1) Q1 := cPS_K hC b5 (Or.inl rfl) k2 hq1 ⟨by omega, by omega⟩ (by omega) fk ss
    have hS2 : frS b sg u := hS.trans (fk.S b5 (Or.inl rfl))
    rcases hout with ⟨n0, s1, s2⟩ | ⟨n0, s1⟩
    · refine ⟨n, rfl, fun q => absurd q n0, fun _ => (ce_42 hC hb (Or.inl rfl) sc hq2 s2 s1 hl3 (by omega)).imp ?_⟩
      rintro _ w ⟨rfl, Q2, w1, w2, w3, l5, w4, w5⟩
      refine ⟨rfl, hP w Q2 (np + 2) (gl + 1) ⟨Q1, htri, w1⟩ ⟨by omega, by omega⟩ ⟨by omega, by omega⟩ ⟨?_, w2, l5, w4, by omega⟩ (hS2.trans (w3.S b5 (Or.inl rfl)))⟩
      exact cSc_same sc (scSame.of (w3.1 _ (by omega) (by omega) (by omega) (by omega) (by omega)) (w3.1 _ (by omega) (by omega) (by omega) (by omega) (by omega)) (w3.1 _ (by omega) (by omega) (by omega) (by omega) (by omega))) (by rw [w3.1 _ (by omega) (by omega) (by omega) (by omega) (by omega)]; exact sc.2.1) (by rw [w3.1 _ (by omega) (by omega) (by omega) (by omega) (by omega)]; exact sc.2.2.1) ⟨Nat.le_refl _, sc.1.2.1⟩ ⟨Nat.le_refl _, sc.1.2.2.2⟩
    · exact ⟨n, rfl, fun _ => hP u Q1 (np + 2) (gl + 1) ⟨Q1, htri, tri_no s1⟩ ⟨by omega, by omega⟩ ⟨by omega, by omega⟩ ⟨sc, hq2, l3, hl3, by omega⟩ hS2, fun q => absurd n0 q⟩
  refine (so_copy hC hbr hst (by omega) (by omega) hps h).imp ?_
  rintro _ t1 ⟨rfl, a1, a2, a3, a4⟩
  have hss1 : scSame np gl (b + 1) (b + 1) sg t1 := scSame.of (a1 _ (by omega) (by omega) (by omega)) (a1 _ (by omega) (by omega) (by omega)) (a1 _ (by omega) (by omega) (by omega))
  have hq1 : cQ C t1 b np gl Q := cQ_frame hC hps hq ⟨Nat.le_refl _, hps.1.2.1⟩ (Nat.le_refl _) hss1 (fun j _ _ => by rw [a1 b (by omega) (by omega) (by omega)]) (fun q g1 g2 => a1 q (by omega) (by omega) (by omega))
  have hl1 : cSn t1 l := ⟨by rw [a1 1 (by omega) (by omega) (by omega)]; exact hl.1, fun j hj => by rw [a1 5 (by omega) (by omega) (by omega)]; exact hl.2 j hj⟩
  have mv : ∀ {a f}, arg C sg (b + 1) nv H a f → arg C t1 (b + 1) nv H a f := fun q => arg_move hps hss1 (Nat.le_refl _) (fun _ _ z => z) q
  have hx2 : tdn t1 (b + 1) C.tp x fx := tdn_same hps.2.2.2.1 (fun j hj => hss1.1 j (by have := hps.1; omega)) (by have := hps.1; omega) hx.2
  refine ⟨rfl, (ce_46 hC hb a3 (by omega) a2 hv hm hl1 (by omega) ⟨hx.1, hx2⟩ hmx (mv hy) rfl (a4 _ hlk) hb2 hfx hbL hho2 hct2).imp ?_⟩
  rintro _ t3 ⟨n, rfl, c1, hss3, hsc3, ⟨l3, hl3, hl4⟩, hout⟩
  have hq3 : cQ C t3 b (np + 1) gl Q := cPS_K hC b5 (Or.inr rfl) a3 hq1 ⟨by omega, by omega⟩ (Nat.le_refl _) c1 hss3
  have fr3 : ∀ q, b + 218 ≤ q → q ≤ b + 220 → t3 q = sg q := fun q h1 h2 => by rw [c1.1 q (by omega) (by omega) (by omega), a1 q (by omega) (by omega) (by omega)]
  have fS3 : frS b sg t3 := ⟨fun q g1 g2 => by rw [c1.1 q g1 (by omega) (by omega), a1 q (by omega) (by omega) (by omega)], fun j _ _ => by rw [c1.1 b (by omega) (by omega) (by omega), a1 b (by omega) (by omega) (by omega)], fun j hj => by rw [c1.2 j hj, a1 (b + 1) (by omega) (by omega) (by omega)]⟩
  have hss9 := hss1.trans hss3
  rcases hout with ⟨n0, s1, s2⟩ | ⟨n0, s1⟩
  · refine ⟨n, rfl, fun q => absurd q n0, fun _ => (ce_42 hC hb (Or.inr rfl) hsc3 hq3 s2 s1 hl3 (by omega)).imp ?_⟩
    rintro _ w ⟨rfl, Q1, w1, w2, w3, l5, w4, w5⟩
    have hss5 : scSame (np + 1) gl (b + 1) (b + 1) t3 w := scSame.of (w3.1 _ (by omega) (by omega) (by omega) (by omega) (by omega)) (w3.1 _ (by omega) (by omega) (by omega) (by omega) (by omega)) (w3.1 _ (by omega) (by omega) (by omega) (by omega) (by omega))
    refine ⟨rfl, rest (hss9.trans ⟨fun j hj => hss5.1 j (by omega), hss5.2.1, hss5.2.2⟩) ?_ (fun q h1 h2 => by rw [w3.1 q (by omega) (by omega) (by omega) (by omega) (by omega)]; exact fr3 q h1 h2) w2 w1 (fS3.trans (w3.S b5 (Or.inr rfl))) w4 (by omega)⟩
    exact cSc_same hsc3 hss5 (by rw [w3.1 _ (by omega) (by omega) (by omega) (by omega) (by omega)]; exact hsc3.2.1) (by rw [w3.1 _ (by omega) (by omega) (by omega) (by omega) (by omega)]; exact hsc3.2.2.1) ⟨Nat.le_refl _, hsc3.1.2.1⟩ ⟨Nat.le_refl _, hsc3.1.2.2.2⟩
  · exact ⟨n, rfl, fun _ => rest hss9 hsc3 fr3 hq3 (tri_no s1) fS3 hl3 (by omega), fun q => absurd n0 q⟩
