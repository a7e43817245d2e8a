/-! THE CLASS: "A" ends -/
/-- a code that a goal has: told, or a tail of the state's own -/
def arg (C : Cf) (sg : rSg) (s nv : Nat) (H : Nat → Prop) (a : Nat) (f : Tf) : Prop := (cTd C.tp a ∧ tdn sg s C.tp a f ∧ rtc C a) ∨ ((6 ≤ a ∧ a < nv) ∧ ¬ H a ∧ f = vr a)
theorem arg_D {C : Cf} {sg : rSg} {s nv a : Nat} {H : Nat → Prop} {f : Tf} (h : arg C sg s nv H a f) (hnv : 6 ≤ nv) {fs ms : List Nat} : cDm nv C.tp fs ms a := by
  rcases h with h | h
  · exact cTd_D hnv h.1
  · exact Or.inl h.1.2
theorem arg_H {C : Cf} {sg : rSg} {s nv a : Nat} {H : Nat → Prop} {f : Tf} (h : arg C sg s nv H a f) (hH : ∀ v, H v → 6 ≤ v ∧ v < nv) (hnv : nv ≤ 63) : ¬ H a := by
  rcases h with h | h
  · intro q
    have h1 := hH a q
    have h2 := h.1
    omega
  · exact h.2.1
theorem arg_dnt {C : Cf} {sg : rSg} {s kb nv a : Nat} {H : Nat → Prop} {f : Tf} (h : arg C sg s nv H a f) (hnv : 6 ≤ nv ∧ nv ≤ 63) {fs ms : List Nat} : dnt (cV sg s kb 64) (cDm nv C.tp fs ms) a f := by
  rcases h with h | ⟨h1, _, rfl⟩
  · exact tdn_dnt hnv.1 h.2.1
  · exact vr_dnt (by omega)
theorem arg_move {C : Cf} {sg t : rSg} {s s2 nv nv2 np gl a : Nat} {H H2 : Nat → Prop} {f : Tf} (hsc : cSc C sg s np gl) (hss : scSame np gl s s2 sg t) (hnv : nv ≤ nv2) (hH : ∀ v, v < nv → H2 v → H v) (h : arg C sg s nv H a f) : arg C t s2 nv2 H2 a f := by
  rcases h with h | ⟨h1, h2, h3⟩
  · exact Or.inl ⟨h.1, tdn_same hsc.2.2.2.1 (fun j hj => hss.1 j (by have := hsc.1; omega)) (by have := hsc.1; omega) h.2.1, h.2.2⟩
  · exact Or.inr ⟨by omega, fun q => h2 (hH a h1.2 q), h3⟩
theorem arg_nil {C : Cf} {sg : rSg} {s nv : Nat} {H : Nat → Prop} : arg C sg s nv H 138 (atm 10) := Or.inl ⟨Or.inr (Or.inl ⟨by omega, by omega⟩), fun th hs r _ => (hs 138 (Or.inr (Or.inl ⟨by omega, by omega⟩))).2.1 10 (by simp [cV]), Or.inl (by omega)⟩
theorem arg_Ar {C : Cf} {sg : rSg} {s nv a : Nat} {H : Nat → Prop} {f : Tf} (h : arg C sg s nv H a f) (hnv : 6 ≤ nv) (hH : ¬ H a) {fs ms : List Nat} : cAr C.tp C.p nv fs ms H a := by
  rcases h with h | h
  · exact rtc_Ar hnv hH h.1 h.2.2
  · exact Or.inl ⟨h.1.2, h.2.1⟩
theorem frU.trans {k : Nat} {a b c : rSg} (h1 : frU k a b) (h2 : frU k b c) : frU k a c := fun q g1 g2 => (h2 q g1 g2).trans (h1 q g1 g2)
/-- unify of two that a goal has -/
theorem so_args {C : Cf} (hC : cfOK C) {sg : rSg} {s k np gl l : Nat} (hs : isScr s) (hk : isSt k) (hks : k + 2 < s ∨ s + 3 < k) (hsc : cSc C sg s np gl) {td : List It} {ks : List Nat} {nv : Nat} {K : Kx} {fs ms : List Nat} {H : Nat → Prop} {gs : List Nat} (h : cSo C sg s k np gl (td, ks, nv, K) fs ms H gs) (hv : nv ≤ 60) (hl : cSn sg l) (hl0 : l + 300 < 2 ^ 32) {a b : Nat} {f g : Tf} (ha : arg C sg s nv H a f) (hb : arg C sg s nv H b g) :
    EvS rSkel 4 65 [.inr (.inr (some 1)), .inr (.inr (some s)), .inr (.inr (some (k + 1))), .inl (nI a), .inl (nI b)] sg (fun r t => ∃ x, r = some (.inl x) ∧ frU k sg t ∧ (∃ l2, cSn t l2 ∧ l2 ≤ l + 65) ∧ ((x = 1 ∧ sax (uni K f g) ∧ cSo C t s k np gl (td, ks, nv, uni K f g) fs ms H gs ∧ cSc C t s np gl ∧ (∀ L, hLk C nv (cV sg s (k + 1) 64) fs ms L → hLk C nv (cV t s (k + 1) 64) fs ms L)) ∨ (x = 0 ∧ ¬ sax (uni K f g)))) := by
  have hf := h.2.2.2.2.2.1.2.1
  have hnv : 6 ≤ nv ∧ nv ≤ 63 := hf.1
  have hcn := (cNu_cn hC h.2.2.2.2.2.2 hv).2
  have hcn2 : cCn C.tp fs.length ms.length := cCn_mono hcn (by omega)
  have nHa : ¬ H a := arg_H ha hf.2.2.2.1 hnv.2
  have nHb : ¬ H b := arg_H hb hf.2.2.2.1 hnv.2
  refine (so_unify hC hs hk hks hsc h hl hl0 (by unfold cCn at hcn2; omega) (fun th n W rs h1 h2 hr => cFr_few hf hsc.1.1 hcn2 nHa nHb h1 h2 hr) (arg_D ha hnv.1) (arg_D hb hnv.1) nHa nHb (arg_dnt ha hnv) (arg_dnt hb hnv) (arg_Ar ha hnv.1 nHa) (arg_Ar hb hnv.1 nHb)).imp ?_
  rintro _ t ⟨x, rfl, h1, h2, h3⟩
  refine ⟨x, rfl, h1, h2, ?_⟩
  rcases h3 with ⟨q1, q2, q3, q4, q5, _⟩ | q
  · exact Or.inl ⟨q1, q2, q3, q4, q5⟩
  · exact Or.inr q
theorem sax_uni {K : Kx} {f g : Tf} (h : ¬ sax K) : ¬ sax (uni K f g) := fun ⟨r, q, _⟩ => h ⟨r, q⟩
theorem ce_43 {C : Cf} (hC : cfOK C) {b : Nat} (hb : isSeaA rSkel b) {sg : rSg} {np gl l : Nat} (hsc : cSc C sg (b + 1) np gl) {td : List It} {ks : List Nat} {nv : Nat} {K : Kx} {fs ms : List Nat} {H : Nat → Prop} {gs : List Nat} (h : cSo C sg (b + 1) (b + 221) np gl (td, ks, nv, K) fs ms H gs) (hv : nv ≤ 60) (hl : cSn sg l) (hl0 : l + 400 < 2 ^ 32) {x y z : Nat} {fx fy fz : Tf} (hx : arg C sg (b + 1) nv H x fx) (hy : arg C sg (b + 1) nv H y fy) (hz : arg C sg (b + 1) nv H z fz) :
    EvS rSkel 5 43 [.inr (.inr (some b)), .inl (nI x), .inl (nI y), .inl (nI z)] sg (fun r t => ∃ n, r = some (.inl n) ∧ frU (b + 221) sg t ∧ (∃ l2, cSn t l2 ∧ l2 ≤ l + 130) ∧ ((¬ n = 0 ∧ sax (uni (uni K fx (atm 10)) fy fz) ∧ cSo C t (b + 1) (b + 221) np gl (td, ks, nv, uni (uni K fx (atm 10)) fy fz) fs ms H gs ∧ cSc C t (b + 1) np gl ∧ (∀ L, hLk C nv (cV sg (b + 1) (b + 221 + 1) 64) fs ms L → hLk C nv (cV t (b + 1) (b + 221 + 1) 64) fs ms L)) ∨ (n = 0 ∧ ¬ sax (uni (uni K fx (atm 10)) fy fz)))) := by
  have b5 : 5 < b := hb.1.1
  have hsr : isScr (b + 1) := hb.1.2.2.2.2.2.1
  have hst : isSt (b + 221) := hb.1.2.2.2.2.2.2.2
  refine w_43 sg b hb.1 _ _ _ ((so_args hC hsr hst (by omega) hsc h hv hl (by omega) hx (arg_nil (nv := nv) (H := H))).imp ?_)
  rintro _ t ⟨n, rfl, f1, ⟨l2, g1, g2⟩, hout⟩
  rcases hout with ⟨rfl, s1, s2, s3, k1⟩ | ⟨rfl, s1⟩
  · have hss : scSame np gl (b + 1) (b + 1) sg t := scSame.of (f1 _ (by omega) (by omega)) (f1 _ (by omega) (by omega)) (f1 _ (by omega) (by omega))
    have mv : ∀ {a f}, arg C sg (b + 1) nv H a f → arg C t (b + 1) nv H a f := fun q => arg_move hsc hss (Nat.le_refl _) (fun _ _ z => z) q
    refine ⟨1, rfl, fun q => absurd q (by decide), fun _ => (so_args hC hsr hst (by omega) s3 s2 hv g1 (by omega) (mv hy) (mv hz)).imp ?_⟩
    rintro _ u ⟨n, rfl, f2, ⟨l3, g3, g4⟩, hout⟩
    rcases hout with ⟨rfl, s4, s5, s6, k2⟩ | ⟨rfl, s4⟩
    · exact ⟨1, rfl, fun q => absurd q (by decide), fun _ => ⟨_, rfl, f1.trans f2, ⟨l3, g3, by omega⟩, Or.inl ⟨by decide, s4, s5, s6, fun L q => k2 L (k1 L q)⟩⟩⟩
    · exact ⟨0, rfl, fun _ => ⟨_, rfl, f1.trans f2, ⟨l3, g3, by omega⟩, Or.inr ⟨rfl, s4⟩⟩, fun q => absurd rfl q⟩
  · exact ⟨0, rfl, fun _ => ⟨_, rfl, f1, ⟨l2, g1, by omega⟩, Or.inr ⟨rfl, sax_uni s1⟩⟩, fun q => absurd rfl q⟩
/-- a state's copy -/
theorem so_copy {C : Cf} (hC : cfOK C) {sg : rSg} {s k k2 np gl : Nat} (hk : isSt k) (hk2 : isSt k2) (hkk : k + 2 < k2 ∨ k2 + 2 < k) (hks : k + 2 < s ∨ s + 3 < k) (hsc : cSc C sg s np gl) {X : Sx} {fs ms : List Nat} {H : Nat → Prop} {gs : List Nat} (h : cSo C sg s k2 np gl X fs ms H gs) : EvS rSkel 1 53 [.inr (.inr (some k)), .inr (.inr (some k2))] sg (fun r t => r = none ∧ (∀ q, q ≠ k → q ≠ k + 1 → q ≠ k + 2 → t q = sg q) ∧ cSo C t s k np gl X fs ms H gs ∧ cSc C t s np gl ∧ ∀ L, hLk C X.2.2.1 (cV sg s (k2 + 1) 64) fs ms L → hLk C X.2.2.1 (cV t s (k + 1) 64) fs ms L) := by
  have hl := cSo_len hC h
  have hnv := h.2.2.2.2.2.1.2.1.1
  refine (c_copy hk hk2 hkk sg (v := X.2.2.1) (t := gs.length) h.1 (by omega) h.2.1 (by omega)).imp ?_
  rintro _ t ⟨rfl, d1, d2, d3, d4, d5, d6, d7, d8⟩
  have hss : scSame np gl s s sg t := scSame.of (d1 _ (by omega) (by omega) (by omega)) (d1 _ (by omega) (by omega) (by omega)) (d1 _ (by omega) (by omega) (by omega))
  exact ⟨rfl, d1, cSo_move hC hsc h ⟨Nat.le_refl _, hsc.1.2.1⟩ (Nat.le_refl _) hss (by rw [d2, h.1]) (by rw [d3, h.2.1]) d4 d5 d7, cSc_same hsc hss (by rw [d1 _ (by omega) (by omega) (by omega)]; exact hsc.2.1) (by rw [d1 _ (by omega) (by omega) (by omega)]; exact hsc.2.2.1) ⟨Nat.le_refl _, hsc.1.2.1⟩ ⟨Nat.le_refl _, hsc.1.2.2.2⟩, fun L q => hLk_move hsc h hss d5 q⟩
