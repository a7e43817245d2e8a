/-! THE CLASS: fresh variables, goals, pairs, exactly -/
theorem ce_56 {k : Nat} (hk : isSt k) (sg : rSg) {v : Nat} (hv : sg k 2 = nI v) (h9 : v < 64) : EvS rSkel 1 56 [.inr (.inr (some k))] sg (fun r t => r = some (.inl (nI v)) ∧ t = up2 (up2 sg (k + 1) v (-1)) k 2 (nI (v + 1))) := by
  refine w_56 sg k hk ?_
  rw [hv, nI_1, nI_clamp (by omega), show nI (v + 1) - 1 = nI v from nI_pred v]
  exact ⟨fun q => absurd q (nI_pos (by omega)), fun _ => ⟨fun _ => ⟨rIn_nI h9 (by decide), rfl, rfl⟩, fun q => absurd (nI_lt h9 (by decide)) q⟩⟩
theorem ce_21 {s : Nat} (hs : isScr s) (sg : rSg) {g : Nat} (hg : sg s 3 = nI g) (h9 : g < 326) (x : Int32) : EvS rSkel 1 21 [.inr (.inr (some s)), .inl x] sg (fun r t => r = some (.inl (nI g)) ∧ t = up2 (up2 sg (s + 1) g x) s 3 (nI (g + 1))) := by
  refine w_21 sg s hs x ?_
  rw [hg, nI_1, nI_clamp (by omega), show nI (g + 1) - 1 = nI g from nI_pred g]
  exact ⟨fun q => absurd q (nI_pos (by omega)), fun _ => ⟨fun _ => ⟨rIn_nI h9 (by decide), rfl, rfl⟩, fun q => absurd (nI_lt h9 (by decide)) q⟩⟩
theorem ce_22 {s : Nat} (hs : isScr s) (sg : rSg) {g j : Nat} (hg : g < 326) (hj : j < 3) (x : Int32) : EvS rSkel 1 22 [.inr (.inr (some s)), .inl (nI g), .inl (nI j), .inl x] sg (fun r t => r = none ∧ t = up2 sg (s + 2) (3 * g + j) x) := by
  refine w_22 sg s hs _ _ _ ⟨fun q => absurd q (nI_pos (by omega)), fun h0 => ⟨fun q => absurd ((nI_leI (a := 326) (by decide) (by omega)).mp q) (by omega), fun h1 => ⟨fun q => absurd q (nI_pos (by omega)), fun h2 => ⟨fun q => absurd ((nI_leI (a := 3) (by decide) (by omega)).mp q) (by omega), fun h3 => ⟨r3 h0 h1 h2 h3, rfl, ?_⟩⟩⟩⟩⟩
  rw [show (3 : Int32) * nI g + nI j = nI (3 * g + j) by rw [show (3 : Int32) = nI 3 from rfl, pk_mul, nI_add], nI_clamp (by omega)]
theorem ce_23 {s : Nat} (hs : isScr s) (sg : rSg) {n : Nat} (hn : sg s 4 = nI n) (h9 : n < 640) (x y : Int32) : EvS rSkel 1 23 [.inr (.inr (some s)), .inl x, .inl y] sg (fun r t => r = some (.inl (nI (256 + n))) ∧ t = up2 (up2 (up2 sg (s + 3) (2 * n) x) (s + 3) (2 * n + 1) y) s 4 (nI (n + 1))) := by
  refine w_23 sg s hs x y ?_
  rw [hn, show (2 : Int32) * nI n = nI (2 * n) by rw [show (2 : Int32) = nI 2 from rfl, pk_mul], nI_1, nI_1, nI_clamp (by omega), nI_clamp (by omega), show (256 : Int32) + nI (n + 1) - 1 = nI (256 + n) by rw [show (256 : Int32) = nI 256 from rfl, nI_add, show 256 + (n + 1) = 256 + n + 1 by omega]; exact nI_pred _]
  exact ⟨fun q => absurd q (nI_pos (by omega)), fun _ => ⟨fun _ => ⟨rIn_nI (by omega) (by decide), rIn_nI (by omega) (by decide), rfl, rfl⟩, fun q => absurd (nI_lt h9 (by decide)) q⟩⟩
theorem ce_45 {b : Nat} (hb : isSeaA rSkel b) (sg : rSg) {g : Nat} (hg : sg (b + 1) 3 = nI g) (h9 : g < 326) (x1 x2 x3 x4 : Int32) : EvS rSkel 2 45 [.inr (.inr (some b)), .inl x1, .inl x2, .inl x3, .inl x4] sg (fun r t => r = some (.inl (nI g)) ∧ (∀ q, q ≠ b + 1 → q ≠ b + 2 → q ≠ b + 3 → t q = sg q) ∧ (∀ j, j ≠ 3 → t (b + 1) j = sg (b + 1) j) ∧ t (b + 1) 3 = nI (g + 1) ∧ (∀ j, j < g → t (b + 2) j = sg (b + 2) j) ∧ t (b + 2) g = x1 ∧ (∀ j, j < 3 * g → t (b + 3) j = sg (b + 3) j) ∧ t (b + 3) (3 * g) = x2 ∧ t (b + 3) (3 * g + 1) = x3 ∧ t (b + 3) (3 * g + 2) = x4) := by
  have hs : isScr (b + 1) := hb.1.2.2.2.2.2.1
  refine w_45 sg b hb.1 x1 x2 x3 x4 ((ce_21 hs sg hg h9 x1).imp ?_)
  rintro _ t1 ⟨rfl, rfl⟩
  refine ⟨_, rfl, (ce_22 hs _ (g := g) (j := 0) h9 (by decide) x2).imp ?_⟩
  rintro _ t2 ⟨rfl, rfl⟩
  refine ⟨rfl, (ce_22 hs _ (g := g) (j := 1) h9 (by decide) x3).imp ?_⟩
  rintro _ t3 ⟨rfl, rfl⟩
  refine ⟨rfl, (ce_22 hs _ (g := g) (j := 2) h9 (by decide) x4).imp ?_⟩
  rintro _ t4 ⟨rfl, rfl⟩
  refine ⟨rfl, rfl, fun q g1 g2 g3 => ?_, fun j hj => ?_, ?_, fun j hj => ?_, ?_, fun j hj => ?_, ?_, ?_, ?_⟩
  · rw [up2_nk _ _ _ (by omega), up2_nk _ _ _ (by omega), up2_nk _ _ _ (by omega), up2_nk _ _ _ (by omega), up2_nk _ _ _ (by omega)]
  · rw [up2_nk _ _ _ (by omega), up2_nk _ _ _ (by omega), up2_nk _ _ _ (by omega), up2_nj _ _ _ hj, up2_nk _ _ _ (by omega)]
  · rw [up2_nk _ _ _ (by omega), up2_nk _ _ _ (by omega), up2_nk _ _ _ (by omega), up2_same]
  · rw [up2_nk _ _ _ (by omega), up2_nk _ _ _ (by omega), up2_nk _ _ _ (by omega), up2_nk _ _ _ (by omega)]
    exact up2_nj _ _ _ (by omega)
  · rw [up2_nk _ _ _ (by omega), up2_nk _ _ _ (by omega), up2_nk _ _ _ (by omega), up2_nk _ _ _ (by omega)]
    exact up2_same _ _ _ _
  · show up2 _ (b + 1 + 2) _ _ (b + 1 + 2) j = _
    rw [up2_nj _ _ _ (by omega), up2_nj _ _ _ (by omega), up2_nj _ _ _ (by omega), up2_nk _ _ _ (by omega), up2_nk _ _ _ (by omega)]
  · show up2 _ (b + 1 + 2) _ _ (b + 1 + 2) (3 * g) = _
    rw [up2_nj _ _ _ (by omega), up2_nj _ _ _ (by omega)]
    exact up2_same _ _ _ _
  · show up2 _ (b + 1 + 2) _ _ (b + 1 + 2) (3 * g + 1) = _
    rw [up2_nj _ _ _ (by omega)]
    exact up2_same _ _ _ _
  · exact up2_same _ _ _ _
/-! a state with its parts named -/
def cSo (C : Cf) (sg : rSg) (s k np gl : Nat) (X : Sx) (fs ms : List Nat) (H : Nat → Prop) (gs : List Nat) : Prop := sg k 2 = nI X.2.2.1 ∧ sg k 3 = nI gs.length ∧ pilk (k + 2) sg gs ∧ cIts C sg s X.2.2.1 H gl gs X.1 ∧ kbt (sg k 4) X.2.1 ∧ cCo sg s (k + 1) C.tp np C.p X.2.2.1 fs ms H X.2.2.2 ∧ cNu C X fs.length ms.length
theorem cSo.st {C : Cf} {sg : rSg} {s k np gl : Nat} {X : Sx} {fs ms : List Nat} {H : Nat → Prop} {gs : List Nat} (h : cSo C sg s k np gl X fs ms H gs) (hh : cHs C X (cV sg s (k + 1) 64) fs ms) : cSt C sg s k np gl X := ⟨fs, ms, H, gs, h.1, h.2.1, h.2.2.1, h.2.2.2.1, h.2.2.2.2.1, h.2.2.2.2.2.1, h.2.2.2.2.2.2, hh⟩
theorem cSo_len {C : Cf} (hC : cfOK C) {sg : rSg} {s k np gl : Nat} {X : Sx} {fs ms : List Nat} {H : Nat → Prop} {gs : List Nat} (h : cSo C sg s k np gl X fs ms H gs) : gs.length ≤ 26 := by
  have a1 := cIts_len h.2.2.2.1
  have a2 := sumI_len hC h.2.2.2.1
  have a3 := h.2.2.2.2.2.2.2.2.2.1
  omega
theorem cSo_sam {C : Cf} {sg t : rSg} {s s2 k k2 np gl nv : Nat} {K : Kx} {fs ms : List Nat} {H : Nat → Prop} (htn : C.tp ≤ np) (e6 : cCo sg s (k + 1) C.tp np C.p nv fs ms H K) (hss : scSame np gl s s2 sg t) (hb : ∀ j, j < nv → t (k2 + 1) j = sg (k + 1) j) : cSame s (k + 1) s2 (k2 + 1) nv C.tp fs ms sg t := by
  refine ⟨fun i hi => hb i hi, fun c hc => ?_⟩
  have hc2 : 256 ≤ c ∧ c < 256 + np := by
    rcases hc with q | q | q
    · omega
    · have := ((e6.2.1).2.1 c q).1; omega
    · have := ((e6.2.1).2.2.1 c q).1; omega
  exact ⟨hss.1 _ (by omega), hss.1 _ (by omega)⟩
/-- the history goes along -/
theorem hLk_move {C : Cf} {sg t : rSg} {s s2 k k2 np gl : Nat} {X : Sx} {fs ms : List Nat} {H : Nat → Prop} {gs : List Nat} (hsc : cSc C sg s np gl) (h : cSo C sg s k np gl X fs ms H gs) (hss : scSame np gl s s2 sg t) (hb : ∀ j, j < X.2.2.1 → t (k2 + 1) j = sg (k + 1) j) {L : List Bk} (hl : hLk C X.2.2.1 (cV sg s (k + 1) 64) fs ms L) : hLk C X.2.2.1 (cV t s2 (k2 + 1) 64) fs ms L :=
  hLk_ag (cSame_ag hsc.1.1 hsc.1.2.1 h.2.2.2.2.2.1.2.1 (cSo_sam hsc.1.1 h.2.2.2.2.2.1 hss hb)) hl
theorem vSol_ext {V W : Nat → TV} {D : Nat → Prop} {th : Nat → Nat} (h : vExt V W) (hs : vSol W D th) : vSol V D th := fun c hc => by
  have h0 := hs c hc
  rcases h c with q | ⟨q, _⟩
  · rw [q] at h0; exact h0
  · rw [q]
    exact ⟨fun _ z => (by cases z), fun _ z => (by cases z), fun _ _ z => (by cases z)⟩
/-- .. and through unify -/
theorem hLk_ext {C : Cf} {nv : Nat} {V W : Nat → TV} {fs ms : List Nat} {L : List Bk} (h : ∀ c a b, V c = some (.inr (.inr (a, b))) → W c = some (.inr (.inr (a, b)))) (hs : ∀ th, vSol W (cDm nv C.tp fs ms) th → vSol V (cDm nv C.tp fs ms) th) (hl : hLk C nv V fs ms L) : hLk C nv W fs ms L := by
  obtain ⟨h1, h2, h3, h4, h5⟩ := hl
  have f1 : ∀ c ∈ fs, W c = V c := fun c hc => by
    obtain ⟨a, b, _, e, _⟩ := h1 c hc
    rw [e]; exact h c a b e
  have f2 : ∀ c ∈ ms, W c = V c := fun c hc => by
    obtain ⟨a, b, _, e, _⟩ := h3 c hc
    rw [e]; exact h c a b e
  refine ⟨fun c hc => ?_, fun c hc d hd e => ?_, fun c hc => ?_, fun c hc d hd x y t e e2 => ?_, fun q hq => ⟨(h5 q hq).1, fun k => by obtain ⟨c, hc, e⟩ := (h5 q hq).2 k; exact ⟨c, hc, by rw [f1 c hc]; exact e⟩⟩⟩
  · rw [f1 c hc]; exact h1 c hc
  · rw [f1 c hc, f1 d hd] at e; exact h2 c hc d hd e
  · obtain ⟨x, t, q, e, q1, q2, q3, q4⟩ := h3 c hc
    exact ⟨x, t, q, by rw [f2 c hc]; exact e, q1, q2, q3, q4.1, fun th g => q4.2 th (hs th g)⟩
  · rw [f2 c hc] at e
    rw [f2 d hd] at e2
    exact h4 c hc d hd x y t e e2
theorem cSo_move {C : Cf} (hC : cfOK C) {sg t : rSg} {s s2 k k2 np np2 gl gl2 : Nat} {X : Sx} {fs ms : List Nat} {H : Nat → Prop} {gs : List Nat} (hsc : cSc C sg s np gl) (h : cSo C sg s k np gl X fs ms H gs) (hn : np ≤ np2 ∧ np2 ≤ 640) (hg : gl ≤ gl2) (hss : scSame np gl s s2 sg t) (h2 : t k2 2 = sg k 2) (h3 : t k2 3 = sg k 3) (h4 : t k2 4 = sg k 4) (hb : ∀ j, j < X.2.2.1 → t (k2 + 1) j = sg (k + 1) j) (hd : ∀ j, j < gs.length → t (k2 + 2) j = sg (k + 2) j) : cSo C t s2 k2 np2 gl2 X fs ms H gs := by
  obtain ⟨e1, e2, e3, e4, e5, e6, e7⟩ := h
  have htn := hsc.1.1
  exact ⟨by rw [h2]; exact e1, by rw [h3]; exact e2, pilk_mv hd e3, cIts_same hsc.2.2.2.1 htn (by omega) hss hg (Nat.le_refl _) (fun _ _ z => z) e4, by rw [h4]; exact e5, cCo_same htn hn.1 hn.2 e6 (cSo_sam hsc.1.1 e6 hss hb), e7⟩
/-- the cells that unify in the state at k does not touch -/
def frU (k : Nat) (sg t : rSg) : Prop := ∀ q, (q = 0 ∨ 5 < q) → q ≠ k + 1 → t q = sg q
theorem so_unify {C : Cf} (hC : cfOK C) {sg : rSg} {s k np gl l : Nat} (hs : isScr s) (hk : isSt k) (hks : k + 2 < s ∨ s + 3 < k) (hsc : cSc C sg s np gl) {td : List It} {ks : List Nat} {nv : Nat} {K : Kx} {fs ms : List Nat} {H : Nat → Prop} {gs : List Nat} (h : cSo C sg s k np gl (td, ks, nv, K) fs ms H gs) (hl : cSn sg l) (hl0 : l + 300 < 2 ^ 32) {a b : Nat} (hcl : C.tp + fs.length + ms.length ≤ 500) (hfew : ∀ th n W rs, vSol (cV sg s (k + 1) 64) (cDm nv C.tp fs ms) th → th a = th b → uRun (cDm nv C.tp fs ms) (cV sg s (k + 1) 64) [(a, b)] n W rs → n < 900000) (da : cDm nv C.tp fs ms a) (db : cDm nv C.tp fs ms b) (ha : ¬ H a) (hb : ¬ H b) {f g : Tf} (hda : dnt (cV sg s (k + 1) 64) (cDm nv C.tp fs ms) a f) (hdb : dnt (cV sg s (k + 1) 64) (cDm nv C.tp fs ms) b g) (la : cAr C.tp C.p nv fs ms H a) (lb : cAr C.tp C.p nv fs ms H b) :
    EvS rSkel 4 65 [.inr (.inr (some 1)), .inr (.inr (some s)), .inr (.inr (some (k + 1))), .inl (nI a), .inl (nI b)] sg (fun r t => ∃ x, r = some (.inl x) ∧ frU k sg t ∧ (∃ l2, cSn t l2 ∧ l2 ≤ l + 65) ∧ ((x = 1 ∧ sax (uni K f g) ∧ cSo C t s k np gl (td, ks, nv, uni K f g) fs ms H gs ∧ cSc C t s np gl ∧ (∀ L, hLk C nv (cV sg s (k + 1) 64) fs ms L → hLk C nv (cV t s (k + 1) 64) fs ms L) ∧ ∃ n, uRun (cDm nv C.tp fs ms) (cV sg s (k + 1) 64) [(a, b)] n (cV t s (k + 1) 64) []) ∨ (x = 0 ∧ ¬ sax (uni K f g)))) := by
  have k5 : 5 < k := hk.1
  have s5 : 5 < s := hs.1
  obtain ⟨e1, e2, e3, e4, e5, e6, e7⟩ := id h
  refine (cc_unifyG hs (kb := k + 1) ⟨by omega, hk.2.2.1⟩ (by omega) hsc.1.1 e6 hcl hl hl0 hfew da db ha hb hda hdb la lb).imp ?_
  rintro _ t ⟨x, bs, rfl, hbd, hl2, hout⟩
  have f1 : frU k sg t := hbd.1
  have hss : scSame np gl s s sg t := scSame.of (f1 _ (by omega) (by omega)) (f1 _ (by omega) (by omega)) (f1 _ (by omega) (by omega))
  refine ⟨x, rfl, f1, hl2, ?_⟩
  rcases hout with ⟨hx, h1, h2, h3, _, h4⟩ | q
  · refine Or.inl ⟨hx, h1, ⟨by rw [f1 k (by omega) (by omega)]; exact e1, by rw [f1 k (by omega) (by omega)]; exact e2, pilk_mv (fun j _ => by rw [f1 (k + 2) (by omega) (by omega)]) e3, cIts_same hsc.2.2.2.1 hsc.1.1 hsc.1.2.1 hss (Nat.le_refl _) (Nat.le_refl _) (fun _ _ z => z) e4, by rw [f1 k (by omega) (by omega)]; exact e5, h2, e7⟩, cSc_same hsc hss (by rw [f1 s (by omega) (by omega)]; exact hsc.2.1) (by rw [f1 s (by omega) (by omega)]; exact hsc.2.2.1) ⟨Nat.le_refl _, hsc.1.2.1⟩ ⟨Nat.le_refl _, hsc.1.2.2.2⟩, fun L hl => hLk_ext (fun c a b q => by
      rcases h3 c with z | ⟨z, _⟩
      · rw [z]; exact q
      · rw [q] at z; cases z) (fun th g => vSol_ext h3 g) hl, h4⟩
  · exact Or.inr q
