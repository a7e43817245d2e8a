/-! THE CLASS: KEPT ones are looked at, exactly -/
theorem flt_mem {tb : Tb} {K : Kx} : ∀ {gs r : List Nat}, flt tb K gs r → ∀ g, g ∈ r ↔ g ∈ gs ∧ sax (uni K (tb1 tb g) (tb2 tb g))
  | [], r, h, g => by rw [h]; simp
  | x :: gs, r, h, g => by
    rcases h with ⟨s, r2, rfl, h⟩ | ⟨s, h⟩
    · rw [List.mem_cons, List.mem_cons, flt_mem h g]
      constructor
      · rintro (rfl | q)
        · exact ⟨Or.inl rfl, s⟩
        · exact ⟨Or.inr q.1, q.2⟩
      · rintro ⟨rfl | q, z⟩
        · exact Or.inl rfl
        · exact Or.inr ⟨q, z⟩
    · rw [List.mem_cons, flt_mem h g]
      constructor
      · exact fun q => ⟨Or.inr q.1, q.2⟩
      · rintro ⟨rfl | q, z⟩
        · exact absurd z s
        · exact ⟨q, z⟩
theorem flt_sub {tb : Tb} {K : Kx} : ∀ {gs r : List Nat}, flt tb K gs r → r.Sublist gs
  | [], r, h => by rw [h]; exact List.nil_sublist _
  | x :: gs, r, h => by
    rcases h with ⟨s, r2, rfl, h⟩ | ⟨s, h⟩
    · exact (flt_sub h).cons₂ x
    · exact (flt_sub h).cons x
theorem ce_28 {s : Nat} (hs : isScr s) {g j : Nat} (hg : g < 326) (hj : j < 3) (sg : rSg) : EvS rSkel 1 28 [.inr (.inr (some s)), .inl (nI g), .inl (nI j)] sg (fun v t => v = some (.inl (sg (s + 2) (3 * g + j))) ∧ t = sg) := by
  refine w_28 sg s hs _ _ ⟨fun q => absurd q (nI_pos (by omega)), fun h0 => ⟨fun q => absurd ((nI_leI (a := 326) (by decide) (by omega)).mp q) (by omega), fun h1 => ⟨fun q => absurd q (nI_pos (by omega)), fun h2 => ⟨fun q => absurd ((nI_leI (a := 3) (by decide) (by omega)).mp q) (by omega), fun h3 => ⟨r3 h0 h1 h2 h3, ?_, rfl⟩⟩⟩⟩⟩
  rw [show (3 : Int32) * nI g + nI j = nI (3 * g + j) by rw [show (3 : Int32) = nI 3 from rfl, pk_mul, nI_add], nI_clamp (by omega)]
theorem ce_29 {s : Nat} (hs : isScr s) {g : Nat} (hg : g < 326) (sg : rSg) : EvS rSkel 1 29 [.inr (.inr (some s)), .inl (nI g)] sg (fun v t => v = some (.inl (sg (s + 1) g)) ∧ t = sg) := by
  refine w_29 sg s hs _ ⟨fun q => absurd q (nI_pos (by omega)), fun h0 => ⟨fun q => absurd ((nI_leI (a := 326) (by decide) (by omega)).mp q) (by omega), fun h1 => ⟨rIn_of (n := 326) (by decide) h0 h1, ?_, rfl⟩⟩⟩
  rw [nI_clamp (by omega)]
theorem cNu_ck {C : Cf} (hC : cfOK C) {X : Sx} {f m g : Nat} (h : cNu C X f m) (hv : X.2.2.1 ≤ 63) (hg : g ∈ X.2.1) : cCn C.tp f m := by
  have h9 := h.2.2.2.2.2 g hg
  have h1 := h.1
  have h3 := h.2.2.1
  unfold cCn
  by_cases ha : C.hA
  · have := (hC.2.1 ha).2 ⟨g, h9⟩
    omega
  · have := hC.2.2.1
    have := h.2.1 ha
    omega
theorem cNu_ks {C : Cf} {td : List It} {ks k2 : List Nat} {nv : Nat} {K K2 : Kx} {f m : Nat} (h : cNu C (td, ks, nv, K) f m) (hs : k2.Sublist ks) : cNu C (td, k2, nv, K2) f m := by
  obtain ⟨h1, h2, h3, h4, h5, h6⟩ := h
  refine ⟨h1, h2, h3, h4, fun q => ?_, fun g hg => h6 g (hs.subset hg)⟩
  have := h5 q
  have := hs.count_le q
  show k2.count q + sumI (ioc C q) td ≤ 1
  simp only at *
  omega
theorem ce_42 {C : Cf} (hC : cfOK C) {b : Nat} (hb : isSeaA rSkel b) {k : Nat} (hk : k = b + 218 ∨ k = b + 221) {sg : rSg} {np gl : Nat} (hsc : cSc C sg (b + 1) np gl) {Q : Qx} (hq : cQ C sg b np gl Q) {td : List It} {ks : List Nat} {nv : Nat} {K : Kx} (hx : cSt C sg (b + 1) k np gl (td, ks, nv, K)) (hsat : sax K) {l : Nat} (hl : cSn sg l) (hl0 : l + 5000 < 2 ^ 32) : EvS rSkel 5 42 [.inr (.inr (some b)), .inr (.inr (some k))] sg (fun v t => v = none ∧ ∃ Q2, tri C.tb Q (td, ks, nv, K) Q2 ∧ cQ C t b np gl Q2 ∧ fr5 b k sg t ∧ ∃ l2, cSn t l2 ∧ l2 ≤ l + 2080) := by
  have b5 : 5 < b := hb.1.1
  have hst : isSt k := by
    rcases hk with rfl | rfl
    · exact hb.1.2.2.2.2.2.2.1
    · exact hb.1.2.2.2.2.2.2.2
  have hk5 : 5 < k := by omega
  have kk1 : k ≠ k + 1 := by omega
  have hbk : b ≠ k := by omega
  have hbk1 : b ≠ k + 1 := by omega
  have h5k : 5 ≠ k + 1 := by omega
  have hscr : isScr (b + 1) := hb.1.2.2.2.2.2.1
  have harr : isArr (k + 1) 64 := ⟨by have := hst.1; omega, hst.2.2.1⟩
  obtain ⟨fs, ms, H, gs, e2, e3, e4, e5, e6, e7, e8, e9⟩ := id hx
  have hnv := e7.2.1.1
  have htn := hsc.1.1
  have hks : ∀ g ∈ ks, g < 32 ∧ g < C.ng ∧ (C.tb g).1 = 35 := fun g hg => ⟨e6.2.2 g hg, e8.2.2.2.2.2 g hg⟩
  -- what holds at turn y
  let I : Nat → rSg → Prop := fun y t => (∀ q, (q = 0 ∨ 5 < q) → q ≠ k → q ≠ k + 1 → t q = sg q) ∧ (∀ j, j ≠ 4 → t k j = sg k j) ∧ (∀ j, j < 64 → t (k + 1) j = sg (k + 1) j) ∧ (∃ l2, cSn t l2 ∧ l2 ≤ l + 65 * y) ∧ ∃ ky, kbt (t k 4) ky ∧ (∀ g ∈ ky, g ∈ ks) ∧ (∀ g ∈ ks, y ≤ g → g ∈ ky) ∧ (∀ g ∈ ks, g < y → (g ∈ ky ↔ sax (uni K (tb1 C.tb g) (tb2 C.tb g))) ∧ ¬ ∀ r, K r → tb1 C.tb g r = tb2 C.tb g r)
  have hss : ∀ {t y}, I y t → scSame np gl (b + 1) (b + 1) sg t := fun h => scSame.of (h.1 _ (by omega) (by omega) (by omega)) (h.1 _ (by omega) (by omega) (by omega)) (h.1 _ (by omega) (by omega) (by omega))
  have hsct : ∀ {t y}, I y t → cSc C t (b + 1) np gl := fun h => cSc_same hsc (hss h) (by rw [h.1 _ (by omega) (by omega) (by omega)]; exact hsc.2.1) (by rw [h.1 _ (by omega) (by omega) (by omega)]; exact hsc.2.2.1) ⟨Nat.le_refl _, hsc.1.2.1⟩ ⟨Nat.le_refl _, hsc.1.2.2.2⟩
  have hqt : ∀ {t y}, I y t → cQ C t b np gl Q := fun h => cQ_frame hC hsc hq ⟨Nat.le_refl _, hsc.1.2.1⟩ (Nat.le_refl _) (hss h) (fun j _ _ => by rw [h.1 _ (by omega) (by omega) (by omega)]) (fun q g1 g2 => h.1 _ (by omega) (by omega) (by omega))
  have hsam : ∀ {t y}, I y t → cSame (b + 1) (k + 1) (b + 1) (k + 1) nv C.tp fs ms sg t := fun h => ⟨fun i hi => h.2.2.1 i (by have : i < nv := hi; simp only at hnv; omega), fun c _ => by rw [h.1 (b + 1 + 3) (by omega) (by omega) (by omega)]; exact ⟨rfl, rfl⟩⟩
  have hcot : ∀ {t y}, I y t → cCo t (b + 1) (k + 1) C.tp np C.p nv fs ms H K := fun h => cCo_same htn (Nat.le_refl _) hsc.1.2.1 e7 (hsam h)
  -- it goes behind the queue
  have fin : ∀ {t y}, y ≤ 32 → I y t → (∀ g ∈ ks, g < y) → EvS rSkel 2 34 [.inr (.inr (some b)), .inr (.inr (some k))] t (fun v t => v = none ∧ ((none : Option rv) = none ∧ ∃ Q2, tri C.tb Q (td, ks, nv, K) Q2 ∧ cQ C t b np gl Q2 ∧ fr5 b k sg t ∧ ∃ l2, cSn t l2 ∧ l2 ≤ l + 2080)) := by
    intro t y hy h hall
    obtain ⟨a1, a2, a3, ⟨l2, hl2, hl3⟩, ky, b1, b2, b3, b4⟩ := id h
    obtain ⟨r, hr⟩ := flt_ex C.tb K ks
    have hsub := flt_sub hr
    have hkr : kbt (t k 4) r := kbt_mem b1 (List.Nodup.sublist hsub e6.2.1) (fun g => by
      rw [flt_mem hr g]
      constructor
      · exact fun q => ((b4 g q.1 (hall g q.1)).1).mpr q.2
      · exact fun q => ⟨b2 g q, ((b4 g (b2 g q) (hall g (b2 g q))).1).mp q⟩)
    have hx2 : cSt C t (b + 1) k np gl (td, r, nv, K) := ⟨fs, ms, H, gs, by rw [a2 2 (by decide)]; exact e2, by rw [a2 3 (by decide)]; exact e3, pilk_mv (fun j _ => by rw [a1 (k + 2) (by omega) (by omega) (by omega)]) e4, cIts_same hsc.2.2.2.1 htn hsc.1.2.1 (hss h) (Nat.le_refl _) (Nat.le_refl _) (fun _ _ z => z) e5, hkr, hcot h, cNu_ks e8 hsub, cHs_ag (X := (td, r, nv, K)) (cSame_ag htn hsc.1.2.1 e7.2.1 (hsam h)) e9⟩
    refine (ce_34 hC hb hk (hsct h) (hqt h) hx2).imp ?_
    rintro _ u ⟨rfl, u1, u2⟩
    refine ⟨rfl, rfl, _, Or.inr ⟨⟨hsat, ?_⟩, r, hr, rfl⟩, u1, ⟨fun q g1 g2 g3 g4 g5 => by rw [u2.1 q g2 g3]; exact a1 q g1 g4 g5, fun j g1 g2 => by rw [u2.2 j g1 g2, a1 b (by omega) (by omega) (by omega)]⟩, l2, ⟨by rw [u2.1 1 (by omega) (by omega)]; exact hl2.1, fun j hj => by rw [u2.1 5 (by omega) (by omega)]; exact hl2.2 j hj⟩, by omega⟩
    rintro ⟨g, hg, hsame⟩
    exact (b4 g hg (hall g hg)).2 hsame
  have loop : ∀ (m y : Nat) (t : rSg), y + m = 32 → I y t → g_42_2 b k (nI y) t (fun v t => v = none ∧ ∃ Q2, tri C.tb Q (td, ks, nv, K) Q2 ∧ cQ C t b np gl Q2 ∧ fr5 b k sg t ∧ ∃ l2, cSn t l2 ∧ l2 ≤ l + 2080) := by
    intro m
    induction m with
    | zero =>
      intro y t hy h
      obtain rfl : y = 32 := by omega
      exact w_42_2 t b hb.1 k hst (nI 32) ⟨fun _ => fin (Nat.le_refl _) h (fun g hg => (hks g hg).1), fun q => absurd (by decide) q⟩
    | succ m ih =>
      intro y t hy h
      obtain ⟨a1, a2, a3, ⟨l2, hl2, hl3⟩, ky, b1, b2, b3, b4⟩ := id h
      have hskip : y ∉ ks → I (y + 1) t := fun hn => ⟨a1, a2, a3, ⟨l2, hl2, by omega⟩, ky, b1, b2, fun g g1 g2 => b3 g g1 (by omega), fun g g1 g2 => b4 g g1 (by
        have : g ≠ y := fun e => hn (e ▸ g1)
        omega)⟩
      refine w_42_2 t b hb.1 k hst (nI y) ⟨fun q => absurd ((nI_leI (a := 32) (by decide) (by omega)).mp q) (by omega), fun _ => ⟨fun q => fin (by omega) h (fun g hg => ?_), fun _ => ⟨fun q => ?_, fun q => ?_⟩⟩⟩
      · have hky := (kbt_zero b1).mp q
        by_cases g1 : g < y
        · exact g1
        · have := b3 g hg (by omega)
          rw [hky] at this
          cases this
      · have hyk : y ∈ ky := Classical.byContradiction (fun z => q ((kbt_test b1 (by omega)).mpr z))
        have hyks := b2 y hyk
        obtain ⟨y32, yng, ykd⟩ := hks y hyks
        obtain ⟨kd, p1, p2, p3⟩ := (hsct h).2.2.2.2 y yng
        obtain ⟨x1, x2, c1, c2, ⟨t1, t2⟩, d1, d2, r1, r2⟩ : ∃ x1 x2, t (b + 1 + 2) (3 * y) = nI x1 ∧ t (b + 1 + 2) (3 * y + 1) = nI x2 ∧ (cTd C.tp x1 ∧ cTd C.tp x2) ∧ tdn t (b + 1) C.tp x1 (tb1 C.tb y) ∧ tdn t (b + 1) C.tp x2 (tb2 C.tb y) ∧ (kd = 77 ∨ rtc C x1) ∧ rtc C x2 := by
          rcases p3 with ⟨_, q⟩ | ⟨⟨q, _⟩, _⟩ | ⟨q, _⟩ | q
          · obtain ⟨x1, x2, c1, c2, c3, d1, d2, r1, r2, _⟩ := q
            exact ⟨x1, x2, c1, c2, c3, d1, d2, r1, r2⟩
          · omega
          · omega
          · omega
        refine (ce_28 hscr (g := y) (j := 0) (by omega) (by decide) t).imp ?_
        rintro _ _ ⟨rfl, rfl⟩
        refine ⟨_, rfl, (ce_28 hscr (g := y) (j := 1) (by omega) (by decide) _).imp ?_⟩
        rintro _ t ⟨rfl, rfl⟩
        rw [show t (b + 3) (3 * y + 0) = nI x1 from c1, show t (b + 3) (3 * y + 1) = nI x2 from c2]
        have hco := hcot h
        have nH : ∀ {c}, cTd C.tp c → ¬ H c := fun {c} hc hh => by
          have := (hco.2.1).2.2.2.1 c hh
          simp only at hnv
          omega
        refine ⟨_, rfl, (cc_unify hscr harr (by omega) htn hco (cNu_ck hC e8 hnv.2 hyks) hl2 (by omega) (cTd_D hnv.1 t1) (cTd_D hnv.1 t2) (nH t1) (nH t2) (tdn_dnt hnv.1 d1) (tdn_dnt hnv.1 d2) (rtc_Ar hnv.1 (nH t1) t1 (r1.resolve_left (by omega))) (rtc_Ar hnv.1 (nH t2) t2 r2)).imp ?_⟩
        rintro _ u ⟨x, bs, rfl, hbd, ⟨l3, hl4, hl5⟩, hout⟩
        have u1 : ∀ q, (q = 0 ∨ 5 < q) → q ≠ k + 1 → u q = t q := hbd.1
        have und : ∀ (P : rSg → Prop), (∀ w, (∀ q, (q = 0 ∨ 5 < q) → q ≠ k + 1 → w q = t q) → (∀ j, j < 64 → w (k + 1) j = t (k + 1) j) → (∃ l2, cSn w l2 ∧ l2 ≤ l + 65 * (y + 1)) → P w) → EvS rSkel 1 69 [.inr (.inr (some 1)), .inr (.inr (some (k + 1)))] u (fun v w => v = none ∧ P w) := by
          intro P hP
          refine (c_undo harr (by decide) hbd).imp ?_
          rintro _ w ⟨rfl, w1, w2, w3⟩
          refine ⟨rfl, hP w (fun q g1 g2 => by rw [w1 q (by omega) g2]; exact u1 q g1 g2) w3 ⟨l3, ⟨by rw [w2 4 (by decide)]; exact hl4.1, fun j hj => by rw [w1 5 (by decide) h5k]; exact hl4.2 j hj⟩, by omega⟩⟩
        have base : ∀ {w : rSg}, (∀ q, (q = 0 ∨ 5 < q) → q ≠ k + 1 → w q = t q) → (∀ j, j < 64 → w (k + 1) j = t (k + 1) j) → (∀ q, (q = 0 ∨ 5 < q) → q ≠ k → q ≠ k + 1 → w q = sg q) ∧ (∀ j, j ≠ 4 → w k j = sg k j) ∧ (∀ j, j < 64 → w (k + 1) j = sg (k + 1) j) := fun g1 g2 => ⟨fun q z1 z2 z3 => by rw [g1 q z1 z3]; exact a1 q z1 z2 z3, fun j hj => by rw [g1 k (Or.inr hk5) kk1]; exact a2 j hj, fun j hj => by rw [g2 j hj]; exact a3 j hj⟩
        rw [nI_1]
        rcases hout with ⟨rfl, hs1, _, _, hbs, _⟩ | ⟨rfl, hs0⟩
        · have h16 : u 1 6 = nI bs.length := hbd.2.1
          have bl : bs.length ≤ 64 := by
            have := hbd.2.2.2.2.2
            have := opensC_le t (k + 1) 64
            omega
          refine ⟨_, rfl, fun q => absurd q (by decide), fun _ => ⟨fun z => und _ (fun w g1 g2 g3 => ⟨fun _ => ih (y + 1) w (by omega) ?_, fun q => absurd (by decide) q⟩), fun z => und _ (fun w g1 g2 g3 => ⟨rfl, Q, Or.inl ⟨?_, rfl⟩, ?_, ?_, ?_⟩)⟩⟩
          · obtain ⟨c1, c2, c3⟩ := base g1 g2
            refine ⟨c1, c2, c3, g3, ky, by rw [g1 k (Or.inr hk5) kk1]; exact b1, b2, fun g z1 z2 => b3 g z1 (by omega), fun g z1 z2 => ?_⟩
            by_cases e : g = y
            · subst e
              refine ⟨⟨fun _ => hs1, fun _ => hyk⟩, fun hall => ?_⟩
              have := hbs.mpr hall
              rw [this] at h16
              exact z h16
            · exact b4 g z1 (by omega)
          · rintro ⟨_, hns⟩
            have hb0 : bs = [] := by
              have := Classical.not_not.mp z
              rw [h16] at this
              have := (nI_eq (b := 0) (by omega) (by decide)).mp this
              exact List.eq_nil_of_length_eq_zero this
            exact hns ⟨y, hyks, hbs.mp hb0⟩
          · obtain ⟨c1, c2, c3⟩ := base g1 g2
            exact cQ_frame hC hsc hq ⟨Nat.le_refl _, hsc.1.2.1⟩ (Nat.le_refl _) (scSame.of (c1 _ (by omega) (by omega) (by omega)) (c1 _ (by omega) (by omega) (by omega)) (c1 _ (by omega) (by omega) (by omega))) (fun j _ _ => by rw [c1 _ (by omega) (by omega) (by omega)]) (fun q z1 z2 => c1 _ (by omega) (by omega) (by omega))
          · obtain ⟨c1, c2, c3⟩ := base g1 g2
            exact ⟨fun q z1 z2 z3 z4 z5 => c1 q z1 z4 z5, fun j _ _ => by rw [c1 b (Or.inr b5) hbk hbk1]⟩
          · obtain ⟨l9, z1, z2⟩ := g3
            exact ⟨l9, z1, by omega⟩
        · refine ⟨_, rfl, fun _ => und _ (fun w g1 g2 g3 => ⟨fun q => absurd rfl q, fun _ => ih (y + 1) _ (by omega) ?_⟩), fun q => absurd rfl q⟩
          obtain ⟨c1, c2, c3⟩ := base g1 g2
          obtain ⟨l9, z1, z2⟩ := g3
          have wk4 : w k 4 = t k 4 := by rw [g1 k (Or.inr hk5) kk1]
          refine ⟨fun q g1 g2 g3 => by rw [up2_nk _ _ _ g2]; exact c1 q g1 g2 g3, fun j hj => by rw [up2_nj _ _ _ hj]; exact c2 j hj, fun j hj => by rw [up2_nk _ _ _ (by omega)]; exact c3 j hj, ⟨l9, ⟨by rw [up2_nk _ _ _ (by omega)]; exact z1.1, fun j hj => by rw [up2_nk _ _ _ (by omega)]; exact z1.2 j hj⟩, z2⟩, ky.filter (fun g => decide (g ≠ y)), by rw [up2_same, wk4]; exact kbt_clr b1 (by omega), fun g hg => b2 g (List.mem_filter.mp hg).1, fun g z1 z2 => List.mem_filter.mpr ⟨b3 g z1 (by omega), by simp; omega⟩, fun g z1 z2 => ?_⟩
          by_cases e : g = y
          · subst e
            refine ⟨⟨fun q => ?_, fun q => absurd q hs0⟩, fun hall => ?_⟩
            · have := (List.mem_filter.mp q).2
              simp at this
            · obtain ⟨r, hr⟩ := hsat
              exact hs0 ⟨r, hr, hall r hr⟩
          · rw [List.mem_filter]
            have := b4 g z1 (by omega)
            refine ⟨?_, this.2⟩
            rw [← this.1]
            constructor
            · exact fun q => q.1
            · exact fun q => ⟨q, by simp [e]⟩
      · have hyn : y ∉ ky := (kbt_test b1 (by omega)).mp (Classical.not_not.mp q)
        rw [nI_1]
        exact ih (y + 1) t (by omega) (hskip (fun z => hyn (b3 y z (Nat.le_refl _))))
  refine w_42 sg b hb.1 k hst (loop 32 0 sg rfl ⟨fun _ _ _ _ => rfl, fun _ _ => rfl, fun _ _ => rfl, ⟨l, hl, by omega⟩, ks, e6, fun _ z => z, fun _ z _ => z, fun g _ z => absurd z (by omega)⟩)
