/-! THE CLASS: a goal is done, exactly -/
theorem cCo_sax {sg : rSg} {s kb tp np nv : Nat} {p : Nat → Nat} {fs ms : List Nat} {H : Nat → Prop} {K : Kx} (h : cCo sg s kb tp np p nv fs ms H K) : sax K := by
  obtain ⟨rk, hok⟩ := h.2.1.2.2.2.2.2.2.1
  obtain ⟨th, h1, _⟩ := vSol_ex hok (fun _ => 0)
  exact ⟨th, (h.2.2.1 th).mpr ⟨th, h1, fun _ _ => rfl⟩⟩
theorem so_push {C : Cf} (hC : cfOK C) {sg : rSg} {s k np gl : Nat} (hk : isSt k) (hks : k + 2 < s ∨ s + 3 < k) (hsc : cSc C sg s np gl) {td : List It} {ks : List Nat} {nv : Nat} {K : Kx} {fs ms : List Nat} {H : Nat → Prop} {gs : List Nat} (h : cSo C sg s k np gl (td, ks, nv, K) fs ms H gs) {i : Nat} {it : It} (hi : cIt C sg s nv H gl i it) (hnu : cNu C (it :: td, ks, nv, K) fs.length ms.length) : EvS rSkel 1 52 [.inr (.inr (some k)), .inl (nI i)] sg (fun v t => v = none ∧ (∀ q, q ≠ k → q ≠ k + 2 → t q = sg q) ∧ cSo C t s k np gl (it :: td, ks, nv, K) fs ms H (i :: gs) ∧ cSc C t s np gl ∧ ∀ L, hLk C nv (cV sg s (k + 1) 64) fs ms L → hLk C nv (cV t s (k + 1) 64) fs ms L) := by
  have hl := cSo_len hC h
  have k5 := hk.1
  obtain ⟨e1, e2, e3, e4, e5, e6, e7⟩ := id h
  refine (c_stpush hk sg (t := gs.length) e2 (by omega) (nI i)).imp ?_
  rintro _ t ⟨rfl, f1, f2, f3, f4, f5⟩
  have hss : scSame np gl s s sg t := scSame.of (f1 _ (by omega) (by omega)) (f1 _ (by omega) (by omega)) (f1 _ (by omega) (by omega))
  refine ⟨rfl, f1, ⟨by rw [f2 2 (by decide)]; exact e1, f3, ⟨f4, pilk_mv (fun j hj => f5 j (by omega)) e3⟩, ⟨cIt_same hsc.2.2.2.1 hsc.1.1 hsc.1.2.1 hss (Nat.le_refl _) (Nat.le_refl _) (fun _ _ z => z) hi, cIts_same hsc.2.2.2.1 hsc.1.1 hsc.1.2.1 hss (Nat.le_refl _) (Nat.le_refl _) (fun _ _ z => z) e4⟩, by rw [f2 4 (by decide)]; exact e5, cCo_same hsc.1.1 (Nat.le_refl _) hsc.1.2.1 e6 ⟨fun j _ => by rw [f1 (k + 1) (by omega) (by omega)], fun c _ => by rw [f1 (s + 3) (by omega) (by omega)]; exact ⟨rfl, rfl⟩⟩, hnu⟩, cSc_same hsc hss (by rw [f1 s (by omega) (by omega)]; exact hsc.2.1) (by rw [f1 s (by omega) (by omega)]; exact hsc.2.2.1) ⟨Nat.le_refl _, hsc.1.2.1⟩ ⟨Nat.le_refl _, hsc.1.2.2.2⟩, fun L q => hLk_move (X := (td, ks, nv, K)) hsc h hss (fun j _ => by rw [f1 (k + 1) (by omega) (by omega)]) q⟩
theorem cNu_two {C : Cf} (hC : cfOK C) {g : Nat} (hg : g < C.ng) (hk : (C.tb g).1 = 38 ∨ (C.tb g).1 = 124) {td : List It} {ks : List Nat} {nv : Nat} {K : Kx} {f m : Nat} (h : cNu C (.inl g :: td, ks, nv, K) f m) : cNu C (.inl (tbA C.tb g) :: .inl (tbB C.tb g) :: td, ks, nv, K) f m ∧ cNu C (.inl (tbA C.tb g) :: td, ks, nv, K) f m ∧ cNu C (.inl (tbB C.tb g) :: td, ks, nv, K) f m := by
  obtain ⟨h1, h2, h3, h4, h5, h6⟩ := h
  obtain ⟨w0, w1, _⟩ := hC.2.2.2 g hg
  obtain ⟨w1, w2, w3⟩ := w1 hk
  simp only [sumI, iw, imm, ioc] at h3 h4 h5
  refine ⟨⟨h1, h2, ?_, ?_, fun q => ?_, h6⟩, ⟨h1, h2, ?_, ?_, fun q => ?_, h6⟩, ⟨h1, h2, ?_, ?_, fun q => ?_, h6⟩⟩ <;> simp only [sumI, iw, imm, ioc] <;> first | omega | (have := h5 q; have := w3 q; omega)
theorem ce_41 {C : Cf} (hC : cfOK C) {b : Nat} (hb : isSeaA rSkel b) {sg : rSg} {np gl l : Nat} (hps : cSc C sg (b + 1) np gl) {Q : Qx} (hq : cQ C sg b np gl Q) (hl : cSn sg l) (hl0 : l + 20000 < 2 ^ 32) (hnp : np + 2 ≤ 640) (hgl : gl + 1 ≤ 326) {td : List It} {ks : List Nat} {nv : Nat} {K : Kx} {fs ms : List Nat} {H : Nat → Prop} {gs : List Nat} (h : cSo C sg (b + 1) (b + 218) np gl (td, ks, nv, K) fs ms H gs) (hv : nv ≤ 60) {i : Nat} {it : It} (hi : cIt C sg (b + 1) nv H gl i it) (hnu : cNu C (it :: td, ks, nv, K) fs.length ms.length) (hH : cHs C (it :: td, ks, nv, K) (cV sg (b + 1) (b + 218 + 1) 64) fs ms) :
    EvS rSkel 6 41 [.inr (.inr (some b)), .inl (nI i)] sg (fun v t => v = none ∧ ∃ Q2 np2 gl2, stp C.tb Q (it :: td, ks, nv, K) Q2 ∧ (np ≤ np2 ∧ np2 ≤ np + 2) ∧ (gl ≤ gl2 ∧ gl2 ≤ gl + 1) ∧ cPS C t b np2 gl2 Q2 (l + 4420) ∧ frS b sg t) := by
  have b5 : 5 < b := hb.1.1
  have hsr : isScr (b + 1) := hb.1.2.2.2.2.2.1
  have hst : isSt (b + 218) := hb.1.2.2.2.2.2.2.1
  have hbr : isSt (b + 221) := hb.1.2.2.2.2.2.2.2
  have hng := hC.1
  have hgi : i < gl := by
    rcases hi with ⟨q, _⟩ | ⟨q, _⟩
    · have := hps.1; omega
    · exact q.2
  have hsat : sax K := cCo_sax h.2.2.2.2.2.1
  have le0 : np ≤ np ∧ np ≤ np + 2 := ⟨Nat.le_refl _, by omega⟩
  have gl0 : gl ≤ gl ∧ gl ≤ gl + 1 := ⟨Nat.le_refl _, by omega⟩
  -- the script after a part that leaves it
  have scF : ∀ {t u : rSg}, cSc C t (b + 1) np gl → (∀ q, b + 1 ≤ q → q ≤ b + 4 → u q = t q) → cSc C u (b + 1) np gl := fun {t u} hs hh => cSc_same hs (scSame.of (hh _ (by omega) (by omega)) (hh _ (by omega) (by omega)) (hh _ (by omega) (by omega))) (by rw [hh _ (by omega) (by omega)]; exact hs.2.1) (by rw [hh _ (by omega) (by omega)]; exact hs.2.2.1) ⟨Nat.le_refl _, hs.1.2.1⟩ ⟨Nat.le_refl _, hs.1.2.2.2⟩
  have snF : ∀ {t u : rSg} {l : Nat}, cSn t l → u 1 = t 1 → u 5 = t 5 → cSn u l := fun h1 h2 h3 => ⟨by rw [h2]; exact h1.1, fun j hj => by rw [h3]; exact h1.2 j hj⟩
  -- settle, then the end
  have settle : ∀ {t : rSg} {X : Sx} {l1 : Nat}, cSc C t (b + 1) np gl → cQ C t b np gl Q → cSt C t (b + 1) (b + 218) np gl X → sax X.2.2.2 → cSn t l1 → l1 ≤ l + 65 → frS b sg t → (∀ Q2, tri C.tb Q X Q2 → stp C.tb Q (it :: td, ks, nv, K) Q2) → EvS rSkel 5 42 [.inr (.inr (some b)), .inr (.inr (some (b + 218)))] t (fun v u => v = none ∧ ((none : Option rv) = none ∧ ∃ Q2 np2 gl2, stp C.tb Q (it :: td, ks, nv, K) Q2 ∧ (np ≤ np2 ∧ np2 ≤ np + 2) ∧ (gl ≤ gl2 ∧ gl2 ≤ gl + 1) ∧ cPS C u b np2 gl2 Q2 (l + 4420) ∧ frS b sg u)) := by
    rintro t ⟨td', ks', nv', K'⟩ l1 g1 g2 g3 g4 g5 g6 g7 g8
    refine (ce_42 hC hb (Or.inl rfl) g1 g2 g3 g4 g5 (by omega)).imp ?_
    rintro _ u ⟨rfl, Q2, w1, w2, w3, l5, w4, w5⟩
    exact ⟨rfl, rfl, Q2, np, gl, g8 Q2 w1, le0, gl0, ⟨scF g1 (fun q z1 z2 => w3.1 q (by omega) (by omega) (by omega) (by omega) (by omega)), w2, l5, w4, by omega⟩, g7.trans (w3.S b5 (Or.inl rfl))⟩
  refine w_41 sg b hb.1 _ ((ce_28 hsr (g := i) (j := 0) (by omega) (by decide) sg).imp ?_)
  rintro _ _ ⟨rfl, rfl⟩
  refine ⟨_, rfl, (ce_28 hsr (g := i) (j := 1) (by omega) (by decide) _).imp ?_⟩
  rintro _ _ ⟨rfl, rfl⟩
  refine ⟨_, rfl, (ce_29 hsr (g := i) (by omega) _).imp ?_⟩
  rintro _ sg ⟨rfl, rfl⟩
  obtain ⟨L, ho, hc, hl9⟩ := hH
  have ho : HsO C.tb (it :: td) nv K L := ho
  have hc : hCt C (it :: td) L := hc
  have hl9 : hLk C nv (cV sg (b + 1) (b + 218 + 1) 64) fs ms L := hl9
  -- which sign it is
  rcases hi with ⟨hin, rfl⟩ | ⟨hin, hu⟩
  · obtain ⟨k, p1, p2, p3⟩ := hps.2.2.2.2 i hin
    rw [p1]
    have kne : ∀ {a : Nat}, a < 1000 → k < 1000 → k ≠ a → ¬ nI k = nI a := fun h1 h2 h3 q => h3 ((nI_eq (by omega) (by omega)).mp q)
    have hk9 : k < 1000 := by
      rcases p3 with ⟨q, _⟩ | ⟨⟨q, _⟩, _⟩ | ⟨q, _⟩ | q <;> omega
    have fin : ∀ {t : rSg} {Q2 : Qx} {np2 gl2 : Nat}, doT C.tb Q i td ks nv K Q2 → (np ≤ np2 ∧ np2 ≤ np + 2) → (gl ≤ gl2 ∧ gl2 ≤ gl + 1) → cPS C t b np2 gl2 Q2 (l + 4420) → frS b sg t → ((none : Option rv) = none ∧ ∃ Q2 np2 gl2, stp C.tb Q (.inl i :: td, ks, nv, K) Q2 ∧ (np ≤ np2 ∧ np2 ≤ np + 2) ∧ (gl ≤ gl2 ∧ gl2 ≤ gl + 1) ∧ cPS C t b np2 gl2 Q2 (l + 4420) ∧ frS b sg t) := fun h1 h2 h3 h4 h5 => ⟨rfl, _, _, _, h1, h2, h3, h4, h5⟩
    refine ⟨_, rfl, fun z => ?_, fun z => ?_, fun z => ?_, fun z => ?_, fun z => ?_, fun z => ?_, fun z => ?_, fun z => ?_⟩
    · -- '#'
      have hk : k = 35 := (nI_eq (b := 35) (by omega) (by decide)).mp z
      have hkd : (C.tb i).1 = 35 := p2.trans hk
      have ho2 := (hC.2.2.2 i hin).2.2.2 (Or.inl hkd)
      obtain ⟨n1, n2, n3, n4, n5, n6⟩ := hnu
      simp only [sumI, iw, imm, ioc] at n3 n4 n5
      have hni : i ∉ ks := fun q => by
        have := n5 i
        have := List.count_pos_iff.mpr q
        simp only at *
        omega
      refine w_55 sg (b + 218) hst (nI i) ⟨fun q => absurd q (nI_pos (by omega)), fun _ => ⟨fun q => absurd ((nI_leI (a := 32) (by decide) (by omega)).mp q) (by omega), fun _ => ⟨rfl, ?_⟩⟩⟩
      have f1 : ∀ q, q ≠ b + 218 → (up2 sg (b + 218) 4 (sg (b + 218) 4 ||| (1 <<< (nI i &&& 31)))) q = sg q := fun q hh => up2_nk _ _ _ hh
      have f2 : ∀ j, j ≠ 4 → (up2 sg (b + 218) 4 (sg (b + 218) 4 ||| (1 <<< (nI i &&& 31)))) (b + 218) j = sg (b + 218) j := fun j hh => up2_nj _ _ _ hh
      have f3 : (up2 sg (b + 218) 4 (sg (b + 218) 4 ||| (1 <<< (nI i &&& 31)))) (b + 218) 4 = sg (b + 218) 4 ||| (1 <<< (nI i &&& 31)) := up2_same _ _ _ _
      generalize up2 sg (b + 218) 4 (sg (b + 218) 4 ||| (1 <<< (nI i &&& 31))) = t at f1 f2 f3
      obtain ⟨e1, e2, e3, e4, e5, e6, e7⟩ := id h
      have hss : scSame np gl (b + 1) (b + 1) sg t := scSame.of (f1 _ (by omega)) (f1 _ (by omega)) (f1 _ (by omega))
      refine settle (X := (td, i :: ks, nv, K)) (scF hps (fun q z1 z2 => f1 q (by omega))) (cQ_frame hC hps hq ⟨Nat.le_refl _, hps.1.2.1⟩ (Nat.le_refl _) hss (fun j _ _ => by rw [f1 b (by omega)]) (fun q g1 g2 => f1 q (by omega))) ⟨fs, ms, H, gs, by rw [f2 2 (by decide)]; exact e1, by rw [f2 3 (by decide)]; exact e2, pilk_mv (fun j _ => by rw [f1 _ (by omega)]) e3, cIts_same hps.2.2.2.1 hps.1.1 hps.1.2.1 hss (Nat.le_refl _) (Nat.le_refl _) (fun _ _ z => z) e4, by rw [f3]; exact kbt_set e5 (by omega) hni, cCo_same hps.1.1 (Nat.le_refl _) hps.1.2.1 e6 ⟨fun j _ => by rw [f1 _ (by omega)], fun c _ => by rw [f1 (b + 1 + 3) (by omega)]; exact ⟨rfl, rfl⟩⟩, ?_, ⟨L, ho.pop, hCt_pop hc, hLk_move (X := (td, ks, nv, K)) hps h hss (fun j _ => by rw [f1 _ (by omega)]) hl9⟩⟩ hsat (snF hl (f1 1 (by omega)) (f1 5 (by omega))) (by omega) ⟨fun q g1 g2 => f1 q (by omega), fun j _ _ => by rw [f1 b (by omega)], fun j _ => by rw [f1 (b + 1) (by omega)]⟩ (fun Q2 ht => Or.inr (Or.inl ⟨hkd, ht⟩))
      refine ⟨n1, n2, by simp only; omega, by simp only; omega, fun q => ?_, fun g hg => ?_⟩
      · have := n5 q
        simp only at this ⊢
        rw [List.count_cons]
        by_cases e : i = q
        · subst e
          have h0 : ks.count i = 0 := List.count_eq_zero.mpr hni
          simp only [beq_self_eq_true, if_true]
          omega
        · have : (i == q) = false := by simp [e]
          rw [this]
          simp only [Bool.false_eq_true, if_false]
          omega
      · rcases List.mem_cons.mp hg with rfl | hg
        · exact ⟨hin, hkd⟩
        · exact n6 g hg
    · -- '&'
      have hk : k = 38 := (nI_eq (b := 38) (by omega) (by decide)).mp z
      have hkd : (C.tb i).1 = 38 := p2.trans hk
      obtain ⟨c1, c2, c3, c4⟩ : sg (b + 1 + 2) (3 * i) = nI (tbA C.tb i) ∧ sg (b + 1 + 2) (3 * i + 1) = nI (tbB C.tb i) ∧ tbA C.tb i < C.ng ∧ tbB C.tb i < C.ng := by
        rcases p3 with ⟨q, _⟩ | ⟨⟨q, _⟩, _⟩ | ⟨_, q⟩ | q
        · omega
        · omega
        · exact q
        · omega
      obtain ⟨u1, u2, u3⟩ := cNu_two hC hin (Or.inl hkd) hnu
      rw [show sg (b + 1 + 2) (3 * i + 0) = nI (tbA C.tb i) from c1, c2]
      refine (so_push hC hst (by omega) hps h (i := tbB C.tb i) (Or.inl ⟨c4, rfl⟩) u3).imp ?_
      rintro _ t ⟨rfl, d1, d2, d3, d7⟩
      refine ⟨rfl, (so_push hC hst (by omega) d3 d2 (i := tbA C.tb i) (Or.inl ⟨c3, rfl⟩) u1).imp ?_⟩
      rintro _ u ⟨rfl, d4, d5, d6, d8⟩
      have hss : scSame np gl (b + 1) (b + 1) sg u := scSame.of (by rw [d4 _ (by omega) (by omega), d1 _ (by omega) (by omega)]) (by rw [d4 _ (by omega) (by omega), d1 _ (by omega) (by omega)]) (by rw [d4 _ (by omega) (by omega), d1 _ (by omega) (by omega)])
      have hqu : cQ C u b np gl Q := cQ_frame hC hps hq ⟨Nat.le_refl _, hps.1.2.1⟩ (Nat.le_refl _) hss (fun j _ _ => by rw [d4 _ (by omega) (by omega), d1 _ (by omega) (by omega)]) (fun q g1 g2 => by rw [d4 _ (by omega) (by omega), d1 _ (by omega) (by omega)])
      refine ⟨rfl, (ce_34 hC hb (Or.inl rfl) d6 hqu (d5.st ⟨L, (ho.pop.push _).push _, (hCt_two hC hin (Or.inl hkd) hc).1, d8 _ (d7 _ hl9)⟩)).imp ?_⟩
      rintro _ w ⟨rfl, w1, w2⟩
      refine ⟨rfl, fin (Or.inr (Or.inr (Or.inl ⟨hkd, rfl⟩))) le0 gl0 ⟨scF d6 (fun q z1 z2 => w2.1 q (by omega) (by omega)), w1, l, snF (snF (snF hl (d1 1 (by omega) (by omega)) (d1 5 (by omega) (by omega))) (d4 1 (by omega) (by omega)) (d4 5 (by omega) (by omega))) (w2.1 1 (by omega) (by omega)) (w2.1 5 (by omega) (by omega)), by omega⟩ (frS.trans ⟨fun q g1 g2 => by rw [d4 _ (by omega) (by omega), d1 _ (by omega) (by omega)], fun j _ _ => by rw [d4 _ (by omega) (by omega), d1 _ (by omega) (by omega)], fun j _ => by rw [d4 _ (by omega) (by omega), d1 _ (by omega) (by omega)]⟩ w2.S)⟩
    · -- '*'
      have hk : k = 42 := (nI_eq (b := 42) (by omega) (by decide)).mp z
      have hkd : (C.tb i).1 = 42 := p2.trans hk
      refine (ce_34 hC hb (Or.inl rfl) hps hq (h.st ⟨L, ho.pop, hCt_pop hc, hl9⟩)).imp ?_
      rintro _ w ⟨rfl, w1, w2⟩
      exact ⟨rfl, fin (Or.inr (Or.inr (Or.inr (Or.inr (Or.inl ⟨hkd, rfl⟩))))) le0 gl0 ⟨scF hps (fun q z1 z2 => w2.1 q (by omega) (by omega)), w1, l, snF hl (w2.1 1 (by omega) (by omega)) (w2.1 5 (by omega) (by omega)), by omega⟩ w2.S⟩
    · -- '='
      have hk : k = 61 := (nI_eq (b := 61) (by omega) (by decide)).mp z
      have hkd : (C.tb i).1 = 61 := p2.trans hk
      obtain ⟨x, y, c1, c2, ⟨t1, t2⟩, t3, t4, r1, r2⟩ : ∃ x y, sg (b + 1 + 2) (3 * i) = nI x ∧ sg (b + 1 + 2) (3 * i + 1) = nI y ∧ (cTd C.tp x ∧ cTd C.tp y) ∧ tdn sg (b + 1) C.tp x (tb1 C.tb i) ∧ tdn sg (b + 1) C.tp y (tb2 C.tb i) ∧ (k = 77 ∨ rtc C x) ∧ rtc C y := by
        rcases p3 with ⟨_, q⟩ | ⟨⟨q, _⟩, _⟩ | ⟨q, _⟩ | q
        · obtain ⟨x, y, c1, c2, c3, d1, d2, r1, r2, _⟩ := q
          exact ⟨x, y, c1, c2, c3, d1, d2, r1, r2⟩
        · omega
        · omega
        · omega
      rw [show sg (b + 1 + 2) (3 * i + 0) = nI x from c1, c2]
      refine (so_args hC hsr hst (by omega) hps h hv hl (by omega) (Or.inl ⟨t1, t3, r1.resolve_left (by omega)⟩) (Or.inl ⟨t2, t4, r2⟩)).imp ?_
      rintro _ t ⟨n, rfl, f1, ⟨l2, hl2, hl3⟩, hout⟩
      have hss : scSame np gl (b + 1) (b + 1) sg t := scSame.of (f1 _ (by omega) (by omega)) (f1 _ (by omega) (by omega)) (f1 _ (by omega) (by omega))
      have hqt : cQ C t b np gl Q := cQ_frame hC hps hq ⟨Nat.le_refl _, hps.1.2.1⟩ (Nat.le_refl _) hss (fun j _ _ => by rw [f1 b (by omega) (by omega)]) (fun q g1 g2 => f1 q (by omega) (by omega))
      have fSt : frS b sg t := ⟨fun q g1 g2 => f1 q g1 (by omega), fun j _ _ => by rw [f1 b (by omega) (by omega)], fun j _ => by rw [f1 (b + 1) (by omega) (by omega)]⟩
      rcases hout with ⟨rfl, s1, s2, s3, k9⟩ | ⟨rfl, s1⟩
      · exact ⟨1, rfl, fun q => absurd q (by decide), fun _ => settle s3 hqt (s2.st ⟨L, ho.pop.sub (fun r hr => hr.1), hCt_pop hc, k9 _ hl9⟩) s1 hl2 hl3 fSt (fun Q2 ht => Or.inl ⟨hkd, ht⟩)⟩
      · exact ⟨0, rfl, fun _ => fin (Or.inl ⟨hkd, tri_no s1⟩) le0 gl0 ⟨scF hps (fun q z1 z2 => f1 q (by omega) (by omega)), hqt, l2, hl2, by omega⟩ fSt, fun q => absurd rfl q⟩
    · -- 'A'
      have hk : k = 65 := (nI_eq (b := 65) (by omega) (by decide)).mp z
      have hkd : (C.tb i).1 = 65 := p2.trans hk
      obtain ⟨hA, x, y, z, c1, c2, c3, ⟨t1, t2, t3⟩, t4, t5, t6, r1, r2, r3⟩ : C.hA ∧ ∃ x y z, sg (b + 1 + 2) (3 * i) = nI x ∧ sg (b + 1 + 2) (3 * i + 1) = nI y ∧ sg (b + 1 + 2) (3 * i + 2) = nI z ∧ (cTd C.tp x ∧ cTd C.tp y ∧ cTd C.tp z) ∧ tdn sg (b + 1) C.tp x (tb1 C.tb i) ∧ tdn sg (b + 1) C.tp y (tb2 C.tb i) ∧ tdn sg (b + 1) C.tp z (tb3 C.tb i) ∧ rtc C x ∧ rtc C y ∧ rtc C z := by
        rcases p3 with ⟨q, _⟩ | ⟨⟨_, q1⟩, q⟩ | ⟨q, _⟩ | q
        · omega
        · obtain ⟨x, y, z, c1, c2, c3, c4, d1, d2, d3, r1, r2, r3, _⟩ := q
          exact ⟨q1, x, y, z, c1, c2, c3, c4, d1, d2, d3, r1, r2, r3⟩
        · omega
        · omega
      have hw : sumI (iw C) td + 1 ≤ 26 := by
        have n4 := hnu.2.2.2.1
        simp only [sumI, iw] at n4
        have := (hC.2.2.2 i hin).1
        omega
      rw [show sg (b + 1 + 2) (3 * i + 0) = nI x from c1, c2]
      exact ce_doA (P := fun v t => v = none ∧ ∃ Q2 np2 gl2, stp C.tb Q (.inl i :: td, ks, nv, K) Q2 ∧ (np ≤ np2 ∧ np2 ≤ np + 2) ∧ (gl ≤ gl2 ∧ gl2 ≤ gl + 1) ∧ cPS C t b np2 gl2 Q2 (l + 4420) ∧ frS b sg t) hC hb hps hq hl hl0 hnp hgl h hv hA hw hgi c3 (Or.inl ⟨t1, t4, r1⟩) ⟨t2, t5, r2⟩ (Or.inl ⟨t3, t6, r3⟩) (hA3_told hC hin hkd ho hc hl9) (fun t Q2 np2 gl2 h1 h2 h3 h4 h5 => fin (Or.inr (Or.inr (Or.inr (Or.inr (Or.inr (Or.inr (Or.inl ⟨hkd, h1⟩))))))) h2 h3 h4 h5)
    · -- 'M'
      have hk : k = 77 := (nI_eq (b := 77) (by omega) (by decide)).mp z
      have hkd : (C.tb i).1 = 77 := p2.trans hk
      obtain ⟨x, y, c1, c2, ⟨t1, t2⟩, t3, t4, r1, r2, r3⟩ : ∃ x y, sg (b + 1 + 2) (3 * i) = nI x ∧ sg (b + 1 + 2) (3 * i + 1) = nI y ∧ (cTd C.tp x ∧ cTd C.tp y) ∧ tdn sg (b + 1) C.tp x (tb1 C.tb i) ∧ tdn sg (b + 1) C.tp y (tb2 C.tb i) ∧ (k = 77 ∨ rtc C x) ∧ rtc C y ∧ C.p (5000 + 3 * i) = x := by
        rcases p3 with ⟨_, q⟩ | ⟨⟨q, _⟩, _⟩ | ⟨q, _⟩ | q
        · obtain ⟨x, y, c1, c2, c3, d1, d2, r1, r2, r3, _⟩ := q
          exact ⟨x, y, c1, c2, c3, d1, d2, r1, r2, r3⟩
        · omega
        · omega
        · omega
      have n3 := hnu.2.2.1
      have n4 := hnu.2.2.2.1
      simp only [sumI, iw, imm] at n3 n4
      have w0 := (hC.2.2.2 i hin).1
      have w1 := (hC.2.2.2 i hin).2.2.1 hkd
      rw [show sg (b + 1 + 2) (3 * i + 0) = nI x from c1, c2]
      exact ce_doM (P := fun v t => v = none ∧ ∃ Q2 np2 gl2, stp C.tb Q (.inl i :: td, ks, nv, K) Q2 ∧ (np ≤ np2 ∧ np2 ≤ np + 2) ∧ (gl ≤ gl2 ∧ gl2 ≤ gl + 1) ∧ cPS C t b np2 gl2 Q2 (l + 4420) ∧ frS b sg t) hC hb hps hq hl hl0 hnp hgl h hv (by omega) (by omega) ⟨t1, t3⟩ ⟨i, hin, hkd, r3⟩ (Or.inl ⟨t2, t4, r2⟩) (hM3_told hC hin hkd ho hc hl9) (fun t Q2 np2 gl2 h1 h2 h3 h4 h5 => fin (Or.inr (Or.inr (Or.inr (Or.inr (Or.inr (Or.inr (Or.inr ⟨hkd, h1⟩))))))) h2 h3 h4 h5)
    · -- '|'
      have hk : k = 124 := (nI_eq (b := 124) (by omega) (by decide)).mp z
      have hkd : (C.tb i).1 = 124 := p2.trans hk
      obtain ⟨c1, c2, c3, c4⟩ : sg (b + 1 + 2) (3 * i) = nI (tbA C.tb i) ∧ sg (b + 1 + 2) (3 * i + 1) = nI (tbB C.tb i) ∧ tbA C.tb i < C.ng ∧ tbB C.tb i < C.ng := by
        rcases p3 with ⟨q, _⟩ | ⟨⟨q, _⟩, _⟩ | ⟨_, q⟩ | q
        · omega
        · omega
        · exact q
        · omega
      obtain ⟨u1, u2, u3⟩ := cNu_two hC hin (Or.inr hkd) hnu
      rw [show sg (b + 1 + 2) (3 * i + 0) = nI (tbA C.tb i) from c1, c2]
      refine (so_copy hC hbr hst (by omega) (by omega) hps h).imp ?_
      rintro _ t1 ⟨rfl, a1, a2, a3, a4⟩
      refine ⟨rfl, (so_push hC hbr (by omega) a3 a2 (i := tbA C.tb i) (Or.inl ⟨c3, rfl⟩) u2).imp ?_⟩
      rintro _ t2 ⟨rfl, d1, d2, d3, d4⟩
      have f2 : ∀ q, q ≠ b + 221 → q ≠ b + 222 → q ≠ b + 223 → t2 q = sg q := fun q h1 h2 h3 => by rw [d1 q h1 (by omega), a1 q h1 h2 (by omega)]
      have hss : scSame np gl (b + 1) (b + 1) sg t2 := scSame.of (f2 _ (by omega) (by omega) (by omega)) (f2 _ (by omega) (by omega) (by omega)) (f2 _ (by omega) (by omega) (by omega))
      have hq2 : cQ C t2 b np gl Q := cQ_frame hC hps hq ⟨Nat.le_refl _, hps.1.2.1⟩ (Nat.le_refl _) hss (fun j _ _ => by rw [f2 b (by omega) (by omega) (by omega)]) (fun q g1 g2 => f2 q (by omega) (by omega) (by omega))
      refine ⟨rfl, (ce_34 hC hb (Or.inr rfl) d3 hq2 (d2.st ⟨L, ho.pop.push _, (hCt_two hC hin (Or.inr hkd) hc).2.1, d4 _ (a4 _ hl9)⟩)).imp ?_⟩
      rintro _ t3 ⟨rfl, w1, w2⟩
      have f3 : ∀ q, (b + 1 ≤ q ∧ q ≤ b + 4) ∨ (b + 218 ≤ q ∧ q ≤ b + 220) → t3 q = sg q := fun q hh => by rw [w2.1 q (by omega) (by omega), f2 q (by omega) (by omega) (by omega)]
      obtain ⟨k1, k2⟩ := so_keep hC b5 hps h f3
      refine ⟨rfl, (so_push hC hst (by omega) k2 k1 (i := tbB C.tb i) (Or.inl ⟨c4, rfl⟩) u3).imp ?_⟩
      rintro _ t4 ⟨rfl, g1, g2, g3, g9⟩
      have hss4 : scSame np gl (b + 1) (b + 1) t3 t4 := scSame.of (g1 _ (by omega) (by omega)) (g1 _ (by omega) (by omega)) (g1 _ (by omega) (by omega))
      have hq4 := cQ_frame hC k2 w1 ⟨Nat.le_refl _, hps.1.2.1⟩ (Nat.le_refl _) hss4 (fun j _ _ => by rw [g1 b (by omega) (by omega)]) (fun q z1 z2 => g1 q (by omega) (by omega))
      refine ⟨rfl, (ce_34 hC hb (Or.inl rfl) g3 hq4 (g2.st ⟨L, ho.pop.push _, (hCt_two hC hin (Or.inr hkd) hc).2.2, g9 _ (hLk_move (X := (td, ks, nv, K)) hps h (scSame.of (f3 _ (by omega)) (f3 _ (by omega)) (f3 _ (by omega))) (fun j _ => by rw [f3 _ (by omega)]) hl9)⟩)).imp ?_⟩
      rintro _ t5 ⟨rfl, x1, x2⟩
      have fl : ∀ q, q ≤ 5 → t5 q = sg q := fun q hh => by rw [x2.1 q (by omega) (by omega), g1 q (by omega) (by omega), w2.1 q (by omega) (by omega), f2 q (by omega) (by omega) (by omega)]
      refine ⟨rfl, fin (Or.inr (Or.inr (Or.inr (Or.inl ⟨hkd, rfl⟩)))) le0 gl0 ⟨scF g3 (fun q z1 z2 => x2.1 q (by omega) (by omega)), x1, l, snF hl (fl 1 (by omega)) (fl 5 (by omega)), by omega⟩ ⟨fun q z1 z2 => by rw [x2.1 q (by omega) (by omega), g1 q (by omega) (by omega), w2.1 q (by omega) (by omega), f2 q (by omega) (by omega) (by omega)], fun j z1 z2 => by rw [x2.2 j z1 z2, g1 b (by omega) (by omega), w2.2 j z1 z2, f2 b (by omega) (by omega) (by omega)], fun j _ => by rw [x2.1 (b + 1) (by omega) (by omega), g1 (b + 1) (by omega) (by omega), w2.1 (b + 1) (by omega) (by omega), f2 (b + 1) (by omega) (by omega) (by omega)]⟩⟩
    · -- '!'
      have hk : k = 33 := by
        obtain ⟨z1, z2, z3, z4, z5, z6, z7⟩ := z
        have y1 : k ≠ 35 := fun e => z1 (by rw [e]; rfl)
        have y2 : k ≠ 38 := fun e => z2 (by rw [e]; rfl)
        have y3 : k ≠ 42 := fun e => z3 (by rw [e]; rfl)
        have y4 : k ≠ 61 := fun e => z4 (by rw [e]; rfl)
        have y5 : k ≠ 65 := fun e => z5 (by rw [e]; rfl)
        have y6 : k ≠ 77 := fun e => z6 (by rw [e]; rfl)
        have y7 : k ≠ 124 := fun e => z7 (by rw [e]; rfl)
        rcases p3 with ⟨q, _⟩ | ⟨⟨q, _⟩, _⟩ | ⟨q, _⟩ | q <;> omega
      exact fin (Or.inr (Or.inr (Or.inr (Or.inr (Or.inr (Or.inl ⟨p2.trans hk, rfl⟩)))))) le0 gl0 ⟨hps, hq, l, hl, by omega⟩ frS.rfl'
  · rcases hu with ⟨hA, e1, t, y, u, f, p1, p2, p3, p4, p5, p6, p7, rfl, p8⟩ | ⟨e1, x, t, f, p1, p2, p3, p4, p5, rfl, p9⟩
    · rw [e1, show sg (b + 1 + 2) (3 * i + 0) = nI t from p1, p2]
      have hw : sumI (iw C) td + 1 ≤ 26 := by
        have n4 := hnu.2.2.2.1
        simp only [sumI, iw] at n4
        omega
      refine ⟨_, rfl, fun z => absurd z (by decide), fun z => absurd z (by decide), fun z => absurd z (by decide), fun z => absurd z (by decide), fun _ => ?_, fun z => absurd z (by decide), fun z => absurd z (by decide), fun z => absurd rfl z.2.2.2.2.1⟩
      exact ce_doA (P := fun v w => v = none ∧ ∃ Q2 np2 gl2, stp C.tb Q (.inr (true, vr t, f, vr u) :: td, ks, nv, K) Q2 ∧ (np ≤ np2 ∧ np2 ≤ np + 2) ∧ (gl ≤ gl2 ∧ gl2 ≤ gl + 1) ∧ cPS C w b np2 gl2 Q2 (l + 4420) ∧ frS b sg w) hC hb hps hq hl hl0 hnp hgl h hv hA hw hgi p3 (Or.inr ⟨p4.1, p4.2, rfl⟩) ⟨p6, p7, p8⟩ (Or.inr ⟨p5.1, p5.2, rfl⟩) (hA3_item ho hc hl9) (fun t Q2 np2 gl2 h1 h2 h3 h4 h5 => ⟨rfl, Q2, np2, gl2, h1, h2, h3, h4, h5⟩)
    · rw [e1, show sg (b + 1 + 2) (3 * i + 0) = nI x from p1, p2]
      have n3 := hnu.2.2.1
      have n4 := hnu.2.2.2.1
      simp only [sumI, iw, imm] at n3 n4
      refine ⟨_, rfl, fun z => absurd z (by decide), fun z => absurd z (by decide), fun z => absurd z (by decide), fun z => absurd z (by decide), fun z => absurd z (by decide), fun _ => ?_, fun z => absurd z (by decide), fun z => absurd rfl z.2.2.2.2.2.1⟩
      exact ce_doM (P := fun v w => v = none ∧ ∃ Q2 np2 gl2, stp C.tb Q (.inr (false, f, vr t, atm 10) :: td, ks, nv, K) Q2 ∧ (np ≤ np2 ∧ np2 ≤ np + 2) ∧ (gl ≤ gl2 ∧ gl2 ≤ gl + 1) ∧ cPS C w b np2 gl2 Q2 (l + 4420) ∧ frS b sg w) hC hb hps hq hl hl0 hnp hgl h hv (by omega) (by omega) ⟨p4, p5⟩ p9 (Or.inr ⟨p3.1, p3.2, rfl⟩) (hM3_item ho hc hl9) (fun t Q2 np2 gl2 h1 h2 h3 h4 h5 => ⟨rfl, Q2, np2, gl2, h1, h2, h3, h4, h5⟩)
