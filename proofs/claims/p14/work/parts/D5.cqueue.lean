/-! THE CLASS: a search stands for an abstract one -/
def cQ (C : Cf) (sg : rSg) (b np gl : Nat) (Q : Qx) : Prop := ∃ h, (sg b 7 = nI h ∧ h < 40) ∧ (sg b 8 = nI Q.1.length ∧ Q.1.length ≤ 40) ∧ sg b 9 = nI Q.2.2.1 ∧ (sg b 10 = nI Q.2.1.length ∧ Q.2.1.length ≤ 30) ∧ sg b 11 = nI Q.2.2.2.1 ∧ sg b 12 = nI Q.2.2.2.2 ∧ (∀ (i : Nat) X, Q.1[i]? = some X → cSt C sg (b + 1) (b + 6 + 3 * ((h + i) % 40)) np gl X ∧ X.2.2.1 ≤ 60) ∧ (∀ (i n : Nat) X, Q.2.1[i]? = some (n, X) → cSt C sg (b + 1) (b + 127 + 3 * i) np gl X ∧ X.2.2.1 ≤ 60 ∧ sg (b + 217) i = nI n)
theorem cSc_same {C : Cf} {sg t : rSg} {s np gl np2 gl2 : Nat} (h : cSc C sg s np gl) (hss : scSame np gl s s sg t) (h3 : t s 3 = nI gl2) (h4 : t s 4 = nI np2) (hn : np ≤ np2 ∧ np2 ≤ 640) (hg : gl ≤ gl2 ∧ gl2 ≤ 326) : cSc C t s np2 gl2 := by
  obtain ⟨h1, h2, h5, h6, h7⟩ := h
  exact ⟨⟨by omega, by omega, by omega, by omega⟩, h3, h4, cTo_same h6 (fun j hj => hss.1 j (by omega)), cTab_same h6 (by omega) ⟨fun j hj => hss.1 j (by omega), fun j hj => hss.2.1 j (by omega), fun j hj => hss.2.2 j (by omega)⟩ h7⟩
theorem cSt_frame {C : Cf} {sg t : rSg} {s k np np2 gl gl2 : Nat} {X : Sx} (hC : cfOK C) (hsc : cSc C sg s np gl) (h : cSt C sg s k np gl X) (hn : np ≤ np2 ∧ np2 ≤ 640) (hg : gl ≤ gl2) (hss : scSame np gl s s sg t) (h1 : t k = sg k) (h2 : t (k + 1) = sg (k + 1)) (h3 : t (k + 2) = sg (k + 2)) : cSt C t s k np2 gl2 X :=
  cSt_move hsc h hn.1 hn.2 hg hss (by rw [h1]) (by rw [h1]) (by rw [h1]) (fun j _ => by rw [h2]) (fun j _ _ _ _ => by rw [h3]) hC
theorem cQ_frame {C : Cf} {sg t : rSg} {b np np2 gl gl2 : Nat} {Q : Qx} (hC : cfOK C) (hsc : cSc C sg (b + 1) np gl) (h : cQ C sg b np gl Q) (hn : np ≤ np2 ∧ np2 ≤ 640) (hg : gl ≤ gl2) (hss : scSame np gl (b + 1) (b + 1) sg t) (hb : ∀ j, 7 ≤ j → j ≤ 12 → t b j = sg b j) (hq : ∀ q, b + 6 ≤ q → q ≤ b + 217 → t q = sg q) : cQ C t b np2 gl2 Q := by
  obtain ⟨hh, h1, h2, h3, h4, h5, h6, h7, h8⟩ := h
  refine ⟨hh, by rw [hb 7 (by decide) (by decide)]; exact h1, by rw [hb 8 (by decide) (by decide)]; exact h2, by rw [hb 9 (by decide) (by decide)]; exact h3, by rw [hb 10 (by decide) (by decide)]; exact h4, by rw [hb 11 (by decide) (by decide)]; exact h5, by rw [hb 12 (by decide) (by decide)]; exact h6, fun i X hi => ?_, fun i n X hi => ?_⟩
  · obtain ⟨g1, g2⟩ := h7 i X hi
    have : (hh + i) % 40 < 40 := Nat.mod_lt _ (by decide)
    exact ⟨cSt_frame hC hsc g1 hn hg hss (hq _ (by omega) (by omega)) (hq _ (by omega) (by omega)) (hq _ (by omega) (by omega)), g2⟩
  · obtain ⟨g1, g2, g3⟩ := h8 i n X hi
    have hl : i < Q.2.1.length := by
      obtain ⟨q, _⟩ := List.getElem?_eq_some_iff.mp hi
      exact q
    have := h4.2
    exact ⟨cSt_frame hC hsc g1 hn hg hss (hq _ (by omega) (by omega)) (hq _ (by omega) (by omega)) (hq _ (by omega) (by omega)), g2, by rw [hq _ (by omega) (by omega)]; exact g3⟩
theorem cSt_len {C : Cf} (hC : cfOK C) {sg : rSg} {s k np gl : Nat} {X : Sx} (h : cSt C sg s k np gl X) : ∃ n, sg k 3 = nI n ∧ n = X.1.length ∧ n ≤ 26 := by
  obtain ⟨fs, ms, H, gs, e1, e2, e3, e4, e5, e6, e7, _⟩ := h
  have a1 := cIts_len e4
  have a2 := sumI_len hC e4
  have a3 := e7.2.2.2.1
  exact ⟨gs.length, e2, a1, by omega⟩
/-- what a part of a step with the state at k changes -/
def fr5 (b k : Nat) (sg t : rSg) : Prop := (∀ q, (q = 0 ∨ 5 < q) → q ≠ b → ¬ (b + 6 ≤ q ∧ q ≤ b + 125) → q ≠ k → q ≠ k + 1 → t q = sg q) ∧ (∀ j, j ≠ 8 → j ≠ 11 → t b j = sg b j)
def fr4 (b : Nat) (sg t : rSg) : Prop := (∀ q, q ≠ b → ¬ (b + 6 ≤ q ∧ q ≤ b + 125) → t q = sg q) ∧ (∀ j, j ≠ 8 → j ≠ 11 → t b j = sg b j)
/-- a state goes behind THE QUEUE -/
theorem ce_34 {C : Cf} (hC : cfOK C) {b : Nat} (hb : isSeaA rSkel b) {k : Nat} (hk : k = b + 218 ∨ k = b + 221) {sg : rSg} {np gl : Nat} (hsc : cSc C sg (b + 1) np gl) {Q : Qx} (hq : cQ C sg b np gl Q) {X : Sx} (hx : cSt C sg (b + 1) k np gl X) : EvS rSkel 2 34 [.inr (.inr (some b)), .inr (.inr (some k))] sg (fun v t => v = none ∧ cQ C t b np gl (enq Q X) ∧ fr4 b sg t) := by
  have b5 : 5 < b := hb.1.1
  have hst : isSt k := by
    rcases hk with rfl | rfl
    · exact hb.1.2.2.2.2.2.2.1
    · exact hb.1.2.2.2.2.2.2.2
  obtain ⟨hh, h7, h8, h9, h10, h11, h12, hw, ha⟩ := id hq
  obtain ⟨n, en, _, n26⟩ := cSt_len hC hx
  obtain ⟨fs, ms, H, gs, e2, e3, e4, e5, e6, e7, e8⟩ := id hx
  have hnv := e7.2.1.1
  have lost : cQ C (up2 sg b 11 (sg b 11 + 1)) b np gl (Q.1, Q.2.1, Q.2.2.1, Q.2.2.2.1 + 1, Q.2.2.2.2) ∧ fr4 b sg (up2 sg b 11 (sg b 11 + 1)) := by
    have f1 : ∀ q, q ≠ b → (up2 sg b 11 (sg b 11 + 1)) q = sg q := fun q h => up2_nk _ _ _ h
    have f2 : ∀ j, j ≠ 11 → (up2 sg b 11 (sg b 11 + 1)) b j = sg b j := fun j h => up2_nj _ _ _ h
    have f3 : (up2 sg b 11 (sg b 11 + 1)) b 11 = nI (Q.2.2.2.1 + 1) := by rw [up2_same, h11, nI_1]
    generalize up2 sg b 11 (sg b 11 + 1) = t at f1 f2 f3
    refine ⟨⟨hh, by rw [f2 7 (by decide)]; exact h7, by rw [f2 8 (by decide)]; exact h8, by rw [f2 9 (by decide)]; exact h9, by rw [f2 10 (by decide)]; exact h10, f3, by rw [f2 12 (by decide)]; exact h12, fun i Y hi => ?_, fun i m Y hi => ?_⟩, ⟨fun q g2 g3 => f1 q g2, fun j g1 g2 => f2 j g2⟩⟩
    · obtain ⟨g1, g2⟩ := hw i Y hi
      exact ⟨cSt_frame hC hsc g1 ⟨Nat.le_refl _, hsc.1.2.1⟩ (Nat.le_refl _) (scSame.of (f1 _ (by omega)) (f1 _ (by omega)) (f1 _ (by omega))) (f1 _ (by omega)) (f1 _ (by omega)) (f1 _ (by omega)), g2⟩
    · obtain ⟨g1, g2, g3⟩ := ha i m Y hi
      exact ⟨cSt_frame hC hsc g1 ⟨Nat.le_refl _, hsc.1.2.1⟩ (Nat.le_refl _) (scSame.of (f1 _ (by omega)) (f1 _ (by omega)) (f1 _ (by omega))) (f1 _ (by omega)) (f1 _ (by omega)) (f1 _ (by omega)), g2, by rw [f1 _ (by omega)]; exact g3⟩
  by_cases hv : 60 < X.2.2.1 ∨ 40 ≤ Q.1.length
  · have he : enq Q X = (Q.1, Q.2.1, Q.2.2.1, Q.2.2.2.1 + 1, Q.2.2.2.2) := by
      unfold enq
      rw [if_pos hv]
    rw [he]
    refine w_34 sg b hb.1 k hst ⟨fun _ => ⟨rfl, lost⟩, fun q1 => ⟨fun q2 => ?_, fun _ => ⟨rfl, lost⟩⟩⟩
    exfalso
    rw [e2] at q1
    rw [h8.1] at q2
    have z2 : Q.1.length < 40 := (nI_ltI (by omega) (b := 40) (by decide)).mp q2
    have z1 : ¬ 60 < X.2.2.1 := fun q => q1 ((nI_ltI (a := 60) (by decide) (by omega)).mpr q)
    omega
  · have he : enq Q X = (Q.1 ++ [X], Q.2) := by
      unfold enq
      rw [if_neg hv]
    rw [he]
    have hv1 : X.2.2.1 ≤ 60 := by omega
    have hn1 : Q.1.length < 40 := by omega
    refine (c_enqueue_in hb hst sg (h := hh) (n := Q.1.length) (v := X.2.2.1) (t := n) h7.1 h7.2 h8.1 hn1 e2 hv1 en (by omega) (fun i hi => by omega) (by omega)).imp ?_
    rintro _ t ⟨rfl, q, hqq, d1, d2, d3, d4, d5, d6, d7, d8, d9⟩
    have hm : (hh + Q.1.length) % 40 < 40 := Nat.mod_lt _ (by decide)
    have hss : scSame np gl (b + 1) (b + 1) sg t := scSame.of (d1 _ (by omega) (by omega) (by omega) (by omega)) (d1 _ (by omega) (by omega) (by omega) (by omega)) (d1 _ (by omega) (by omega) (by omega) (by omega))
    refine ⟨rfl, ⟨hh, by rw [d2 7 (by decide)]; exact h7, ⟨by rw [d3]; simp, by simp; omega⟩, by rw [d2 9 (by decide)]; exact h9, by rw [d2 10 (by decide)]; exact h10, by rw [d2 11 (by decide)]; exact h11, by rw [d2 12 (by decide)]; exact h12, fun i Y hi => ?_, fun i m Y hi => ?_⟩, ⟨fun j g2 g3 => d1 j g2 (by omega) (by omega) (by omega), fun j g1 g2 => d2 j g1⟩⟩
    · by_cases hil : i < Q.1.length
      · rw [List.getElem?_append_left hil] at hi
        obtain ⟨g1, g2⟩ := hw i Y hi
        have hm2 : (hh + i) % 40 < 40 := Nat.mod_lt _ (by decide)
        have hne : (hh + i) % 40 ≠ (hh + Q.1.length) % 40 := by omega
        exact ⟨cSt_frame hC hsc g1 ⟨Nat.le_refl _, hsc.1.2.1⟩ (Nat.le_refl _) hss (d1 _ (by omega) (by omega) (by omega) (by omega)) (d1 _ (by omega) (by omega) (by omega) (by omega)) (d1 _ (by omega) (by omega) (by omega) (by omega)), g2⟩
      · rw [List.getElem?_append_right (by omega)] at hi
        have hi0 : i = Q.1.length := by
          obtain ⟨z, _⟩ := List.getElem?_eq_some_iff.mp hi
          simp at z
          omega
        subst hi0
        simp at hi
        subst hi
        rw [← hqq]
        exact ⟨cSt_move hsc hx (Nat.le_refl _) hsc.1.2.1 (Nat.le_refl _) hss (by rw [d4, e2]) (by rw [d5, en]) d6 d7 (fun j m hm1 hm2 hj => by
          rw [en] at hm1
          have := (nI_eq (by omega) (by omega)).mp hm1
          exact d9 j (by omega)) hC, hv1⟩
    · obtain ⟨g1, g2, g3⟩ := ha i m Y hi
      have hl : i < Q.2.1.length := by
        obtain ⟨z, _⟩ := List.getElem?_eq_some_iff.mp hi
        exact z
      have := h10.2
      exact ⟨cSt_frame hC hsc g1 ⟨Nat.le_refl _, hsc.1.2.1⟩ (Nat.le_refl _) hss (d1 _ (by omega) (by omega) (by omega) (by omega)) (d1 _ (by omega) (by omega) (by omega) (by omega)) (d1 _ (by omega) (by omega) (by omega) (by omega)), g2, by rw [d1 _ (by omega) (by omega) (by omega) (by omega)]; exact g3⟩
