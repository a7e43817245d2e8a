/-! THE CLASS: a search is copied -/
def stc (sg t : rSg) (k k2 : Nat) : Prop := t k2 2 = sg k 2 ∧ t k2 3 = sg k 3 ∧ t k2 4 = sg k 4 ∧ (∀ v, sg k 2 = nI v → v ≤ 64 → ∀ j, j < v → t (k2 + 1) j = sg (k + 1) j) ∧ (∀ n, sg k 3 = nI n → n ≤ 32 → ∀ j, j < n → t (k2 + 2) j = sg (k + 2) j)
theorem stc.ext {sg t u : rSg} {k k2 : Nat} (h : stc sg t k k2) (e0 : u k2 = t k2) (e1 : u (k2 + 1) = t (k2 + 1)) (e2 : u (k2 + 2) = t (k2 + 2)) : stc sg u k k2 := by
  obtain ⟨h1, h2, h3, h4, h5⟩ := h
  exact ⟨by rw [e0]; exact h1, by rw [e0]; exact h2, by rw [e0]; exact h3, fun v a b j c => by rw [e1]; exact h4 v a b j c, fun v a b j c => by rw [e2]; exact h5 v a b j c⟩
theorem ce_53c {k k2 : Nat} (hk : isSt k) (hk2 : isSt k2) (hkk : k + 2 < k2 ∨ k2 + 2 < k) {sg : rSg} {v n : Nat} (hv : sg k2 2 = nI v) (hv9 : v ≤ 64) (hn : sg k2 3 = nI n) (hn9 : n ≤ 32) : EvS rSkel 1 53 [.inr (.inr (some k)), .inr (.inr (some k2))] sg (fun r t => r = none ∧ stc sg t k2 k ∧ ∀ q, q ≠ k → q ≠ k + 1 → q ≠ k + 2 → t q = sg q) := by
  refine (c_copy hk hk2 hkk sg hv hv9 hn hn9).imp ?_
  rintro _ t ⟨rfl, h1, h2, h3, h4, h5, h6, h7, h8⟩
  refine ⟨rfl, ⟨by rw [h2, hv], by rw [h3, hn], h4, fun v2 e b j hj => ?_, fun n2 e b j hj => ?_⟩, h1⟩
  · rw [hv] at e
    have := (nI_eq (by omega) (by omega)).mp e
    exact h5 j (by omega)
  · rw [hn] at e
    have := (nI_eq (by omega) (by omega)).mp e
    exact h7 j (by omega)
section CP
variable {b b2 : Nat}
theorem ce_49a (hb : isSeaA rSkel b) (hb2 : isSeaA rSkel b2) (hbb : b + 223 < b2 ∨ b2 + 223 < b) {sg t0 : rSg} {h n : Nat} (hh : sg b2 7 = nI h) (h40 : h < 40) (hn : n ≤ 40) (t7 : t0 b 7 = nI 0) (t8 : t0 b 8 = nI n) (hf : ∀ q, q < b ∨ b + 223 < q → t0 q = sg q) (hsz : ∀ i, i < n → ∃ v m, sg (b2 + 6 + 3 * ((h + i) % 40)) 2 = nI v ∧ v ≤ 64 ∧ sg (b2 + 6 + 3 * ((h + i) % 40)) 3 = nI m ∧ m ≤ 32) {P : Option rv → rSg → Prop} (hP : ∀ t, (∀ q, ¬ (b + 6 ≤ q ∧ q ≤ b + 125) → t q = t0 q) → (∀ i, i < n → stc sg t (b2 + 6 + 3 * ((h + i) % 40)) (b + 6 + 3 * i)) → g_49_105 b b2 0 t P) : ∀ (m y : Nat) (t : rSg), y + m = n → (∀ q, ¬ (b + 6 ≤ q ∧ q ≤ b + 125) → t q = t0 q) → (∀ i, i < y → stc sg t (b2 + 6 + 3 * ((h + i) % 40)) (b + 6 + 3 * i)) → g_49_76 b b2 (nI y) t P := by
  intro m
  induction m with
  | zero =>
    intro y t hy h1 h2
    obtain rfl : y = n := by omega
    refine w_49_76 t b hb.1 b2 hb2.1 hbb _ ⟨fun _ => hP t h1 h2, fun q => absurd ?_ q⟩
    rw [h1 b (by omega), t8]
    exact nI_le (by omega) (by omega)
  | succ m ih =>
    intro y t hy h1 h2
    have tb : t b = t0 b := h1 b (by omega)
    have tb2 : ∀ q, b2 ≤ q → q ≤ b2 + 223 → t q = sg q := fun q g1 g2 => by rw [h1 q (by omega), hf q (by omega)]
    refine w_49_76 t b hb.1 b2 hb2.1 hbb _ ⟨fun q => absurd ?_ (show ¬ n ≤ y by omega), fun _ => (c_waitingAt hb t (h := 0) (i := y) (by rw [tb]; exact t7) (by omega)).imp ?_⟩
    · rw [tb, t8] at q
      exact (nI_leI (by omega) (by omega)).mp q
    · rintro _ t' ⟨rfl, rfl⟩
      have ey : (0 + y) % 40 = y := by omega
      rw [ey]
      refine ⟨_, rfl, hb.2.1 y (by omega), (c_waitingAt hb2 t' (h := h) (i := y) (by rw [tb2 b2 (by omega) (by omega)]; exact hh) (by omega)).imp ?_⟩
      rintro _ t'' ⟨rfl, rfl⟩
      have hm : (h + y) % 40 < 40 := Nat.mod_lt _ (by decide)
      obtain ⟨v, mm, s1, s2, s3, s4⟩ := hsz y (by omega)
      refine ⟨_, rfl, hb2.2.1 _ hm, (ce_53c (hb.2.1 y (by omega)) (hb2.2.1 _ hm) (by omega) (sg := t'') (v := v) (n := mm) (by rw [tb2 _ (by omega) (by omega)]; exact s1) s2 (by rw [tb2 _ (by omega) (by omega)]; exact s3) s4).imp ?_⟩
      rintro _ u ⟨rfl, c1, c2⟩
      rw [nI_1]
      refine ⟨rfl, ih (y + 1) u (by omega) (fun q hq => by rw [c2 q (by omega) (by omega) (by omega)]; exact h1 q hq) (fun i hi => ?_)⟩
      by_cases e : i = y
      · subst e
        obtain ⟨g1, g2, g3, g4, g5⟩ := c1
        have f0 := tb2 (b2 + 6 + 3 * ((h + i) % 40)) (by omega) (by omega)
        have f1 := tb2 (b2 + 6 + 3 * ((h + i) % 40) + 1) (by omega) (by omega)
        have f2 := tb2 (b2 + 6 + 3 * ((h + i) % 40) + 2) (by omega) (by omega)
        rw [f0] at g1 g2 g3 g4 g5
        rw [f1] at g4
        rw [f2] at g5
        exact ⟨g1, g2, g3, g4, g5⟩
      · exact (h2 i (by omega)).ext (c2 _ (by omega) (by omega) (by omega)) (c2 _ (by omega) (by omega) (by omega)) (c2 _ (by omega) (by omega) (by omega))
theorem ce_49b (hb : isSeaA rSkel b) (hb2 : isSeaA rSkel b2) (hbb : b + 223 < b2 ∨ b2 + 223 < b) {sg t0 : rSg} {n : Nat} (hn : n ≤ 30) (t10 : t0 b 10 = nI n) (hf : ∀ q, q < b ∨ b + 223 < q → t0 q = sg q) (hsz : ∀ i, i < n → ∃ v m, sg (b2 + 127 + 3 * i) 2 = nI v ∧ v ≤ 64 ∧ sg (b2 + 127 + 3 * i) 3 = nI m ∧ m ≤ 32) {P : Option rv → rSg → Prop} (hP : ∀ t, (∀ q, ¬ (b + 127 ≤ q ∧ q ≤ b + 217) → t q = t0 q) → (∀ i, i < n → stc sg t (b2 + 127 + 3 * i) (b + 127 + 3 * i) ∧ t (b + 217) i = sg (b2 + 217) i) → P none t) : ∀ (m y : Nat) (t : rSg), y + m = n → (∀ q, ¬ (b + 127 ≤ q ∧ q ≤ b + 217) → t q = t0 q) → (∀ i, i < y → stc sg t (b2 + 127 + 3 * i) (b + 127 + 3 * i) ∧ t (b + 217) i = sg (b2 + 217) i) → g_49_105 b b2 (nI y) t P := by
  intro m
  induction m with
  | zero =>
    intro y t hy h1 h2
    obtain rfl : y = n := by omega
    refine w_49_105 t b hb.1 b2 hb2.1 hbb _ ⟨fun _ => hP t h1 h2, fun q => absurd ?_ q⟩
    rw [h1 b (by omega), t10]
    exact nI_le (by omega) (by omega)
  | succ m ih =>
    intro y t hy h1 h2
    have tb : t b = t0 b := h1 b (by omega)
    have tb2 : ∀ q, b2 ≤ q → q ≤ b2 + 223 → t q = sg q := fun q g1 g2 => by rw [h1 q (by omega), hf q (by omega)]
    refine w_49_105 t b hb.1 b2 hb2.1 hbb _ ⟨fun q => absurd ?_ (show ¬ n ≤ y by omega), fun _ => (ce_40 hb t (i := y) (by omega)).imp ?_⟩
    · rw [tb, t10] at q
      exact (nI_leI (by omega) (by omega)).mp q
    · rintro _ t' ⟨rfl, rfl⟩
      refine ⟨_, rfl, hb.2.2 y (by omega), (ce_40 hb2 t' (i := y) (by omega)).imp ?_⟩
      rintro _ t'' ⟨rfl, rfl⟩
      obtain ⟨v, mm, s1, s2, s3, s4⟩ := hsz y (by omega)
      refine ⟨_, rfl, hb2.2.2 y (by omega), (ce_53c (hb.2.2 y (by omega)) (hb2.2.2 y (by omega)) (by omega) (sg := t'') (v := v) (n := mm) (by rw [tb2 _ (by omega) (by omega)]; exact s1) s2 (by rw [tb2 _ (by omega) (by omega)]; exact s3) s4).imp ?_⟩
      rintro _ u ⟨rfl, c1, c2⟩
      have r := rIn_nI (t := y) (n := 30) (by omega) (by decide)
      rw [nI_1, nI_clamp (by omega)]
      have e17 : u (b2 + 217) y = sg (b2 + 217) y := by rw [c2 _ (by omega) (by omega) (by omega), tb2 _ (by omega) (by omega)]
      rw [e17]
      refine ⟨rfl, r, r, ih (y + 1) _ (by omega) (fun q hq => by rw [up2_nk _ _ _ (by omega), c2 q (by omega) (by omega) (by omega)]; exact h1 q hq) (fun i hi => ?_)⟩
      by_cases e : i = y
      · subst e
        obtain ⟨g1, g2, g3, g4, g5⟩ := c1
        have f0 := tb2 (b2 + 127 + 3 * i) (by omega) (by omega)
        have f1 := tb2 (b2 + 127 + 3 * i + 1) (by omega) (by omega)
        have f2 := tb2 (b2 + 127 + 3 * i + 2) (by omega) (by omega)
        rw [f0] at g1 g2 g3 g4 g5
        rw [f1] at g4
        rw [f2] at g5
        exact ⟨stc.ext (t := u) ⟨g1, g2, g3, g4, g5⟩ (up2_nk _ _ _ (by omega)) (up2_nk _ _ _ (by omega)) (up2_nk _ _ _ (by omega)), up2_same _ _ _ _⟩
      · have y1 := h2 i (by omega)
        refine ⟨(y1.1.ext (u := u) (c2 _ (by omega) (by omega) (by omega)) (c2 _ (by omega) (by omega) (by omega)) (c2 _ (by omega) (by omega) (by omega))).ext (up2_nk _ _ _ (by omega)) (up2_nk _ _ _ (by omega)) (up2_nk _ _ _ (by omega)), ?_⟩
        rw [up2_nj _ _ _ e, c2 _ (by omega) (by omega) (by omega)]
        exact y1.2
/-- a search is copied: it stands for the same -/
theorem ce_49 {C : Cf} (hC : cfOK C) (hb : isSeaA rSkel b) (hb2 : isSeaA rSkel b2) (hbb : b + 223 < b2 ∨ b2 + 223 < b) {sg : rSg} {Q : Qx} {top nT : Nat} (h : cSe C sg b2 Q) (hT : scT C sg (b2 + 1) top nT) : EvS rSkel 3 49 [.inr (.inr (some b)), .inr (.inr (some b2))] sg (fun v t => v = none ∧ cSe C t b Q ∧ scT C t (b + 1) top nT ∧ ∀ q, q < b ∨ b + 223 < q → t q = sg q) := by
  obtain ⟨np, gl, hsc, ⟨hd, h7, h8, h9, h10, h11, h12, hw, ha⟩, k1, k2, k3⟩ := h
  obtain ⟨t5, t6, t7, t8, hto, htab, hz⟩ := hT
  have b5 : 5 < b := hb.1.1
  refine w_49 sg b hb.1 b2 hb2.1 hbb (w_31 sg (b + 1) hb.1.2.2.2.2.2.1 (b2 + 1) hb2.1.2.2.2.2.2.1 (by omega) ?_)
  rw [hsc.2.1, hsc.2.2.1]
  refine (ce_27 hb.1.2.2.2.2.2.1 hb2.1.2.2.2.2.2.1 (by omega) sg (g := gl) (n := np) hsc.1.2.2.2 hsc.1.2.1).imp ?_
  rintro _ u ⟨rfl, u1, u3, u4, u5, u6⟩
  have ub2 : u b2 = sg b2 := u6 b2 (by omega) (by omega) (by omega) (by omega)
  rw [ub2, h8.1, h9, h10.1, h11, h12, show imin (imax (nI Q.1.length) 0) 40 = nI Q.1.length from imin_nI (m := 40) h8.2 (by decide), show imin (imax (nI Q.2.1.length) 0) 30 = nI Q.2.1.length from imin_nI (m := 30) h10.2 (by decide)]
  generalize ew : up2 (up2 (up2 (up2 (up2 (up2 u b 7 0) b 8 (nI Q.1.length)) b 9 (nI Q.2.2.1)) b 10 (nI Q.2.1.length)) b 11 (nI Q.2.2.2.1)) b 12 (nI Q.2.2.2.2) = w
  have w0 : ∀ q, q ≠ b → w q = u q := fun q hq => by rw [← ew, up2_nk _ _ _ hq, up2_nk _ _ _ hq, up2_nk _ _ _ hq, up2_nk _ _ _ hq, up2_nk _ _ _ hq, up2_nk _ _ _ hq]
  have w7 : w b 7 = nI 0 := by rw [← ew, up2_nj _ _ _ (by decide), up2_nj _ _ _ (by decide), up2_nj _ _ _ (by decide), up2_nj _ _ _ (by decide), up2_nj _ _ _ (by decide), up2_same]; rfl
  have w8 : w b 8 = nI Q.1.length := by rw [← ew, up2_nj _ _ _ (by decide), up2_nj _ _ _ (by decide), up2_nj _ _ _ (by decide), up2_nj _ _ _ (by decide), up2_same]
  have w9 : w b 9 = nI Q.2.2.1 := by rw [← ew, up2_nj _ _ _ (by decide), up2_nj _ _ _ (by decide), up2_nj _ _ _ (by decide), up2_same]
  have w10 : w b 10 = nI Q.2.1.length := by rw [← ew, up2_nj _ _ _ (by decide), up2_nj _ _ _ (by decide), up2_same]
  have w11 : w b 11 = nI Q.2.2.2.1 := by rw [← ew, up2_nj _ _ _ (by decide), up2_same]
  have w12 : w b 12 = nI Q.2.2.2.2 := by rw [← ew, up2_same]
  have wf : ∀ q, q < b ∨ b + 223 < q → w q = sg q := fun q hq => by rw [w0 q (by omega), u6 q (by omega) (by omega) (by omega) (by omega)]
  have sz : ∀ {k : Nat} {X : Sx}, cSt C sg (b2 + 1) k np gl X → X.2.2.1 ≤ 60 → ∃ v m, sg k 2 = nI v ∧ v ≤ 64 ∧ sg k 3 = nI m ∧ m ≤ 32 := fun {k X} hX hv => by
    obtain ⟨m, m1, _, m3⟩ := cSt_len hC hX
    obtain ⟨fs, ms, H, gs, e1, _⟩ := hX
    exact ⟨_, m, e1, by omega, m1, by omega⟩
  refine ⟨rfl, rfl, ce_49a hb hb2 hbb (sg := sg) (t0 := w) (h := hd) (n := Q.1.length) h7.1 h7.2 h8.2 w7 w8 wf (fun i hi => ?_) (fun t a1 a2 => ?_) Q.1.length 0 w (by omega) (fun _ _ => rfl) (fun i hi => absurd hi (by omega))⟩
  · obtain ⟨g1, g2⟩ := hw i _ (List.getElem?_eq_getElem hi)
    exact sz g1 g2
  refine ce_49b hb hb2 hbb (sg := sg) (t0 := t) (n := Q.2.1.length) h10.2 (by rw [a1 b (by omega)]; exact w10) (fun q hq => by rw [a1 q (by omega)]; exact wf q hq) (fun i hi => ?_) (fun v c1 c2 => ?_) Q.2.1.length 0 t (by omega) (fun _ _ => rfl) (fun i hi => absurd hi (by omega))
  · obtain ⟨g1, g2, _⟩ := ha i _ _ (List.getElem?_eq_getElem hi)
    exact sz g1 g2
  have vs : ∀ q, b ≤ q → q < b + 6 → v q = w q := fun q g1 g2 => by rw [c1 q (by omega), a1 q (by omega)]
  have hss : scSame np gl (b2 + 1) (b + 1) sg v := ⟨fun j hj => by rw [vs _ (by omega) (by omega), w0 _ (by omega)]; exact u1.1 j hj, fun j hj => by rw [vs _ (by omega) (by omega), w0 _ (by omega)]; exact u1.2.1 j hj, fun j hj => by rw [vs _ (by omega) (by omega), w0 _ (by omega)]; exact u1.2.2 j hj⟩
  have htn := hsc.1.1
  have hgn := hsc.1.2.2.1
  have hss2 : scSame C.tp C.ng (b2 + 1) (b + 1) sg v := ⟨fun j hj => hss.1 j (by omega), fun j hj => hss.2.1 j (by omega), fun j hj => hss.2.2 j (by omega)⟩
  have hn9 := hsc.1.2.1
  have vf : ∀ j, v (b + 1) j = u (b + 1) j := fun j => by rw [vs _ (by omega) (by omega), w0 _ (by omega)]
  have mv : ∀ {k k2 : Nat} {X : Sx}, cSt C sg (b2 + 1) k np gl X → X.2.2.1 ≤ 60 → stc sg v k k2 → cSt C v (b + 1) k2 np gl X := fun {k k2 X} hX hv hc => by
    obtain ⟨g1, g2, g3, g4, g5⟩ := hc
    obtain ⟨fs, ms, H, gs, e1, _⟩ := id hX
    exact cSt_move hsc hX (Nat.le_refl _) hn9 (Nat.le_refl _) hss g1 g2 g3 (fun j hj => g4 _ e1 (by omega) j hj) (fun j n e hn hj => g5 n e (by omega) j hj) hC
  refine ⟨rfl, ⟨np, gl, ⟨hsc.1, by rw [vf]; exact u3, by rw [vf]; exact u4, cTo_same hto hss2.1, cTab_same hto (by omega) hss2 htab⟩, ⟨0, ⟨by rw [vs b (by omega) (by omega)]; exact w7, by decide⟩, ⟨by rw [vs b (by omega) (by omega)]; exact w8, h8.2⟩, by rw [vs b (by omega) (by omega)]; exact w9, ⟨by rw [vs b (by omega) (by omega)]; exact w10, h10.2⟩, by rw [vs b (by omega) (by omega)]; exact w11, by rw [vs b (by omega) (by omega)]; exact w12, fun i X hi => ?_, fun i n X hi => ?_⟩, k1, k2, k3⟩, ⟨by rw [vf, u5 5 (by decide) (by decide)]; exact t5, by rw [vf, u5 6 (by decide) (by decide)]; exact t6, by rw [vf, u5 7 (by decide) (by decide)]; exact t7, by rw [vf, u5 8 (by decide) (by decide)]; exact t8, cTo_same hto hss2.1, cTab_same hto (by omega) hss2 htab, hz⟩, fun q hq => by rw [c1 q (by omega), a1 q (by omega)]; exact wf q hq⟩
  · obtain ⟨g1, g2⟩ := hw i X hi
    obtain ⟨hil, _⟩ := List.getElem?_eq_some_iff.mp hi
    have ei : (0 + i) % 40 = i := by omega
    rw [ei]
    refine ⟨mv g1 g2 ((a2 i hil).ext (c1 _ (by omega)) (c1 _ (by omega)) (c1 _ (by omega))), g2⟩
  · obtain ⟨g1, g2, g3⟩ := ha i n X hi
    obtain ⟨hil, _⟩ := List.getElem?_eq_some_iff.mp hi
    exact ⟨mv g1 g2 (c2 i hil).1, g2, by rw [(c2 i hil).2]; exact g3⟩
end CP
