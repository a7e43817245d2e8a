/-! THE CLASS: steps, exactly -/
def gos (tb : Tb) (en : Nat) : Nat → Qx → Qx → Prop
  | 0, q, q2 => q2 = q
  | n + 1, q, q2 => ((q.1 = [] ∨ 30 ≤ q.2.1.length ∨ en ≤ q.2.1.length) ∧ q2 = q) ∨ (¬ (q.1 = [] ∨ 30 ≤ q.2.1.length ∨ en ≤ q.2.1.length) ∧ ∃ m, st1 tb q m ∧ gos tb en n m q2)
theorem gos_uniq {tb : Tb} {en : Nat} : ∀ {n : Nat} {q a b : Qx}, gos tb en n q a → gos tb en n q b → a = b
  | 0, q, a, b, h1, h2 => h1.trans h2.symm
  | n + 1, q, a, b, h1, h2 => by
    rcases h1 with ⟨s1, rfl⟩ | ⟨s1, m1, g1, k1⟩ <;> rcases h2 with ⟨s2, rfl⟩ | ⟨s2, m2, g2, k2⟩
    · rfl
    · exact absurd s1 s2
    · exact absurd s2 s1
    · have := st1_uniq g1 g2
      subst this
      exact gos_uniq k1 k2
/-- answers have done all -/
def anE (Q : Qx) : Prop := ∀ a ∈ Q.2.1, a.2.1 = []
theorem anE_enq {q : Qx} {s : Sx} (h : anE q) : anE (enq q s) := by
  unfold enq
  split
  · exact h
  · exact h
theorem anE_tri {tb : Tb} {q q2 : Qx} {s : Sx} (h : anE q) (ht : tri tb q s q2) : anE q2 := by
  rcases ht with ⟨_, rfl⟩ | ⟨_, ks, _, rfl⟩
  · exact h
  · exact anE_enq h
theorem anE_stp {tb : Tb} {q q2 : Qx} {s : Sx} (h : anE q) (ht : stp tb q s q2) : anE q2 := by
  obtain ⟨td, ks, nv, K⟩ := s
  have doa : ∀ {td x y z q2}, doA tb q td ks nv K x y z q2 → anE q2 := fun {td x y z q2} ⟨q1, h1, h2⟩ => anE_tri (anE_tri h h1) h2
  have dom : ∀ {td x y q2}, doM tb q td ks nv K x y q2 → anE q2 := fun {td x y q2} ⟨q1, h1, h2⟩ => anE_tri (anE_tri h h1) h2
  match td, ht with
  | [], ht =>
    have ht : q2 = (q.1, q.2.1 ++ [(q.2.2.1, ([], ks, nv, K))], q.2.2) := ht
    subst ht
    intro a ha
    rcases List.mem_append.mp ha with ha | ha
    · exact h a ha
    · rw [List.mem_singleton.mp ha]
  | .inl g :: td, ht =>
    rcases ht with ⟨_, ht⟩ | ⟨_, ht⟩ | ⟨_, rfl⟩ | ⟨_, rfl⟩ | ⟨_, rfl⟩ | ⟨_, rfl⟩ | ⟨_, ht⟩ | ⟨_, ht⟩
    · exact anE_tri h ht
    · exact anE_tri h ht
    · exact anE_enq h
    · exact anE_enq (anE_enq h)
    · exact anE_enq h
    · exact h
    · exact doa ht
    · exact dom ht
  | .inr (true, x, y, z) :: td, ht => exact doa ht
  | .inr (false, x, y, z) :: td, ht => exact dom ht
def cSe (C : Cf) (sg : rSg) (b : Nat) (Q : Qx) : Prop := ∃ np gl, cSc C sg (b + 1) np gl ∧ cQ C sg b np gl Q ∧ np ≤ 40 + 2 * Q.2.2.1 ∧ gl ≤ 26 + Q.2.2.1 ∧ Q.2.2.2.2 ≤ 40 ∧ anE Q
theorem imax_nI {a c : Nat} (ha : a < 2 ^ 31) (hc : c < 2 ^ 31) : imax (nI a) (nI c) = nI (max a c) := by
  unfold imax
  by_cases h : a < c
  · rw [if_pos ((nI_ltI ha hc).mpr h), Nat.max_eq_right (by omega)]
  · rw [if_neg (fun q => h ((nI_ltI ha hc).mp q)), Nat.max_eq_left (by omega)]
theorem ce_40 {b : Nat} (hb : isSeaA rSkel b) (sg : rSg) {i : Nat} (hi : i < 30) : EvS rSkel 1 40 [.inr (.inr (some b)), .inl (nI i)] sg (fun v t => v = some (.inr (.inr (some (b + 127 + 3 * i)))) ∧ t = sg) := by
  refine w_40 sg b hb.1 _ ⟨fun q => absurd q (nI_pos (by omega)), fun _ => ⟨fun q => absurd ((nI_leI (a := 30) (by decide) (by omega)).mp q) (by omega), fun _ => ⟨rIn_nI hi (by decide), b + 127 + 3 * i, ?_, hb.2.2 i hi, rfl, rfl⟩⟩⟩
  rw [nI_clamp (by omega)]
  exact if_pos hi
theorem ce_54 {k : Nat} (hk : isSt k) (sg : rSg) {n : Nat} (hn : sg k 3 = nI (n + 1)) (h9 : n < 32) : EvS rSkel 1 54 [.inr (.inr (some k))] sg (fun v t => v = some (.inl (sg (k + 2) n)) ∧ t = up2 sg k 3 (nI n)) := by
  refine w_54 sg k hk ?_
  rw [hn, show nI (n + 1) - 1 = nI n from nI_pred n, nI_clamp (by omega)]
  exact ⟨fun q => absurd ((nI_ltI (b := 1) (by omega) (by decide)).mp q) (by omega), fun _ => ⟨fun _ => ⟨rIn_nI h9 (by decide), rfl, rfl⟩, fun q => absurd (nI_le (a := n + 1) (b := 32) (by omega) (by decide)) q⟩⟩
/-- an answer comes -/
theorem ce_39 {C : Cf} (hC : cfOK C) {b : Nat} (hb : isSeaA rSkel b) {sg : rSg} {np gl : Nat} (hsc : cSc C sg (b + 1) np gl) {Q : Qx} (hq : cQ C sg b np gl Q) (hlt : Q.2.1.length < 30) {X : Sx} {fs ms : List Nat} {H : Nat → Prop} {gs : List Nat} (h : cSo C sg (b + 1) (b + 218) np gl X fs ms H gs) (hv : X.2.2.1 ≤ 60) (hH : cHs C X (cV sg (b + 1) (b + 218 + 1) 64) fs ms) : EvS rSkel 2 39 [.inr (.inr (some b))] sg (fun v t => v = none ∧ cSc C t (b + 1) np gl ∧ cQ C t b np gl (Q.1, Q.2.1 ++ [(Q.2.2.1, X)], Q.2.2) ∧ (∀ q, q ≠ b → ¬ (b + 127 ≤ q ∧ q ≤ b + 217) → t q = sg q) ∧ (∀ j, j ≠ 10 → t b j = sg b j)) := by
  have b5 : 5 < b := hb.1.1
  have hst : isSt (b + 218) := hb.1.2.2.2.2.2.2.1
  obtain ⟨hh, h7, h8, h9, h10, h11, h12, hw, ha⟩ := id hq
  refine w_39 sg b hb.1 ?_
  rw [h10.1]
  refine ⟨fun q => absurd q (nI_pos (by omega)), fun _ => ⟨fun q => absurd ((nI_leI (a := 30) (by decide) (by omega)).mp q) (by omega), fun _ => (ce_40 hb sg hlt).imp ?_⟩⟩
  rintro _ sg ⟨rfl, rfl⟩
  refine ⟨_, rfl, hb.2.2 _ hlt, (so_copy hC (hb.2.2 _ hlt) hst (by omega) (by omega) hsc h).imp ?_⟩
  rintro _ t ⟨rfl, d1, d2, d3, d4⟩
  obtain ⟨L9, ho9, hc9, hl9⟩ := hH
  have tb : t b = sg b := d1 b (by omega) (by omega) (by omega)
  have t10 : t b 10 = nI Q.2.1.length := by rw [tb]; exact h10.1
  have t9 : t b 9 = nI Q.2.2.1 := by rw [tb]; exact h9
  rw [t10, t9, nI_clamp (by omega), nI_1]
  refine ⟨rfl, rIn_nI hlt (by decide), rfl, ?_⟩
  have f1 : ∀ q, q ≠ b → q ≠ b + 217 → (up2 (up2 t (b + 217) Q.2.1.length (nI Q.2.2.1)) b 10 (nI (Q.2.1.length + 1))) q = t q := fun q g1 g2 => by rw [up2_nk _ _ _ g1, up2_nk _ _ _ g2]
  have f2 : ∀ j, j ≠ 10 → (up2 (up2 t (b + 217) Q.2.1.length (nI Q.2.2.1)) b 10 (nI (Q.2.1.length + 1))) b j = t b j := fun j g1 => by rw [up2_nj _ _ _ g1, up2_nk _ _ _ (by omega)]
  have f3 : (up2 (up2 t (b + 217) Q.2.1.length (nI Q.2.2.1)) b 10 (nI (Q.2.1.length + 1))) b 10 = nI (Q.2.1.length + 1) := up2_same _ _ _ _
  have f4 : (up2 (up2 t (b + 217) Q.2.1.length (nI Q.2.2.1)) b 10 (nI (Q.2.1.length + 1))) (b + 217) Q.2.1.length = nI Q.2.2.1 := by rw [up2_nk _ _ _ (by omega), up2_same]
  have f5 : ∀ j, j ≠ Q.2.1.length → (up2 (up2 t (b + 217) Q.2.1.length (nI Q.2.2.1)) b 10 (nI (Q.2.1.length + 1))) (b + 217) j = t (b + 217) j := fun j g1 => by rw [up2_nk _ _ _ (by omega), up2_nj _ _ _ g1]
  generalize up2 (up2 t (b + 217) Q.2.1.length (nI Q.2.2.1)) b 10 (nI (Q.2.1.length + 1)) = u at f1 f2 f3 f4 f5
  have hss : scSame np gl (b + 1) (b + 1) sg u := scSame.of (by rw [f1 _ (by omega) (by omega), d1 _ (by omega) (by omega) (by omega)]) (by rw [f1 _ (by omega) (by omega), d1 _ (by omega) (by omega) (by omega)]) (by rw [f1 _ (by omega) (by omega), d1 _ (by omega) (by omega) (by omega)])
  have hss2 : scSame np gl (b + 1) (b + 1) t u := scSame.of (f1 _ (by omega) (by omega)) (f1 _ (by omega) (by omega)) (f1 _ (by omega) (by omega))
  have same : ∀ q, q ≠ b → q ≠ b + 217 → q ≠ b + 127 + 3 * Q.2.1.length → q ≠ b + 127 + 3 * Q.2.1.length + 1 → q ≠ b + 127 + 3 * Q.2.1.length + 2 → u q = sg q := fun q g1 g2 g3 g4 g5 => by rw [f1 q g1 g2, d1 q g3 g4 g5]
  refine ⟨cSc_same hsc hss (by rw [same _ (by omega) (by omega) (by omega) (by omega) (by omega)]; exact hsc.2.1) (by rw [same _ (by omega) (by omega) (by omega) (by omega) (by omega)]; exact hsc.2.2.1) ⟨Nat.le_refl _, hsc.1.2.1⟩ ⟨Nat.le_refl _, hsc.1.2.2.2⟩, ⟨hh, by rw [f2 7 (by decide), tb]; exact h7, by rw [f2 8 (by decide), tb]; exact h8, by rw [f2 9 (by decide), tb]; exact h9, ⟨by rw [f3]; simp, by simp; omega⟩, by rw [f2 11 (by decide), tb]; exact h11, by rw [f2 12 (by decide), tb]; exact h12, fun i Y hi => ?_, fun i n Y hi => ?_⟩, fun q g1 g2 => same q g1 (by omega) (by omega) (by omega) (by omega), fun j hj => by rw [f2 j hj, tb]⟩
  · obtain ⟨g1, g2⟩ := hw i Y hi
    have : (hh + i) % 40 < 40 := Nat.mod_lt _ (by decide)
    exact ⟨cSt_frame hC hsc g1 ⟨Nat.le_refl _, hsc.1.2.1⟩ (Nat.le_refl _) hss (same _ (by omega) (by omega) (by omega) (by omega) (by omega)) (same _ (by omega) (by omega) (by omega) (by omega) (by omega)) (same _ (by omega) (by omega) (by omega) (by omega) (by omega)), g2⟩
  · by_cases hil : i < Q.2.1.length
    · have hi2 : Q.2.1[i]? = some (n, Y) := by
        have := hi
        simp only at this
        rw [List.getElem?_append_left hil] at this
        exact this
      obtain ⟨g1, g2, g3⟩ := ha i n Y hi2
      exact ⟨cSt_frame hC hsc g1 ⟨Nat.le_refl _, hsc.1.2.1⟩ (Nat.le_refl _) hss (same _ (by omega) (by omega) (by omega) (by omega) (by omega)) (same _ (by omega) (by omega) (by omega) (by omega) (by omega)) (same _ (by omega) (by omega) (by omega) (by omega) (by omega)), g2, by rw [f5 i (by omega), d1 _ (by omega) (by omega) (by omega)]; exact g3⟩
    · simp only at hi
      rw [List.getElem?_append_right (by omega)] at hi
      have hi0 : i = Q.2.1.length := by
        obtain ⟨z, _⟩ := List.getElem?_eq_some_iff.mp hi
        simp at z
        omega
      subst hi0
      simp at hi
      obtain ⟨rfl, rfl⟩ := hi
      exact ⟨cSt_frame hC d3 (d2.st ⟨L9, ho9, hc9, d4 _ hl9⟩) ⟨Nat.le_refl _, hsc.1.2.1⟩ (Nat.le_refl _) hss2 (f1 _ (by omega) (by omega)) (f1 _ (by omega) (by omega)) (f1 _ (by omega) (by omega)), hv, f4⟩
/-- what steps leave outside the search -/
def frR (b : Nat) (sg t : rSg) : Prop := (∀ q, (q = 0 ∨ 5 < q) → q < b ∨ b + 223 < q → t q = sg q) ∧ ∀ j, 5 ≤ j → t (b + 1) j = sg (b + 1) j
theorem ce_36b {C : Cf} (hC : cfOK C) {b : Nat} (hb : isSeaA rSkel b) {N en : Nat} (hN : N < 2 ^ 31) (hen : en < 2 ^ 31) {s0 : rSg} {l0 S : Nat} (hS : S = 4420) (hl0 : l0 + N * S + 20000 < 2 ^ 32) {P : Option rv → rSg → Prop} : ∀ (m y : Nat) (sg : rSg) (Q : Qx), y + m = N → cSe C sg b Q → Q.2.2.1 + m ≤ 300 → (∃ l, cSn sg l ∧ l ≤ l0 + y * S) → frR b s0 sg → (∀ t Q2, gos C.tb en m Q Q2 → cSe C t b Q2 → (∃ l, cSn t l ∧ l ≤ l0 + N * S) → frR b s0 t → P none t) → g_36_2 b (nI N) (nI en) (nI y) sg P := by
  have b5 : 5 < b := hb.1.1
  have hst : isSt (b + 218) := hb.1.2.2.2.2.2.2.1
  intro m
  induction m with
  | zero =>
    intro y sg Q hy hse hst0 hl hfr hP
    obtain rfl : y = N := by omega
    exact w_36_2 sg b hb.1 _ _ _ ⟨fun _ => hP sg Q rfl hse hl hfr, fun q => absurd (nI_le (by omega) (by omega)) q⟩
  | succ m ih =>
    intro y sg Q hy hse hst0 hl hfr hP
    obtain ⟨np, gl, hsc, hq, hnp, hgl, hmo, han⟩ := id hse
    obtain ⟨hh, h7, h8, h9, h10, h11, h12, hw, ha⟩ := id hq
    obtain ⟨l, hl1, hl2⟩ := hl
    have hyl : y * S + S ≤ N * S := by
      have q : (y + 1) * S ≤ N * S := Nat.mul_le_mul_right _ (by omega)
      rw [Nat.add_mul, Nat.one_mul] at q
      exact q
    have hbl : l ≤ l0 + N * S := by omega
    have out : (Q.1 = [] ∨ 30 ≤ Q.2.1.length ∨ en ≤ Q.2.1.length) → P none sg := fun hs => hP sg Q (Or.inl ⟨hs, rfl⟩) hse ⟨l, hl1, hbl⟩ hfr
    refine w_36_2 sg b hb.1 _ _ _ ⟨fun q => absurd ((nI_leI (by omega) (by omega)).mp q) (by omega), fun _ => ?_⟩
    refine w_37 sg b hb.1 ?_
    rw [h8.1, h10.1]
    refine ⟨fun q => ⟨_, rfl, fun _ => out (Or.inl ?_), fun q => absurd (by decide) q⟩, fun q0 => ⟨fun q1 => ⟨_, rfl, fun q => absurd rfl q, fun _ => ⟨fun q2 => out (Or.inr (Or.inr ((nI_leI hen (by omega)).mp q2))), fun q2 => ?_⟩⟩, fun q1 => ⟨_, rfl, fun _ => out (Or.inr (Or.inl ?_)), fun q => absurd (by decide) q⟩⟩⟩
    · have := (nI_eq (b := 0) (by omega) (by decide)).mp q
      exact List.eq_nil_of_length_eq_zero this
    · -- a step
      have l30 : Q.2.1.length < 30 := (nI_ltI (b := 30) (by omega) (by decide)).mp q1
      have len : ¬ en ≤ Q.2.1.length := fun z => q2 ((nI_leI hen (by omega)).mpr z)
      have hgo : ¬ (Q.1 = [] ∨ 30 ≤ Q.2.1.length ∨ en ≤ Q.2.1.length) := by
        rintro (z | z | z)
        · exact q0 (by rw [z]; rfl)
        · omega
        · exact len z
      obtain ⟨Q1, Q2a, st, lo, mo⟩ := Q
      cases Q1 with
      | nil => exact absurd (Or.inl rfl) hgo
      | cons X rest =>
        simp only at h8 h9 h10 h11 h12 hw ha hnp hgl hmo hst0 l30 len q0
        obtain ⟨hx1, hx2⟩ := hw 0 X rfl
        rw [h9, nI_1]
        have a1 : ∀ q, q ≠ b → (up2 sg b 9 (nI (st + 1))) q = sg q := fun q g => up2_nk _ _ _ g
        have a2 : ∀ j, j ≠ 9 → (up2 sg b 9 (nI (st + 1))) b j = sg b j := fun j g => up2_nj _ _ _ g
        have a3 : (up2 sg b 9 (nI (st + 1))) b 9 = nI (st + 1) := up2_same _ _ _ _
        generalize up2 sg b 9 (nI (st + 1)) = t1 at a1 a2 a3
        have hm40 : (hh + 0) % 40 < 40 := Nat.mod_lt _ (by decide)
        refine w_38 t1 b hb.1 ((c_waitingAt hb t1 (h := hh) (i := 0) (by rw [a2 7 (by decide)]; exact h7.1) (by omega)).imp ?_)
        rintro _ t1 ⟨rfl, rfl⟩
        refine ⟨_, rfl, hb.2.1 _ hm40, _, rfl, hb.2.1 _ hm40, ?_⟩
        -- the state comes to hand
        have hss1 : scSame np gl (b + 1) (b + 1) sg t1 := scSame.of (a1 _ (by omega)) (a1 _ (by omega)) (a1 _ (by omega))
        have hsc1 : cSc C t1 (b + 1) np gl := cSc_same hsc hss1 (by rw [a1 _ (by omega)]; exact hsc.2.1) (by rw [a1 _ (by omega)]; exact hsc.2.2.1) ⟨Nat.le_refl _, hsc.1.2.1⟩ ⟨Nat.le_refl _, hsc.1.2.2.2⟩
        obtain ⟨fs, ms, H, gs, o1, o2, o3, o4, o5, o6, o7, hH0⟩ := cSt_frame hC hsc hx1 ⟨Nat.le_refl _, hsc.1.2.1⟩ (Nat.le_refl _) hss1 (a1 _ (by omega)) (a1 _ (by omega)) (a1 _ (by omega))
        have hso : cSo C t1 (b + 1) (b + 6 + 3 * ((hh + 0) % 40)) np gl X fs ms H gs := ⟨o1, o2, o3, o4, o5, o6, o7⟩
        refine (so_copy hC hst (hb.2.1 _ hm40) (by omega) (by omega) hsc1 hso).imp ?_
        rintro _ t2 ⟨rfl, c1, c2, c3, c4⟩
        have tb2 : t2 b = t1 b := c1 b (by omega) (by omega) (by omega)
        have e7 : irem (t2 b 7 + 1) 40 = nI ((hh + 1) % 40) := by
          rw [tb2, a2 7 (by decide), h7.1, nI_1]
          exact pk_rem (by omega) (by decide) (by decide)
        have e8 : t2 b 8 - 1 = nI rest.length := by
          rw [tb2, a2 8 (by decide), h8.1]
          exact nI_pred _
        rw [e7, e8]
        have d1 : ∀ q, q ≠ b → (up2 (up2 t2 b 7 (nI ((hh + 1) % 40))) b 8 (nI rest.length)) q = t2 q := fun q g => by rw [up2_nk _ _ _ g, up2_nk _ _ _ g]
        have d2 : ∀ j, j ≠ 7 → j ≠ 8 → (up2 (up2 t2 b 7 (nI ((hh + 1) % 40))) b 8 (nI rest.length)) b j = t2 b j := fun j g1 g2 => by rw [up2_nj _ _ _ g2, up2_nj _ _ _ g1]
        have d3 : (up2 (up2 t2 b 7 (nI ((hh + 1) % 40))) b 8 (nI rest.length)) b 7 = nI ((hh + 1) % 40) := by rw [up2_nj _ _ _ (by decide), up2_same]
        have d4 : (up2 (up2 t2 b 7 (nI ((hh + 1) % 40))) b 8 (nI rest.length)) b 8 = nI rest.length := up2_same _ _ _ _
        generalize up2 (up2 t2 b 7 (nI ((hh + 1) % 40))) b 8 (nI rest.length) = t3 at d1 d2 d3 d4
        have s3 : ∀ q, q ≠ b → q ≠ b + 218 → q ≠ b + 219 → q ≠ b + 220 → t3 q = sg q := fun q g1 g2 g3 g4 => by rw [d1 q g1, c1 q g2 g3 g4, a1 q g1]
        have b3 : ∀ j, j ≠ 7 → j ≠ 8 → j ≠ 9 → t3 b j = sg b j := fun j g1 g2 g3 => by rw [d2 j g1 g2, tb2, a2 j g3]
        have hss3 : scSame np gl (b + 1) (b + 1) sg t3 := scSame.of (s3 _ (by omega) (by omega) (by omega) (by omega)) (s3 _ (by omega) (by omega) (by omega) (by omega)) (s3 _ (by omega) (by omega) (by omega) (by omega))
        have hss23 : scSame np gl (b + 1) (b + 1) t2 t3 := scSame.of (d1 _ (by omega)) (d1 _ (by omega)) (d1 _ (by omega))
        have hsc3 : cSc C t3 (b + 1) np gl := cSc_same hsc hss3 (by rw [s3 _ (by omega) (by omega) (by omega) (by omega)]; exact hsc.2.1) (by rw [s3 _ (by omega) (by omega) (by omega) (by omega)]; exact hsc.2.2.1) ⟨Nat.le_refl _, hsc.1.2.1⟩ ⟨Nat.le_refl _, hsc.1.2.2.2⟩
        have hso3 : cSo C t3 (b + 1) (b + 218) np gl X fs ms H gs := cSo_move hC c3 c2 ⟨Nat.le_refl _, hsc.1.2.1⟩ (Nat.le_refl _) hss23 (by rw [d1 _ (by omega)]) (by rw [d1 _ (by omega)]) (by rw [d1 _ (by omega)]) (fun j _ => by rw [d1 _ (by omega)]) (fun j _ => by rw [d1 _ (by omega)])
        have hH3 : cHs C X (cV t3 (b + 1) (b + 218 + 1) 64) fs ms := by
          obtain ⟨L9, ho9, hc9, hl9⟩ := hH0
          exact ⟨L9, ho9, hc9, hLk_move c3 c2 hss23 (fun j _ => by rw [d1 _ (by omega)]) (c4 _ hl9)⟩
        have hq3 : cQ C t3 b np gl (rest, Q2a, st + 1, lo, mo) := by
          refine ⟨(hh + 1) % 40, ⟨d3, Nat.mod_lt _ (by decide)⟩, ⟨d4, by simp only [List.length_cons] at h8; simp only; omega⟩, by rw [d2 9 (by decide) (by decide), tb2]; exact a3, ⟨by rw [b3 10 (by decide) (by decide) (by decide)]; exact h10.1, h10.2⟩, by rw [b3 11 (by decide) (by decide) (by decide)]; exact h11, by rw [b3 12 (by decide) (by decide) (by decide)]; exact h12, fun i Y hi => ?_, fun i n Y hi => ?_⟩
          · have hi2 : (X :: rest)[i + 1]? = some Y := hi
            obtain ⟨g1, g2⟩ := hw (i + 1) Y hi2
            have : (hh + (i + 1)) % 40 < 40 := Nat.mod_lt _ (by decide)
            have e : ((hh + 1) % 40 + i) % 40 = (hh + (i + 1)) % 40 := by omega
            rw [e]
            exact ⟨cSt_frame hC hsc g1 ⟨Nat.le_refl _, hsc.1.2.1⟩ (Nat.le_refl _) hss3 (s3 _ (by omega) (by omega) (by omega) (by omega)) (s3 _ (by omega) (by omega) (by omega) (by omega)) (s3 _ (by omega) (by omega) (by omega) (by omega)), g2⟩
          · obtain ⟨g1, g2, g3⟩ := ha i n Y hi
            have hl9 : i < Q2a.length := by
              obtain ⟨z, _⟩ := List.getElem?_eq_some_iff.mp hi
              exact z
            exact ⟨cSt_frame hC hsc g1 ⟨Nat.le_refl _, hsc.1.2.1⟩ (Nat.le_refl _) hss3 (s3 _ (by omega) (by omega) (by omega) (by omega)) (s3 _ (by omega) (by omega) (by omega) (by omega)) (s3 _ (by omega) (by omega) (by omega) (by omega)), g2, by rw [s3 _ (by omega) (by omega) (by omega) (by omega)]; exact g3⟩
        have hl3 : cSn t3 l := ⟨by rw [s3 1 (by omega) (by omega) (by omega) (by omega)]; exact hl1.1, fun j hj => by rw [s3 5 (by omega) (by omega) (by omega) (by omega)]; exact hl1.2 j hj⟩
        have fr3 : frR b s0 t3 := ⟨fun q g1 g2 => by rw [s3 q (by omega) (by omega) (by omega) (by omega)]; exact hfr.1 q g1 g2, fun j hj => by rw [s3 (b + 1) (by omega) (by omega) (by omega) (by omega)]; exact hfr.2 j hj⟩
        -- what comes then
        have nxt : ∀ {u : rSg} {Q4 : Qx} {np2 gl2 : Nat}, stp C.tb (rest, Q2a, st + 1, lo, mo) X Q4 → np2 ≤ np + 2 → gl2 ≤ gl + 1 → cPS C u b np2 gl2 Q4 (l + 4420) → frR b s0 u → g_36_2 b (nI N) (nI en) (nI y + 1) (up2 u b 12 (imax (u b 12) (u b 8))) P := by
          intro u Q4 np2 gl2 hstp n2 g2 hps hfu
          obtain ⟨sc4, q4, l4, hl4, hl5⟩ := hps
          obtain ⟨h4, k7, k8, k9, k10, k11, k12, kw, ka⟩ := id q4
          have hs4 : Q4.2.2.1 = st + 1 := stp_step hstp
          have hm4 : Q4.2.2.2.2 = mo := stp_most hstp
          have mx : imax (u b 12) (u b 8) = nI (max Q4.2.2.2.2 Q4.1.length) := by
            rw [k12, k8.1]
            exact imax_nI (by omega) (by omega)
          rw [mx, nI_1]
          have v1 : ∀ q, q ≠ b → (up2 u b 12 (nI (max Q4.2.2.2.2 Q4.1.length))) q = u q := fun q g => up2_nk _ _ _ g
          have v2 : ∀ j, j ≠ 12 → (up2 u b 12 (nI (max Q4.2.2.2.2 Q4.1.length))) b j = u b j := fun j g => up2_nj _ _ _ g
          have v3 : (up2 u b 12 (nI (max Q4.2.2.2.2 Q4.1.length))) b 12 = nI (max Q4.2.2.2.2 Q4.1.length) := up2_same _ _ _ _
          generalize up2 u b 12 (nI (max Q4.2.2.2.2 Q4.1.length)) = w at v1 v2 v3
          have hssw : scSame np2 gl2 (b + 1) (b + 1) u w := scSame.of (v1 _ (by omega)) (v1 _ (by omega)) (v1 _ (by omega))
          have hst1 : st1 C.tb (X :: rest, Q2a, st, lo, mo) (Q4.1, Q4.2.1, Q4.2.2.1, Q4.2.2.2.1, max Q4.2.2.2.2 Q4.1.length) := ⟨X, rest, Q4, rfl, l30, hstp, rfl⟩
          have hsew : cSe C w b (Q4.1, Q4.2.1, Q4.2.2.1, Q4.2.2.2.1, max Q4.2.2.2.2 Q4.1.length) := by
            refine ⟨np2, gl2, cSc_same sc4 hssw (by rw [v1 _ (by omega)]; exact sc4.2.1) (by rw [v1 _ (by omega)]; exact sc4.2.2.1) ⟨Nat.le_refl _, sc4.1.2.1⟩ ⟨Nat.le_refl _, sc4.1.2.2.2⟩, ⟨h4, by rw [v2 7 (by decide)]; exact k7, by rw [v2 8 (by decide)]; exact k8, by rw [v2 9 (by decide)]; exact k9, by rw [v2 10 (by decide)]; exact k10, by rw [v2 11 (by decide)]; exact k11, v3, fun i Y hi => ?_, fun i n Y hi => ?_⟩, ?_, ?_, ?_, ?_⟩
            · obtain ⟨g1, g3⟩ := kw i Y hi
              exact ⟨cSt_frame hC sc4 g1 ⟨Nat.le_refl _, sc4.1.2.1⟩ (Nat.le_refl _) hssw (v1 _ (by omega)) (v1 _ (by omega)) (v1 _ (by omega)), g3⟩
            · obtain ⟨g1, g3, g4⟩ := ka i n Y hi
              exact ⟨cSt_frame hC sc4 g1 ⟨Nat.le_refl _, sc4.1.2.1⟩ (Nat.le_refl _) hssw (v1 _ (by omega)) (v1 _ (by omega)) (v1 _ (by omega)), g3, by rw [v1 _ (by omega)]; exact g4⟩
            · simp only; omega
            · simp only; omega
            · have := k8.2
              simp only
              omega
            · exact fun a ha => anE_stp (q := (rest, Q2a, st + 1, lo, mo)) (fun a ha => han a ha) hstp a ha
          refine ih (y + 1) w _ (by omega) hsew (by simp only; omega) ⟨l4, ⟨by rw [v1 1 (by omega)]; exact hl4.1, fun j hj => by rw [v1 5 (by omega)]; exact hl4.2 j hj⟩, by rw [Nat.add_mul, Nat.one_mul]; omega⟩ ⟨fun q g1 g3 => by rw [v1 q (by omega)]; exact hfu.1 q g1 g3, fun j hj => by rw [v1 (b + 1) (by omega)]; exact hfu.2 j hj⟩ (fun t Q5 hg => hP t Q5 (Or.inr ⟨hgo, _, hst1, hg⟩))
        obtain ⟨td, ks, nv, K⟩ := X
        have f3 : t2 (b + 218) 3 = nI gs.length := c2.2.1
        have glen := cSo_len hC hso3
        cases gs with
        | nil =>
          refine ⟨rfl, fun q => absurd f3 q, fun _ => (ce_39 hC hb hsc3 hq3 l30 hso3 hx2 hH3).imp ?_⟩
          rintro _ u ⟨rfl, u1, u2, u3, u4⟩
          have htd : td = [] := by
            have := cIts_len hso3.2.2.2.1
            exact List.eq_nil_of_length_eq_zero this.symm
          subst htd
          exact ⟨rfl, nxt rfl (by omega) (by omega) ⟨u1, u2, l, ⟨by rw [u3 1 (by omega) (by omega)]; exact hl3.1, fun j hj => by rw [u3 5 (by omega) (by omega)]; exact hl3.2 j hj⟩, by omega⟩ ⟨fun q g1 g2 => by rw [u3 q (by omega) (by omega)]; exact fr3.1 q g1 g2, fun j hj => by rw [u3 (b + 1) (by omega) (by omega)]; exact fr3.2 j hj⟩⟩
        | cons i gs =>
          refine ⟨rfl, fun _ => ?_, fun q => absurd (fun z => by rw [f3] at z; have := (nI_eq (b := 0) (by omega) (by decide)).mp z; simp at this) q⟩
          obtain ⟨e1, e2, e3, e4, e5, e6, e7⟩ := id hso3
          simp only [List.length_cons] at e2 glen
          cases td with
          | nil => exact e4.elim
          | cons it td =>
            refine (ce_54 hst t3 e2 (by omega)).imp ?_
            rintro _ t4 ⟨rfl, rfl⟩
            have g1 : ∀ q, q ≠ b + 218 → (up2 t3 (b + 218) 3 (nI gs.length)) q = t3 q := fun q g => up2_nk _ _ _ g
            have g2 : ∀ j, j ≠ 3 → (up2 t3 (b + 218) 3 (nI gs.length)) (b + 218) j = t3 (b + 218) j := fun j g => up2_nj _ _ _ g
            have g3 : (up2 t3 (b + 218) 3 (nI gs.length)) (b + 218) 3 = nI gs.length := up2_same _ _ _ _
            generalize up2 t3 (b + 218) 3 (nI gs.length) = t4 at g1 g2 g3
            rw [show t3 (b + 218 + 2) gs.length = nI i from e3.1]
            have hss4 : scSame np gl (b + 1) (b + 1) t3 t4 := scSame.of (g1 _ (by omega)) (g1 _ (by omega)) (g1 _ (by omega))
            have hsc4 : cSc C t4 (b + 1) np gl := cSc_same hsc3 hss4 (by rw [g1 _ (by omega)]; exact hsc3.2.1) (by rw [g1 _ (by omega)]; exact hsc3.2.2.1) ⟨Nat.le_refl _, hsc.1.2.1⟩ ⟨Nat.le_refl _, hsc.1.2.2.2⟩
            have hq4 : cQ C t4 b np gl (rest, Q2a, st + 1, lo, mo) := cQ_frame hC hsc3 hq3 ⟨Nat.le_refl _, hsc.1.2.1⟩ (Nat.le_refl _) hss4 (fun j _ _ => by rw [g1 b (by omega)]) (fun q z1 z2 => g1 q (by omega))
            have hnu : cNu C (td, ks, nv, K) fs.length ms.length := by
              obtain ⟨n1, n2, n3, n4, n5, n6⟩ := e7
              simp only [sumI] at n1 n2 n3 n4 n5 n6
              exact ⟨n1, n2, by simp only; omega, by simp only; omega, fun q => by have := n5 q; simp only; omega, n6⟩
            have hso4 : cSo C t4 (b + 1) (b + 218) np gl (td, ks, nv, K) fs ms H gs := ⟨by rw [g2 2 (by decide)]; exact e1, g3, pilk_mv (fun j _ => by rw [g1 _ (by omega)]) e3.2, cIts_same hsc3.2.2.2.1 hsc3.1.1 hsc3.1.2.1 hss4 (Nat.le_refl _) (Nat.le_refl _) (fun _ _ z => z) e4.2, by rw [g2 4 (by decide)]; exact e5, cCo_same hsc3.1.1 (Nat.le_refl _) hsc3.1.2.1 e6 ⟨fun j _ => by rw [g1 _ (by omega)], fun c _ => by rw [g1 (b + 1 + 3) (by omega)]; exact ⟨rfl, rfl⟩⟩, hnu⟩
            have hit : cIt C t4 (b + 1) nv H gl i it := cIt_same hsc3.2.2.2.1 hsc3.1.1 hsc3.1.2.1 hss4 (Nat.le_refl _) (Nat.le_refl _) (fun _ _ z => z) e4.1
            refine ⟨_, rfl, (ce_41 hC hb hsc4 hq4 ⟨by rw [g1 1 (by omega)]; exact hl3.1, fun j hj => by rw [g1 5 (by omega)]; exact hl3.2 j hj⟩ (by omega) (by omega) (by omega) hso4 hx2 hit e7 (by
              obtain ⟨L9, ho9, hc9, hl9⟩ := hH3
              exact ⟨L9, ho9, hc9, hLk_move (X := (it :: td, ks, nv, K)) hsc3 hso3 hss4 (fun j _ => by rw [g1 _ (by omega)]) hl9⟩)).imp ?_⟩
            rintro _ u ⟨rfl, Q4, np2, gl2, y1, y2, y3, y4, y5⟩
            exact ⟨rfl, nxt y1 y2.2 y3.2 y4 ⟨fun q z1 z2 => by rw [y5.1 q z1 z2, g1 q (by omega)]; exact fr3.1 q z1 z2, fun j hj => by rw [y5.2.2 j hj, g1 (b + 1) (by omega)]; exact fr3.2 j hj⟩⟩
    · have : ¬ Q.2.1.length < 30 := fun z => q1 (nI_lt z (by decide))
      omega
theorem ce_36 {C : Cf} (hC : cfOK C) {b : Nat} (hb : isSeaA rSkel b) {N en : Nat} (hN : N < 2 ^ 31) (hen : en < 2 ^ 31) {sg : rSg} {Q : Qx} (hse : cSe C sg b Q) (hst : Q.2.2.1 + N ≤ 300) {l : Nat} (hl : cSn sg l) (hl0 : l + N * 4420 + 20000 < 2 ^ 32) : EvS rSkel 7 36 [.inr (.inr (some b)), .inl (nI N), .inl (nI en)] sg (fun v t => v = none ∧ ∃ Q2, gos C.tb en N Q Q2 ∧ cSe C t b Q2 ∧ (∃ l2, cSn t l2 ∧ l2 ≤ l + N * 4420) ∧ frR b sg t) :=
  w_36 sg b hb.1 _ _ (ce_36b hC hb hN hen (s0 := sg) (l0 := l) (S := 4420) rfl hl0 N 0 sg Q (by omega) hse hst ⟨l, hl, by omega⟩ ⟨fun _ _ _ => rfl, fun _ _ => rfl⟩ (fun t Q2 h1 h2 h3 h4 => ⟨rfl, Q2, h1, h2, h3, h4⟩))
