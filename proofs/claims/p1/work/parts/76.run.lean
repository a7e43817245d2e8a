/-! answers of the reference; whole runs -/
theorem m_ans_loop {z : Nat} (hz : z < 2) {U : rSg} {P : Option rv → rSg → Prop} (h21 : U 725 21 = nI z) (h19 : U 725 19 = 0) (hP : ∀ s2 : rSg, (∀ q, q ≠ 743 → q ≠ 744 → q ≠ 745 → q ≠ 748 → s2 q = U q) → s2 744 (30 * z) = U 749 z → s2 748 z = U 748 z + 1 → (∀ j, j ≠ z → s2 748 j = U 748 j) → (∀ j, j < 64 → s2 743 (64 * (30 * z) + j) = U 736 j) → P none s2) :
    ∀ (n y : Nat) (s : rSg), y + n = 64 → (∀ q, q ≠ 743 → s q = U q) → (∀ j, j < y → s 743 (64 * (30 * z) + j) = U 736 j) → g_141_20 (nI (30 * z)) (nI y) s P := by
  intro n
  induction n with
  | zero =>
    intro y s hy h0 h1
    obtain rfl : y = 64 := by omega
    have e21 : s 725 21 = nI z := by rw [h0 725 (by decide)]; exact h21
    have c21 : (s 725 21).toNatClampNeg = z := by rw [e21]; exact nI_clamp (by omega)
    have cz : (nI (30 * z)).toNatClampNeg = 30 * z := nI_clamp (by omega)
    refine w_141_20 s (nI (30 * z)) (nI 64) ⟨fun _ => ⟨by rw [e21]; exact rIn_nI hz (by decide), rIn_nI (by omega) (by decide), ?_⟩, fun q => absurd (by decide) q⟩
    rw [c21, cz, h0 725 (by decide), h19]
    refine m_len0 ⟨_, rfl, rIn_nI (by omega) (by decide), ?_, ?_, ?_⟩
    · rw [up2_nk _ _ _ (by decide), e21]; exact rIn_nI hz (by decide)
    · rw [up2_nk _ _ _ (by decide), e21]; exact rIn_nI hz (by decide)
    · have c2 : (up2 s 744 (30 * z) (s 749 z) 725 21).toNatClampNeg = z := by rw [up2_nk _ _ _ (by decide)]; exact c21
      rw [c2]
      refine hP _ (fun q g1 g2 g3 g4 => ?_) ?_ ?_ (fun j hj => ?_) (fun j hj => ?_)
      · rw [up2_nk _ _ _ g4, up2_nk _ _ _ g3, up2_nk _ _ _ g2, h0 q g1]
      · rw [up2_nk _ _ _ (by decide), up2_nk _ _ _ (by decide), up2_same, h0 749 (by decide)]
      · rw [up2_same, up2_nk _ _ _ (by decide), h0 748 (by decide)]
      · rw [up2_nj _ _ _ hj, up2_nk _ _ _ (by decide), up2_nk _ _ _ (by decide), h0 748 (by decide)]
      · rw [up2_nk _ _ _ (by decide), up2_nk _ _ _ (by decide), up2_nk _ _ _ (by decide), h1 j hj]
  | succ n ih =>
    intro y s hy h0 h1
    have e : (64 : Int32) * nI (30 * z) + nI y = nI (64 * (30 * z) + y) := by rw [show (64 : Int32) = nI 64 from rfl, pk_mul, nI_add]
    refine w_141_20 s (nI (30 * z)) (nI y) ⟨fun q => absurd ((nI_leI (a := 64) (by decide) (by omega)).mp q) (by omega), fun _ => ?_⟩
    rw [e, nI_clamp (by omega), nI_clamp (by omega), nI_1]
    refine ⟨rIn_nI (by omega) (by decide), rIn_nI (by omega) (by decide), ih (y + 1) _ (by omega) (fun q hq => by rw [up2_nk _ _ _ hq, h0 q hq]) (fun j hj => ?_)⟩
    by_cases hjy : j = y
    · subst hjy; rw [up2_same, h0 736 (by decide)]
    · rw [up2_nj _ _ _ (by omega), h1 j (by omega)]
theorem ms_ans {s : rSg} {z h st : Nat} (hz : z < 2) (hq : mQ s z h st 0) (hst : st < 1000) {P : Option rv → rSg → Prop}
    (k : ∀ s2 : rSg, (∀ q, q < 733 ∧ q ≠ 725 → s2 q = s q) → (∀ j, j ≠ 16 → j ≠ 18 → j ≠ 19 → j ≠ 20 → s2 725 j = s 725 j) → (z = 1 → mKp s s2) → s2 747 z = nI 0 → s2 748 z = nI 1 → s2 749 z = nI (st + 1) → s2 744 (30 * z) = nI (st + 1) → (∀ j, j < 64 → s2 743 (64 * (30 * z) + j) = s 739 (64 * (42 * z + h) + j)) → P none s2) : EvS rSkel 13 139 [.inr (.inr (some 725))] s P := by
  obtain ⟨q21, q46, hh, q47, q48, q49, q40, q41, q42⟩ := hq
  refine ms_pre q21 hz q46 hh q47 q49 hst (fun U ld => ?_)
  obtain ⟨u0, u1, u46, u47, u49, u18, u19, u20, u16, ub, ub2, ukp⟩ := ld
  have e18 : U 725 18 = 0 := by rw [u18, q40]; rfl
  refine ⟨fun q => absurd e18 q, fun _ => ?_⟩
  have e21 : U 725 21 = nI z := by rw [u1 21 (by decide) (by decide) (by decide) (by decide)]; exact q21
  have c21 : (U 725 21).toNatClampNeg = z := by rw [e21]; exact nI_clamp (by omega)
  have e48 : U 748 z = nI 0 := by rw [u0 748 (by decide) (by decide) (by decide) (by decide) (by decide)]; exact q48
  refine w_141 U ⟨by rw [e21]; exact rIn_nI hz (by decide), ?_⟩
  have ey : (30 : Int32) * U 725 21 + U 748 (U 725 21).toNatClampNeg = nI (30 * z) := by
    rw [c21, e48, e21, show (30 : Int32) = nI 30 from rfl, pk_mul, nI_add]
    rfl
  rw [ey]
  refine m_ans_loop hz e21 (by rw [u19, q41]) (fun s2 g0 g1 g2 g3 g4 => ?_) 64 0 U rfl (fun _ _ => rfl) (fun j hj => absurd hj (by omega))
  have kp : z = 1 → mKp U s2 := fun hz1 q j hq => by
    by_cases e : q = 748
    · subst e
      exact g3 j (by unfold kpt at hq; omega)
    · rw [g0 q (by unfold kpt at hq; omega) (by unfold kpt at hq; omega) (by unfold kpt at hq; omega) e]
  have both : ∀ s3 : rSg, (∀ q, q ≠ 751 → s3 q = s2 q) → (z = 1 → mKp s2 s3) → P none s3 := by
    intro s3 r1 r2
    refine k s3 (fun q hq => ?_) (fun j h1 h2 h3 h4 => ?_) (fun hz1 => ((ukp hz1).trans (kp hz1)).trans (r2 hz1)) ?_ ?_ ?_ ?_ (fun j hj => ?_)
    · rw [r1 q (by omega), g0 q (by omega) (by omega) (by omega) (by omega), u0 q hq.2 (by omega) (by omega) (by omega) (by omega)]
    · rw [r1 725 (by decide), g0 725 (by decide) (by decide) (by decide) (by decide), u1 j h1 h2 h3 h4]
    · rw [r1 747 (by decide), g0 747 (by decide) (by decide) (by decide) (by decide), u47]
    · rw [r1 748 (by decide), g2, e48]; rfl
    · rw [r1 749 (by decide), g0 749 (by decide) (by decide) (by decide) (by decide), u49]
    · rw [r1 744 (by decide), g1, u49]
    · rw [r1 743 (by decide), g4 j hj, ub j hj]
  refine ⟨rfl, by rw [g0 725 (by decide) (by decide) (by decide) (by decide)]; exact e21, both s2 (fun _ _ => rfl) (fun _ => mKp.rfl'), both _ (fun q hq => up2_nk _ _ _ hq) (fun hz1 => ?_)⟩
  subst hz1
  exact mKp.rfl'.up (by unfold kpt; omega)
/-! goes -/
theorem mg_go {s : rSg} {z : Nat} (hz : z < 2) (h21 : s 725 21 = nI z) (h47 : s 747 z = nI 1) (h48 : s 748 z = nI 0) {y1 y2 : Nat} (hy : y2 < y1) (hy1 : y1 < 2 ^ 31) {P : Option rv → rSg → Prop} (k : EvS rSkel 13 139 [.inr (.inr (some 725))] s (fun v t => v = none ∧ g_137_2 (nI y1) (nI (y2 + 1)) t P)) : g_137_2 (nI y1) (nI y2) s P := by
  refine w_137_2 s (nI y1) (nI y2) ⟨fun q => absurd ((nI_leI hy1 (by omega)).mp q) (by omega), fun _ => (ev_m_isDone 0 s (z := z) (w := 1) (a := 0) h21 hz h47 h48 (by decide) (by decide)).imp ?_⟩
  rintro _ s ⟨rfl, rfl⟩
  refine ⟨_, rfl, fun q => absurd (by decide) q, fun _ => ?_⟩
  rw [nI_1]
  exact k
theorem mg_end {s : rSg} {z : Nat} (hz : z < 2) (h21 : s 725 21 = nI z) (h47 : s 747 z = nI 0) (h48 : s 748 z = nI 1) {y1 y2 : Int32} {P : Option rv → rSg → Prop} (k : P none s) : g_137_2 y1 y2 s P := by
  refine w_137_2 s y1 y2 ⟨fun _ => k, fun _ => (ev_m_isDone 0 s (z := z) (w := 0) (a := 1) h21 hz h47 h48 (by decide) (by decide)).imp ?_⟩
  rintro _ s ⟨rfl, rfl⟩
  exact ⟨_, rfl, fun _ => k, fun q => absurd (by decide) q⟩
theorem mg_out {s : rSg} {y1 y2 : Nat} (h : y1 = y2) {P : Option rv → rSg → Prop} (k : P none s) : g_137_2 (nI y1) (nI y2) s P := by
  subst h
  exact w_137_2 s _ _ ⟨fun _ => k, fun q => absurd (Int32.le_refl _) q⟩
/-! steps -/
theorem cQ_of {s : rSg} {b : Nat} (h : seF s b) : cQ s b 0 0 6 1 (fun _ => nI 0) := by
  obtain ⟨c7, c8, c9, c10, c11, c12, d2, d3, d4, d5⟩ := se_all h
  refine ⟨c7, by decide, c8, c9, c10, d2, d3, d4, fun j hj => ?_⟩
  obtain rfl : j = 0 := by omega
  exact d5
theorem mQ_of {s : rSg} (h : mdF s) : mQ s 0 0 0 1 ∧ s 733 1 = nI 0 ∧ s 735 1 = nI 0 ∧ s 729 0 = 42 := by
  obtain ⟨m39, m40, m48x, m58, m21, m46, m47, m48, m49, m50, m51⟩ := md_all h
  exact ⟨⟨m21, m46, by decide, m47, m48, m49, h.2.2.2.2.2.2.2.2.2.2.2.2.1, h.2.2.2.2.2.2.2.2.2.2.2.2.2.1, h.2.2.2.2.2.2.2.2.2.2.2.2.2.2.1⟩, h.2.2.2.2.2.2.2.2.2.2.2.2.2.2.2.2.2.2.2.1, h.2.2.2.2.2.2.2.2.2.2.2.2.2.2.2.2.2.2.2.2.1, h.2.2.2.2.2.2.2.2.2.2.2.2.2.2.2.2.2.2.2.2.2.2.1⟩
/-- the class's run on '*': one step, or two and an answer -/
theorem c_run {s : rSg} {b : Nat} (hb : isSeaA rSkel b) (h : seF s b) {y1 y2 : Nat} (hy1 : y1 < 2 ^ 31) (hy0 : 0 < y1) (hy2 : 1 ≤ y2) (hy29 : y2 < 2 ^ 31) {P : Option rv → rSg → Prop}
    (k1 : y1 = 1 → ∀ s2 : rSg, (∀ q, b + 223 < q → s2 q = s q) → s2 b 10 = nI 0 → P none s2)
    (k2 : 2 ≤ y1 → ∀ s2 : rSg, (∀ q, b + 223 < q → s2 q = s q) → s2 b 10 = nI 1 → s2 (b + 217) 0 = nI 2 → P none s2) : EvS rSkel 7 36 [.inr (.inr (some b)), .inl (nI y1), .inl (nI y2)] s P := by
  refine w_36 s b hb.1 _ _ ?_
  refine cs_star hb (cQ_of h) (by decide) (by decide) (by decide) (g := 0) rfl (by decide) h.1.2.2.2.2.2.2 hy1 (y3 := 0) hy0 hy2 hy29 (fun s2 a1 q1 => ?_)
  by_cases e1 : y1 = 1
  · exact cs_out hb e1 (k1 e1 s2 (fun q hq => a1.1 q (by omega)) q1.2.2.2.2.1)
  · refine cs_ans hb q1 (by decide) (by decide) hy1 (by omega) hy2 hy29 (fun s3 f0 f8 f9 f10 f17 _ _ => cs_end hb f8 (k2 (by omega) s3 (fun q hq => ?_) f10 f17))
    rw [f0 q (by omega), a1.1 q (by omega)]
theorem o_steps {s : rSg} (hc : clF s) (hm : mdF s) (a : Int32) : opI s 75 161 [.inl a] := by
  obtain ⟨c7, c8, c9, c10, c11, c12, d2, d3, d4, d5⟩ := se_all hc.1
  by_cases h1 : 1 ≤ a
  · by_cases h100 : 100 < a
    · refine op2 hm (d := 8) (d2 := 15) (r := -6) (by decide) (by decide) (w_75 s a ⟨fun _ => ⟨fun _ => c_ref fr.rfl' (-6), fun q => absurd h100 q⟩, fun q => absurd h1 q⟩) (fun s2 h => w_161 s2 a ((ev_m_bound 0 s2 a 1 100).imp ?_))
      rintro _ _ ⟨rfl, rfl⟩
      rw [if_pos h1, if_neg (Int32.not_le.mpr h100)]
      exact ⟨_, rfl, fun _ => ⟨fun q => absurd q (by decide), fun _ => m_ref (by decide) _⟩, fun q => absurd (by decide) q⟩
    · obtain ⟨n, hn, rfl⟩ := nn_of (x := a) (fun q => absurd (Int32.lt_of_lt_of_le (Int32.lt_of_lt_of_le q (by decide)) h1) Int32.lt_irrefl)
      have n1 : 1 ≤ n := (nI_leI (a := 1) (by decide) hn).mp h1
      have n100 : n ≤ 100 := by
        have h9 : ¬ 100 < n := fun q => h100 ((nI_ltI (a := 100) (by decide) hn).mpr q)
        omega
      have e300 : (0 : Int32) + nI n ≤ 300 := by
        rw [show (0 : Int32) + nI n = nI n from Int32.zero_add _]
        exact (nI_leI (b := 300) hn (by decide)).mpr (by omega)
      have mm : ∀ s2, mdF s2 → ∀ r, (∀ Q : Option rv → rSg → Prop, (∀ t : rSg, t 748 0 = r → Q none t) → EvS rSkel 14 137 [.inr (.inr (some 725)), .inl (nI n)] s2 Q) → EvS rSkel 15 161 [.inr (.inr (some 725)), .inl (nI n)] s2 (fun v2 _ => v2 = some (.inl r)) := by
        intro s2 h r hr
        have e49 := (md_all h).2.2.2.2.2.2.2.2.1
        refine w_161 s2 (nI n) ((ev_m_bound 0 s2 (nI n) 1 100).imp ?_)
        rintro _ s2 ⟨rfl, rfl⟩
        rw [if_pos h1, if_pos (Int32.not_lt.mp h100)]
        refine ⟨_, rfl, fun q => absurd rfl q, fun _ => ⟨fun _ => ⟨fun _ => hr _ (fun t ht => ⟨rfl, by rw [ht]⟩), fun q => absurd rfl q⟩, fun q => absurd (by rw [e49]; exact e300) q⟩⟩
      by_cases e1 : n = 1
      · refine op2 hm (d := 8) (d2 := 15) (r := 0) (by decide) (by decide) (w_75 s (nI n) ⟨fun _ => ⟨fun q => absurd q h100, fun _ => ⟨fun _ => ?_, fun q => absurd (by rw [c9]; exact e300) q⟩⟩, fun q => absurd h1 q⟩) (fun s2 h => mm s2 h 0 (fun Q hQ => ?_))
        · exact c_run seaA6 hc.1 hn (by omega) (y2 := 30) (by decide) (by decide) (fun _ t f1 f2 => ⟨rfl, by rw [f2]; rfl, fun q hq => f1 q (by omega)⟩) (fun q => absurd e1 (by omega))
        · obtain ⟨mq, m1, m2, m3⟩ := mQ_of h
          refine w_137 s2 (nI n) (mg_go (z := 0) (by decide) mq.1 mq.2.2.2.1 mq.2.2.2.2.1 (y2 := 0) (by omega) hn (ms_star (by decide) mq (by decide) (by decide) (by decide) m1 (by decide) m2 m3 (fun t _ _ _ _ tq => ⟨rfl, mg_out e1 (hQ t tq.2.2.2.2.1)⟩)))
      · refine op2 hm (d := 8) (d2 := 15) (r := 1) (by decide) (by decide) (w_75 s (nI n) ⟨fun _ => ⟨fun q => absurd q h100, fun _ => ⟨fun _ => ?_, fun q => absurd (by rw [c9]; exact e300) q⟩⟩, fun q => absurd h1 q⟩) (fun s2 h => mm s2 h 1 (fun Q hQ => ?_))
        · exact c_run seaA6 hc.1 hn (by omega) (y2 := 30) (by decide) (by decide) (fun q => absurd q e1) (fun _ t f1 f2 _ => ⟨rfl, by rw [f2]; rfl, fun q hq => f1 q (by omega)⟩)
        · obtain ⟨mq, m1, m2, m3⟩ := mQ_of h
          refine w_137 s2 (nI n) (mg_go (z := 0) (by decide) mq.1 mq.2.2.2.1 mq.2.2.2.2.1 (y2 := 0) (by omega) hn (ms_star (by decide) mq (by decide) (by decide) (by decide) m1 (by decide) m2 m3 (fun t _ _ _ _ tq => ⟨rfl, ?_⟩)))
          refine mg_go (z := 0) (by decide) tq.1 tq.2.2.2.1 tq.2.2.2.2.1 (y2 := 1) (by omega) hn (ms_ans (by decide) tq (by decide) (fun u g0 g1 g2 g3 g4 g5 g6 g7 => ⟨rfl, ?_⟩))
          exact mg_end (z := 0) (by decide) (by rw [g1 21 (by decide) (by decide) (by decide) (by decide)]; exact tq.1) g3 g4 (hQ u g4)
  · refine op2 hm (d := 8) (d2 := 15) (r := -4) (by decide) (by decide) (w_75 s a ⟨fun q => absurd q h1, fun _ => c_ref fr.rfl' (-4)⟩) (fun s2 h => w_161 s2 a ((ev_m_bound 0 s2 a 1 100).imp ?_))
    rintro _ _ ⟨rfl, rfl⟩
    rw [if_neg h1]
    exact ⟨_, rfl, fun _ => ⟨fun q => absurd q (by decide), fun _ => m_ref (by decide) _⟩, fun q => absurd (by decide) q⟩
