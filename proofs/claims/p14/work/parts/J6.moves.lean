/-! STEPS, GOAL, IMAGE, ON: both, exactly -/
theorem hQ.run {s t : rSg} {b : Nat} {C : Cf} {nG nT : Nat} {tb : Tb} {Q Q2 : Qx} (e1 : C.tb = tb) (e2 : C.ng = nG) (e3 : cfT C 0) (e4 : C.wt 0 ≤ 24) (e5 : nG ≤ 24) (e6 : nT ≤ 40) (h8 : scT C s (b + 1) 0 nT) (h : cSe C t b Q2) (f : frR b s t) : hQ t b tb nG nT Q2 := by
  obtain ⟨s1, s2, s3, s4, s5, s6, s7⟩ := h8
  obtain ⟨np, gl, g1, g2⟩ := id h
  exact ⟨C, e1, e2, e3, e4, e5, e6, h, by rw [f.2 5 (by omega)]; exact s1, by rw [f.2 6 (by omega)]; exact s2, by rw [f.2 7 (by omega)]; exact s3, by rw [f.2 8 (by omega)]; exact s4, g1.2.2.2.1, g1.2.2.2.2, s7⟩
/-- the class's part of a move -/
def cmv (s t : rSg) : Prop := ∀ q, q = 0 ∨ (454 ≤ q ∧ q ≤ 677) ∨ (687 ≤ q ∧ q ≤ 691) ∨ 725 ≤ q → t q = s q
theorem cx_75 {s : rSg} {A : Ab} {im : Option Ab} (h : clI s) {l : Nat} (hl : cSn s l) (hl9 : l + 5304000 + 30000 < 2 ^ 32) (c : CJ s A im) (hst : A.Q.2.2.1 ≤ 300) (x : Int32) : EvS rSkel 8 75 [.inr (.inr (some 0)), .inl x] s (fun v t => (∃ N Q2, (1 ≤ N ∧ N ≤ 100 ∧ x = nI N ∧ A.Q.2.2.1 + N ≤ 300) ∧ gos A.tb 30 N A.Q Q2 ∧ v = some (.inl (nI Q2.2.1.length)) ∧ hQ t 6 A.tb A.nG A.nT Q2 ∧ cmv s t ∧ (∃ m, m ≤ l + 442000 ∧ cSn t m) ∧ clI t) ∨ (∃ z, ((z = -4 ∧ ¬ 1 ≤ x) ∨ (z = -6 ∧ 1 ≤ x ∧ (100 < x ∨ ¬ nI A.Q.2.2.1 + x ≤ 300))) ∧ v = some (.inl z) ∧ (∀ q, q ≠ 691 → t q = s q) ∧ t 691 = rfC (some z) (s 691))) := by
  have f := c.1.f
  have no : ∀ z : Int32, rIn (-z) 7 = true ∧ ¬ (-z) < 0 ∧ ¬ (Int32.ofNat 7) ≤ (-z) → ((z = -4 ∧ ¬ 1 ≤ x) ∨ (z = -6 ∧ 1 ≤ x ∧ (100 < x ∨ ¬ nI A.Q.2.2.1 + x ≤ 300))) → EvS rSkel 1 72 [.inr (.inr (some 0)), .inl z] s (fun v t => ∃ n, v = some (.inl n) ∧ ((∃ N Q2, (1 ≤ N ∧ N ≤ 100 ∧ x = nI N ∧ A.Q.2.2.1 + N ≤ 300) ∧ gos A.tb 30 N A.Q Q2 ∧ some (.inl n : rv) = some (.inl (nI Q2.2.1.length)) ∧ hQ t 6 A.tb A.nG A.nT Q2 ∧ cmv s t ∧ (∃ m, m ≤ l + 442000 ∧ cSn t m) ∧ clI t) ∨ (∃ z, ((z = -4 ∧ ¬ 1 ≤ x) ∨ (z = -6 ∧ 1 ≤ x ∧ (100 < x ∨ ¬ nI A.Q.2.2.1 + x ≤ 300))) ∧ some (.inl n : rv) = some (.inl z) ∧ (∀ q, q ≠ 691 → t q = s q) ∧ t 691 = rfC (some z) (s 691)))) := fun z hz hc => (cx_72r (P := fun v t => v = some (.inl z) ∧ (∀ q, q ≠ 691 → t q = s q) ∧ t 691 = rfC (some z) (s 691)) hz (fun t t1 t2 => ⟨rfl, t1, t2⟩)).imp (fun v t q => by
    obtain ⟨n, e, q1, q2, q3⟩ := q
    exact ⟨n, e, Or.inr ⟨z, hc, q1, q2, q3⟩⟩)
  refine w_75 s x ⟨fun h1 => ⟨fun h2 => no _ (by decide) (Or.inr ⟨rfl, h1, Or.inl h2⟩), fun h2 => ⟨fun h3 => ?_, fun h3 => no _ (by decide) (Or.inr ⟨rfl, h1, Or.inr (by rw [← f.2.1]; exact h3)⟩)⟩⟩, fun h1 => no _ (by decide) (Or.inl ⟨rfl, h1⟩)⟩
  have hx0 : ¬ x < 0 := fun z => Int32.lt_irrefl (Int32.lt_of_lt_of_le z (Int32.le_trans (show (0 : Int32) ≤ 1 by decide) h1))
  obtain ⟨N, hN, rfl⟩ := nn_of hx0
  have k1 := (nI_leI (a := 1) (by decide) hN).mp h1
  have k2 : N ≤ 100 := by
    have : ¬ 100 < N := fun z => h2 ((nI_ltI (a := 100) (by decide) hN).mpr z)
    omega
  have k3 : A.Q.2.2.1 + N ≤ 300 := by
    rw [f.2.1, nI_add] at h3
    exact (nI_leI (b := 300) (by omega) (by decide)).mp h3
  obtain ⟨C, e1, e2, e3, e4, e5, e6, e7, e8⟩ := c.1
  refine (ce_36 e3.1 seaA6 (by omega) (en := 30) (by decide) e7 k3 hl (by omega)).imp ?_
  rintro _ t ⟨rfl, Q2, q1, q2, ⟨l2, q3, q4⟩, q5⟩
  refine ⟨rfl, Or.inl ⟨N, Q2, ⟨k1, k2, rfl, k3⟩, by rw [← e1]; exact q1, by rw [q2.ten.1], hQ.run (Q := A.Q) e1 e2 e3 e4 e5 e6 e8 q2 q5, fun q hq => q5.1 q (by omega) (by omega), ⟨l2, by omega, q3⟩, q2.sea, h.2.1.ext (q5.1 230 (by omega) (by omega)), h.2.2.ext (q5.1 454 (by omega) (by omega))⟩⟩
theorem mx_161 {s : rSg} {A : Ab} {im : Option Ab} (h : MJ s A im) (x : Int32) : EvS rSkel 15 161 [.inr (.inr (some 725)), .inl x] s (fun v t => (∃ N Q2, (1 ≤ N ∧ N ≤ 100 ∧ x = nI N ∧ A.Q.2.2.1 + N ≤ 300) ∧ gos A.tb 30 N A.Q Q2 ∧ v = some (.inl (nI Q2.2.1.length)) ∧ MJ t (A.tb, A.nG, A.nT, Q2) im ∧ mK kZ jZ s t) ∨ (∃ z, ((z = -4 ∧ ¬ 1 ≤ x) ∨ (z = -6 ∧ 1 ≤ x ∧ (100 < x ∨ ¬ nI A.Q.2.2.1 + x ≤ 300))) ∧ v = some (.inl z) ∧ (∀ q, q ≠ 726 → t q = s q) ∧ t 726 = rfC (some z) (s 726))) := by
  obtain ⟨T, G, L, hd, g, r1, r2, r3, r4, r5, r6, r7⟩ := id h
  have f := h.f
  have b1 := r1.1.1
  have b5 := r5.1
  have no : ∀ z : Int32, rIn (-z) 7 = true → ((z = -4 ∧ ¬ 1 ≤ x) ∨ (z = -6 ∧ 1 ≤ x ∧ (100 < x ∨ ¬ nI A.Q.2.2.1 + x ≤ 300))) → EvS rSkel 1 128 [.inr (.inr (some 725)), .inl z] s (fun v t => ∃ n, v = some (.inl n) ∧ ((∃ N Q2, (1 ≤ N ∧ N ≤ 100 ∧ x = nI N ∧ A.Q.2.2.1 + N ≤ 300) ∧ gos A.tb 30 N A.Q Q2 ∧ some (.inl n : rv) = some (.inl (nI Q2.2.1.length)) ∧ MJ t (A.tb, A.nG, A.nT, Q2) im ∧ mK kZ jZ s t) ∨ (∃ z, ((z = -4 ∧ ¬ 1 ≤ x) ∨ (z = -6 ∧ 1 ≤ x ∧ (100 < x ∨ ¬ nI A.Q.2.2.1 + x ≤ 300))) ∧ some (.inl n : rv) = some (.inl z) ∧ (∀ q, q ≠ 726 → t q = s q) ∧ t 726 = rfC (some z) (s 726)))) := fun z hz hc => (mx_128r (P := fun v t => v = some (.inl z) ∧ (∀ q, q ≠ 726 → t q = s q) ∧ t 726 = rfC (some z) (s 726)) hz (fun t t1 t2 => ⟨rfl, t1, t2⟩)).imp (fun v t q => by
    obtain ⟨n, e, q1, q2, q3⟩ := q
    exact ⟨n, e, Or.inr ⟨z, hc, q1, q2, q3⟩⟩)
  refine w_161 s x (ms_127 s x 1 100 (fun h1 h2 => ⟨_, rfl, fun q => absurd rfl q, fun _ => ⟨fun h3 => ⟨fun _ => ?_, fun q => absurd rfl q⟩, fun h3 => no _ (by decide) (Or.inr ⟨rfl, h1, Or.inr (by rw [← f.2.2.1]; exact h3)⟩)⟩⟩) (fun h1 h2 => ⟨_, rfl, fun _ => ⟨fun q => absurd q (by decide), fun _ => no _ (by decide) (Or.inr ⟨rfl, h1, Or.inl (Int32.not_le.mp h2)⟩)⟩, fun q => absurd (by decide) q⟩) (fun h1 => ⟨_, rfl, fun _ => ⟨fun q => absurd q (by decide), fun _ => no _ (by decide) (Or.inl ⟨rfl, h1⟩)⟩, fun q => absurd (by decide) q⟩))
  have hx0 : ¬ x < 0 := fun z => Int32.lt_irrefl (Int32.lt_of_lt_of_le z (Int32.le_trans (show (0 : Int32) ≤ 1 by decide) h1))
  obtain ⟨N, hN, rfl⟩ := nn_of hx0
  have k1 := (nI_leI (a := 1) (by decide) hN).mp h1
  have k2 : N ≤ 100 := (nI_leI (b := 100) hN (by decide)).mp h2
  have k3 : A.Q.2.2.1 + N ≤ 300 := by
    rw [f.2.2.1, nI_add] at h3
    exact (nI_leI (b := 300) (by omega) (by decide)).mp h3
  refine (fs_137 r1 r5.2.2 (N := N) (by omega) (by omega) (by omega) (by omega)).imp ?_
  rintro _ t ⟨rfl, Q2, m, hm9, g1, g2, g3, T3, G3, L3, h3', y1, y2, y3, y4, y5, y6⟩
  have k := y6.1
  refine ⟨rfl, Or.inl ⟨N, Q2, ⟨k1, k2, rfl, k3⟩, g1, by rw [y1.2.2.1.2.2.1.1], ⟨T3, G3, L3, h3', g, y1, ?_, ⟨by rw [k.2 47 (by simp [jZ])]; exact r3.1, r3.2.1, by omega, ?_⟩, by rw [k.2 40 (by simp [jZ]), k.1 753 (by decide) (by simp [kZ])]; exact r4, ⟨?_, rcd_gos r5.2.1 g1, g2⟩, fun z => by rw [k.2 48 (by simp [jZ])]; exact r6 z, fun B z => by rw [k.2 48 (by simp [jZ]), k.2 41 (by simp [jZ]), k.2 42 (by simp [jZ]), k.1 754 (by decide) (by simp [kZ])]; exact r7 B z⟩, k⟩⟩
  · show T3 ≤ 115 + 2 * Q2.2.2.1 ∧ G3 ≤ 24 + Q2.2.2.1 ∧ L3 ≤ 2 + 25 * Q2.2.2.1
    rw [g3]
    omega
  · rw [nh_ext r1.1.2.2.2 (by omega) y5.2.1 r3.2.2.1]
    exact r3.2.2.2
  · show Q2.2.2.1 ≤ 300
    omega
theorem l9_of {k l : Nat} (h6 : l + (k + 1) * 5304000 + 30000 < 2 ^ 32) : l + 5304000 + 30000 < 2 ^ 32 := Nat.lt_of_le_of_lt (Nat.add_le_add_right (Nat.add_le_add_left (by rw [Nat.add_mul, Nat.one_mul]; exact Nat.le_add_left _ _) l) _) h6
/-- JI behind a move -/
theorem JI.mv {k : Nat} {s t u : rSg} {A : Ab} {im : Option Ab} (hs : SH s) (c1 : clI t) (c2 : CJ t A im) (c3 : ∀ q, (687 ≤ q ∧ q ≤ 691) ∨ 725 ≤ q → t q = s q) {l m : Nat} (hm : m ≤ l + 5304000) (c4 : cSn t m) (h6 : l + (k + 1) * 5304000 + 30000 < 2 ^ 32) (m1 : MJ u A im) (m2 : mC t u) (m3 : (u 752 = t 752 ∧ u 759 = t 759) ∧ (u 725 39 = t 725 39 ∧ u 725 58 = t 725 58)) (m4 : u 726 = t 726) : JI k u := by
  refine ⟨A, im, c1.cong m2, c2.cong m2, m1, ?_, m, cSn_fr c4 (by rw [m2 1 (by decide)]) (m2 5 (by decide)), ?_⟩
  · obtain ⟨⟨n, n1, n2, n3, n4⟩, ⟨q, q1, q2, q3, q4⟩, h3⟩ := hs
    refine ⟨⟨n, n1, by rw [m2 687 (by decide), c3 687 (by omega)]; exact n2, by rw [m3.2.1, c3 725 (by omega)]; exact n3, fun i hi => by rw [m2 688 (by decide), c3 688 (by omega), m3.1.1, c3 752 (by omega)]; exact n4 i hi⟩, ⟨q, q1, by rw [m2 689 (by decide), c3 689 (by omega)]; exact q2, by rw [m3.2.2, c3 725 (by omega)]; exact q3, fun i hi => by rw [m2 690 (by decide), c3 690 (by omega), m3.1.2, c3 759 (by omega)]; exact q4 i hi⟩, ?_⟩
    rw [m2 691 (by decide), c3 691 (by omega), m4, c3 726 (by omega), h3]
  · rw [Nat.add_mul, Nat.one_mul] at h6
    omega
/-- JI behind a refusal -/
theorem JI.no {k : Nat} {s t u : rSg} {A : Ab} {im : Option Ab} (h1 : clI s) (h2 : CJ s A im) (h3 : MJ s A im) (hs : SH s) {l : Nat} (h5 : cSn s l) (h6 : l + (k + 1) * 5304000 + 30000 < 2 ^ 32) {z : Int32} (e1 : ∀ q, q ≠ 691 → t q = s q) (e2 : t 691 = rfC (some z) (s 691)) (d1 : ∀ q, q ≠ 726 → u q = t q) (d2 : u 726 = rfC (some z) (t 726)) : JI k u :=
  JI.rows h1 h2 h3 h5 h6 (fun q hq => e1 q (by omega)) (fun q hq => d1 q (by omega)) ⟨fun q _ g => d1 q (fun e => g (by simp [kJ, e])), fun j _ => by rw [d1 725 (by decide)]⟩ (hs.both (t := t) (u := u) (o := some z) (fun q hq => e1 q (by omega)) e2 (fun q hq => d1 q (by omega)) ⟨⟨d1 752 (by decide), d1 759 (by decide)⟩, by rw [d1 725 (by decide)], by rw [d1 725 (by decide)]⟩ d2)
theorem oX_steps {k : Nat} {s : rSg} (h : JI (k + 1) s) (x : Int32) : opX s k 75 161 [.inl x] := by
  obtain ⟨A, im, h1, h2, h3, hs, l, h5, h6⟩ := h
  have hst : A.Q.2.2.1 ≤ 300 := by
    obtain ⟨_, _, _, _, _, _, _, _, _, q, _⟩ := h3
    exact q.1
  have l9 := l9_of h6
  refine ((cx_75 h1 h5 l9 h2 hst x).up (by decide)).imp ?_
  rintro _ t (⟨N, Q2, ⟨a1, a2, a3, a4⟩, a5, rfl, a6, a7, ⟨m, a8, a9⟩, a10⟩ | ⟨z, hz, rfl, e1, e2⟩)
  · refine ⟨_, rfl, ((mx_161 (h3.cong (fun q hq => a7 q (by omega))) x).up (by decide)).imp ?_⟩
    rintro _ u (⟨N2, Q3, ⟨b1, b2, b3, b4⟩, b5, rfl, b6, b7⟩ | ⟨z, hz, rfl, _⟩)
    · have e : N = N2 := by
        rw [a3] at b3
        exact (nI_eq (by omega) (by omega)).mp b3
      subst e
      obtain rfl := gos_uniq a5 b5
      refine ⟨rfl, JI.mv (A := (A.tb, A.nG, A.nT, Q2)) (im := im) (t := t) hs a10 ⟨a6, fun z => by rw [a7 0 (by omega)]; exact h2.2.1 z, fun B z => ?_⟩ (fun q hq => a7 q (by omega)) (l := l) (m := m) (by omega) a9 h6 b6 (b7.C kZ_ge) ⟨⟨b7.1 752 (by decide) (by simp [kZ]), b7.1 759 (by decide) (by simp [kZ])⟩, b7.2 39 (by simp [jZ]), b7.2 58 (by simp [jZ])⟩ (b7.1 726 (by decide) (by simp [kZ]))⟩
      obtain ⟨d1, d2⟩ := h2.2.2 B z
      exact ⟨by rw [a7 0 (by omega)]; exact d1, hQ_frame d2 (fun q z1 z2 => a7 q (by omega))⟩
    · exfalso
      rcases hz with ⟨_, z1⟩ | ⟨_, z1, z2 | z2⟩
      · exact z1 (by rw [a3]; exact nI_le (a := 1) a1 (by omega))
      · rw [a3] at z2; have := (nI_ltI (a := 100) (by decide) (by omega)).mp z2; omega
      · exact z2 (by rw [a3, nI_add]; exact nI_le (b := 300) (by omega) (by decide))
  · refine ⟨_, rfl, ((mx_161 (h3.cong (fun q hq => e1 q (by omega))) x).up (by decide)).imp ?_⟩
    rintro _ u (⟨N2, Q3, ⟨b1, b2, b3, b4⟩, b5, rfl, b6, b7⟩ | ⟨z2, hz2, rfl, d1, d2⟩)
    · exfalso
      rcases hz with ⟨_, z1⟩ | ⟨_, z1, z2 | z2⟩
      · exact z1 (by rw [b3]; exact nI_le (a := 1) b1 (by omega))
      · rw [b3] at z2; have := (nI_ltI (a := 100) (by decide) (by omega)).mp z2; omega
      · exact z2 (by rw [b3, nI_add]; exact nI_le (b := 300) (by omega) (by decide))
    · have e : z = z2 := by
        rcases hz with ⟨q1, q2⟩ | ⟨q1, q2, _⟩ <;> rcases hz2 with ⟨p1, p2⟩ | ⟨p1, p2, _⟩
        · rw [q1, p1]
        · exact absurd p2 q2
        · exact absurd q2 p2
        · rw [q1, p1]
      subst e
      exact ⟨rfl, JI.no h1 h2 h3 hs h5 h6 e1 e2 d1 d2⟩
/-! goal -/
theorem RRun_in {tx : Nat → Int32} {n : Nat} : ∀ {f i : Nat} {S : rdS} {j : Nat}, i + f = n → RRun tx n f i S (.inl j) → j ≤ n
  | 0, i, ([], ng, nt, bad), j, hi, h => by
    rcases h with ⟨_, h⟩ | ⟨_, h⟩
    · cases h
    · cases h; omega
  | 0, i, (_ :: _, ng, nt, bad), j, hi, h => by
    have h : (Sum.inl j : Nat ⊕ (Nat × Nat × Option Nat)) = .inl i := h
    cases h; omega
  | f + 1, i, ([], ng, nt, bad), j, hi, h => by
    rcases h with ⟨_, h⟩ | ⟨_, h⟩
    · cases h
    · cases h; omega
  | f + 1, i, (w :: l, ng, nt, bad), j, hi, h => by
    rcases h with ⟨S2, _, h⟩ | ⟨_, h⟩
    · exact RRun_in (by omega) h
    · cases h; omega
theorem neg_out {j : Nat} (h : j ≤ 96) : ¬ (0 : Int32) ≤ (-1000) - nI j := by
  have : ∀ j, j < 97 → ¬ (0 : Int32) ≤ (-1000) - nI j := by decide
  exact this j (by omega)
theorem neg_out2 {j : Nat} (h : j ≤ 96) : ¬ (0 : Int32) ≤ (-2000) - nI j := by
  have : ∀ j, j < 97 → ¬ (0 : Int32) ≤ (-2000) - nI j := by decide
  exact this j (by omega)
theorem cx_73 {s : rSg} {n : Nat} (hn : n ≤ 96) (hr : s 687 1 = nI n) {nG nT : Nat} (b1 : nG ≤ 24) (b2 : nT ≤ 40) (hR : RRun (s 688) n n 0 ([103], 0, 0, none) (.inr (nG, nT, none))) {tb : Tb} (hM : MRt (s 688) tb n) : EvS rSkel 5 73 [.inr (.inr (some 0))] s (fun v t => v = some (.inl (nI nG)) ∧ hQ t 6 tb nG nT (bgn 0) ∧ (∀ q, q < 6 ∨ q = 230 ∨ (234 < q ∧ q < 678) ∨ (681 < q ∧ q ≠ 687) → t q = s q) ∧ t 687 1 = nI 0) := by
  refine w_73 s ((ct_5 hn hr hR).imp ?_)
  rintro _ t ⟨rfl, t1, tp, t2, t3, t4⟩
  obtain ⟨C, e1, e2, e3, e4, e5, e6⟩ := told_of hn b1 b2 hR hM t4 t3
  refine ⟨_, rfl, w_18 t 687 96 row687 ⟨rfl, fun _ => ?_, fun q => absurd (nI_le (a := 0) (by omega) (by omega)) q⟩⟩
  have htp : C.tp ≤ 640 := by omega
  have sc : scT C (up2 t 687 1 0) 231 0 nT := scT_frame htp e6 (fun q g1 g2 => up2_nk _ _ _ (by omega))
  refine (ce_26 e5.1 scr7 scr231 (by omega) sc).imp ?_
  rintro _ u ⟨rfl, u1, u2⟩
  refine ⟨rfl, (ce_33 e5 seaA6 u1).imp ?_⟩
  rintro _ w ⟨rfl, w1, w2, w3⟩
  refine ⟨rfl, rfl, ⟨C, e1, e2, e5, e4, b1, b2, w1, w2⟩, fun q hq => ?_, ?_⟩
  · rw [w3 q (by omega), u2 q (by omega) (by omega) (by omega) (by omega), up2_nk _ _ _ (by omega), t1 q (by omega)]
  · rw [w3 687 (by omega), u2 687 (by decide) (by decide) (by decide) (by decide), up2_same]; rfl
theorem cx_73n {s : rSg} {n : Nat} (hn : n ≤ 96) (hr : s 687 1 = nI n) (hno : ∀ nG nT, ¬ RRun (s 688) n n 0 ([103], 0, 0, none) (.inr (nG, nT, none))) : EvS rSkel 5 73 [.inr (.inr (some 0))] s (fun v t => (∃ r, RRun (s 688) n n 0 ([103], 0, 0, none) r ∧ cOut v r) ∧ (∀ q, q < 231 ∨ (234 < q ∧ q < 678) ∨ (681 < q ∧ q ≠ 687) → t q = s q) ∧ t 687 1 = nI 0) := by
  refine w_73 s ((cs_5 hn hr).imp ?_)
  rintro v t ⟨r, hR, ho, ht⟩
  have hv : ∃ x : Int32, v = some (.inl x) ∧ ¬ 0 ≤ x := by
    cases r with
    | inl j =>
      refine ⟨_, ho, ?_⟩
      have jn := RRun_in (by omega) hR
      exact neg_out (by omega)
    | inr x =>
      obtain ⟨a, b, c⟩ := x
      cases c with
      | none => exact absurd hR (hno a b)
      | some c =>
        refine ⟨_, ho, ?_⟩
        have ok := RRun_ok n 0 _ a b (some c) rd0.1 rd0.2 hR
        have := ok.2.2.2.1 c rfl
        exact neg_out2 (by omega)
  obtain ⟨x, rfl, hx⟩ := hv
  refine ⟨_, rfl, w_18 t 687 96 row687 ⟨rfl, fun q => absurd q hx, fun _ => ⟨⟨r, hR, ho⟩, fun q hq => ?_, ?_⟩⟩⟩
  · rw [up2_nk _ _ _ (by omega), ht q (by omega)]
  · rw [up2_same]; rfl
