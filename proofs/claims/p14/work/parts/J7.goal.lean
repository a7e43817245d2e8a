/-! GOAL, IMAGE, ON: the reference, and both -/
def mgo (s t : rSg) : Prop := mC s t ∧ (t 752 = s 752 ∧ t 759 = s 759) ∧ t 725 39 = nI 0 ∧ t 725 58 = s 725 58 ∧ t 726 = s 726
theorem mx_129 {s : rSg} {A : Ab} {im : Option Ab} (h : MJ s A im) {n : Nat} (h39 : s 725 39 = nI n) (hn : n ≤ 96) {nG nT : Nat} (b1 : nG ≤ 24) (b2 : nT ≤ 40) (hR : RRun (s 752) n n 0 ([103], 0, 0, none) (.inr (nG, nT, none))) {tb : Tb} (hM : MRt (s 752) tb n) : EvS rSkel 5 129 [.inr (.inr (some 725))] s (fun v t => v = some (.inl (nI nG)) ∧ MJ t (tb, nG, nT, bgn 0) im ∧ mgo s t) := by
  obtain ⟨T, G, L, hd, g, r1, r2, r3, r4, r5, r6, r7⟩ := id h
  refine w_129 s ((ms_130 (tx := s 752) hn h39 (fun _ _ => rfl)).imp ?_)
  rintro v t ⟨r, hR2, ho, k⟩
  obtain rfl := RRun_det n 0 _ _ _ hR hR2
  obtain ⟨rfl, h43, h45, h46, h44⟩ := ho
  have t39 : t 725 39 = nI n := by rw [k.2 39 (by simp)]; exact h39
  refine ⟨_, rfl, fun _ => ⟨fun hb => ?_, fun hb => absurd (by rw [h44]; decide) hb⟩, fun q => absurd (by decide) q⟩
  rw [t39]
  refine ms_129b hn (fun u h1 h2 => ?_) n 0 _ (by omega) (fun _ _ => rfl) (fun j hj => absurd hj (by omega))
  refine w_129_46 u _ _ ⟨fun _ => ?_, fun q => absurd (nI_le (by omega) (by omega)) q⟩
  have u5 : ∀ j, u 725 j = up2 t 725 39 0 725 j := fun j => by rw [h1 725 (by decide)]
  have utx : ∀ i, i < n → up2 u 725 40 (nI n) 753 i = s 752 i := fun i hi => by rw [up2_nk _ _ _ (by decide), h2 i hi, up2_nk _ _ _ (by decide), k.1 752 (by decide) (by simp)]
  have hR3 := RRun_congr utx n 0 _ _ (by omega) hR
  have hM3 := hM.congr utx
  refine (fs_114 (s := up2 u 725 40 (nI n)) (tb := tb) (up2_same _ _ _ _) hn b1 b2 hR3 hM3).imp ?_
  rintro _ x ⟨rfl, T2, g2, x1, x2, x3, x4, x5, x6⟩
  have xf : ∀ j, j ∉ jZ ++ [21, 47] → j ≠ 40 → j ≠ 39 → j ∉ [17, 43, 44, 45, 46] → x 725 j = s 725 j := fun j a b c d => by rw [x6.2 j a, up2_nj _ _ _ b, u5 j, up2_nj _ _ _ c, k.2 j d]
  have xc : ∀ q, q ≠ 725 → q ∉ kZ → q ≠ 753 → q ≠ 755 → x q = s q := fun q a b c d => by rw [x6.1 q a b, up2_nk _ _ _ a, h1 q c, up2_nk _ _ _ a, k.1 q a (by simp [d])]
  refine ⟨rfl, ?_, ⟨T2, nG, 2, 0, g2, x1, ?_, ⟨x3, x4, by omega, x5⟩, ⟨n, ?_, hn, b1, b2, ?_, ?_⟩, ⟨Nat.zero_le _, rcd_bgn tb, show 1 ≤ 40 by decide⟩, fun z => ?_, fun B z => ?_⟩, ⟨fun q hq => xc q (by omega) (fun e => by have := kZ_ge q e; omega) (by omega) (by omega), ⟨xc 752 (by decide) (by simp [kZ]) (by decide) (by decide), xc 759 (by decide) (by simp [kZ]) (by decide) (by decide)⟩, ?_, xf 58 (by simp [jZ]) (by decide) (by decide) (by simp), xc 726 (by decide) (by simp [kZ]) (by decide) (by decide)⟩⟩
  · rw [x6.2 45 (by simp [jZ]), up2_nj _ _ _ (by decide), u5 45, up2_nj _ _ _ (by decide), h45]
  · show T2 ≤ 115 + 2 * 0 ∧ nG ≤ 24 + 0 ∧ 2 ≤ 2 + 25 * 0
    omega
  · rw [x6.2 40 (by simp [jZ]), up2_same]
  · exact RRun_congr (fun i _ => by rw [x6.1 753 (by decide) (by simp [kZ])]) n 0 _ _ (by omega) hR3
  · exact hM3.congr (fun i _ => by rw [x6.1 753 (by decide) (by simp [kZ])])
  · rw [xf 48 (by simp [jZ]) (by decide) (by decide) (by simp)]; exact r6 z
  · rw [xf 48 (by simp [jZ]) (by decide) (by decide) (by simp), xf 41 (by simp [jZ]) (by decide) (by decide) (by simp), xf 42 (by simp [jZ]) (by decide) (by decide) (by simp), xc 754 (by decide) (by simp [kZ]) (by decide) (by decide)]
    exact r7 B z
  · rw [x6.2 39 (by simp [jZ]), up2_nj _ _ _ (by decide), u5 39, up2_same]; rfl
theorem mx_129n {s : rSg} {A : Ab} {im : Option Ab} (h : MJ s A im) {n : Nat} (h39 : s 725 39 = nI n) (hn : n ≤ 96) (hno : ∀ nG nT, ¬ RRun (s 752) n n 0 ([103], 0, 0, none) (.inr (nG, nT, none))) : EvS rSkel 5 129 [.inr (.inr (some 725))] s (fun v t => (∃ r, RRun (s 752) n n 0 ([103], 0, 0, none) r ∧ cOut v r) ∧ MJ t A im ∧ mgo s t) := by
  refine w_129 s ((ms_130 (tx := s 752) hn h39 (fun _ _ => rfl)).imp ?_)
  rintro v t ⟨r, hR, ho, k⟩
  have kf : mK kJ (jI ++ [39, 58]) s (up2 t 725 39 0) := (k.mono (by simp [kJ]) (by simp [jI])).upF (by simp [jI])
  have k2 : mK [755] [17, 39, 43, 44, 45, 46] s (up2 t 725 39 0) := (k.mono (by simp) (by simp)).upF (by simp)
  have same : MJ (up2 t 725 39 0) A im := h.K kf
  have fr : mgo s (up2 t 725 39 0) := ⟨k2.C (by simp), ⟨k2.1 752 (by decide) (by simp), k2.1 759 (by decide) (by simp)⟩, by rw [up2_same]; rfl, k2.2 58 (by simp), k2.1 726 (by decide) (by simp)⟩
  cases r with
  | inl j =>
    obtain ⟨rfl, h43⟩ := ho
    exact ⟨_, rfl, fun q => absurd rfl q, fun _ => ⟨⟨_, hR, by rw [h43]; rfl⟩, same, fr⟩⟩
  | inr x =>
    obtain ⟨ng, nt, bad⟩ := x
    cases bad with
    | none => exact absurd hR (hno ng nt)
    | some b =>
      obtain ⟨rfl, h43, h45, h46, h44⟩ := ho
      have ok := RRun_ok n 0 _ ng nt (some b) rd0.1 rd0.2 hR
      have bn := ok.2.2.2.1 b rfl
      exact ⟨_, rfl, fun _ => ⟨fun hb => absurd hb (by rw [h44]; exact nI_pos (by omega)), fun _ => ⟨⟨_, hR, by rw [h44]; rfl⟩, same, fr⟩⟩, fun q => absurd (by decide) q⟩
theorem oX_goal {k : Nat} {s : rSg} (h : JI (k + 1) s) : opX s k 73 129 [] := by
  obtain ⟨A, im, h1, h2, h3, ⟨⟨n, n1, n2, n3, n4⟩, ⟨m, m1, m2, m3, m4⟩, hr⟩, l, h5, h6⟩ := h
  -- the invariant behind both, from what both say
  have fin : ∀ {t u : rSg} {A2 : Ab}, clI t → CJ t A2 im → (∀ q, q < 6 ∨ (687 < q ∧ q ≤ 691) ∨ 725 ≤ q → t q = s q) → t 687 1 = nI 0 → MJ u A2 im → mgo t u → JI k u := fun {t u A2} c1 c2 c3 c4 d1 d2 => by
    obtain ⟨e1, ⟨e2, e3⟩, e4, e5, e6⟩ := d2
    refine ⟨A2, im, c1.cong e1, c2.cong e1, d1, ⟨⟨0, by decide, by rw [e1 687 (by decide)]; exact c4, e4, fun i hi => by omega⟩, ⟨m, m1, by rw [e1 689 (by decide), c3 689 (by omega)]; exact m2, by rw [e5, c3 725 (by omega)]; exact m3, fun i hi => by rw [e1 690 (by decide), c3 690 (by omega), e3, c3 759 (by omega)]; exact m4 i hi⟩, by rw [e1 691 (by decide), c3 691 (by omega), e6, c3 726 (by omega), hr]⟩, l, cSn_fr h5 (by rw [e1 1 (by decide), c3 1 (by omega)]) (by rw [e1 5 (by decide), c3 5 (by omega)]), Nat.lt_of_le_of_lt (Nat.add_le_add_right (Nat.add_le_add_left (Nat.mul_le_mul_right _ (Nat.le_succ k)) l) _) h6⟩
  by_cases hg : ∃ nG nT, RRun (s 688) n n 0 ([103], 0, 0, none) (.inr (nG, nT, none))
  · obtain ⟨nG, nT, hR⟩ := hg
    have ok := (RRun_ok n 0 _ nG nT none rd0.1 rd0.2 hR).2.2.2.2 rfl
    obtain ⟨tb, hM⟩ := MRt_ex hR
    refine ((cx_73 n1 n2 ok.1 ok.2 hR hM).up (by decide)).imp ?_
    rintro _ t ⟨rfl, t1, t2, t3⟩
    have tx : ∀ i, i < n → t 752 i = s 688 i := fun i hi => by rw [t2 752 (by omega)]; exact (n4 i hi).symm
    refine ⟨_, rfl, ((mx_129 (h3.cong (fun q hq => t2 q (by omega))) (n := n) (by rw [t2 725 (by omega)]; exact n3) n1 ok.1 ok.2 (RRun_congr tx n 0 _ _ (by omega) hR) (hM.congr tx)).up (by decide)).imp ?_⟩
    rintro _ u ⟨rfl, u1, u2⟩
    refine ⟨rfl, fin (t := t) (A2 := (tb, nG, nT, bgn 0)) ⟨?_, h1.2.1.ext (t2 230 (by omega)), h1.2.2.ext (t2 454 (by omega))⟩ ⟨t1, fun z => by rw [t2 0 (by omega)]; exact h2.2.1 z, fun B z => ?_⟩ (fun q hq => t2 q (by omega)) t3 u1 u2⟩
    · obtain ⟨C, _, _, _, _, _, _, q, _⟩ := t1
      exact q.sea
    · obtain ⟨d1, d2⟩ := h2.2.2 B z
      exact ⟨by rw [t2 0 (by omega)]; exact d1, hQ_frame d2 (fun q z1 z2 => t2 q (by omega))⟩
  · have hno : ∀ nG nT, ¬ RRun (s 688) n n 0 ([103], 0, 0, none) (.inr (nG, nT, none)) := fun nG nT q => hg ⟨nG, nT, q⟩
    refine ((cx_73n n1 n2 hno).up (by decide)).imp ?_
    rintro v t ⟨⟨r, hR, ho⟩, t2, t3⟩
    obtain ⟨x, rfl⟩ := cOut_int ho
    have tx : ∀ i, i < n → t 752 i = s 688 i := fun i hi => by rw [t2 752 (by omega)]; exact (n4 i hi).symm
    have tx2 : ∀ i, i < n → s 688 i = t 752 i := fun i hi => (tx i hi).symm
    refine ⟨x, rfl, ((mx_129n (h3.cong (fun q hq => t2 q (by omega))) (n := n) (by rw [t2 725 (by omega)]; exact n3) n1 (fun nG nT q => hno nG nT (RRun_congr tx2 n 0 _ _ (by omega) q))).up (by decide)).imp ?_⟩
    rintro w u ⟨⟨r2, hR2, ho2⟩, u1, u2⟩
    obtain rfl := RRun_det n 0 _ _ _ hR (RRun_congr tx2 n 0 _ _ (by omega) hR2)
    exact ⟨cOut_det ho2 ho, fin (t := t) (A2 := A) ⟨h1.1.ext (t2 6 (by omega)), h1.2.1.ext (t2 230 (by omega)), h1.2.2.ext (t2 454 (by omega))⟩ (h2.fr (fun q hq => t2 q (by omega))) (fun q hq => t2 q (by omega)) t3 u1 u2⟩
/-! image, on -/
theorem hQ.copy {s : rSg} {b b2 : Nat} (hb : isSeaA rSkel b) (hb2 : isSeaA rSkel b2) (hbb : b + 223 < b2 ∨ b2 + 223 < b) {tb : Tb} {nG nT : Nat} {Q : Qx} (h : hQ s b2 tb nG nT Q) : EvS rSkel 3 49 [.inr (.inr (some b)), .inr (.inr (some b2))] s (fun v t => v = none ∧ hQ t b tb nG nT Q ∧ ∀ q, q < b ∨ b + 223 < q → t q = s q) := by
  obtain ⟨C, e1, e2, e3, e4, e5, e6, e7, e8⟩ := h
  refine (ce_49 e3.1 hb hb2 hbb e7 e8).imp ?_
  rintro _ t ⟨rfl, t1, t2, t3⟩
  exact ⟨rfl, ⟨C, e1, e2, e3, e4, e5, e6, t1, t2⟩, t3⟩
theorem hQ.sea {s : rSg} {b : Nat} {tb : Tb} {nG nT : Nat} {Q : Qx} (h : hQ s b tb nG nT Q) : seaI s b := by
  obtain ⟨C, _, _, _, _, _, _, q, _⟩ := h
  exact q.sea
theorem cx_110 {s : rSg} {A : Ab} {im : Option Ab} (c : CJ s A im) : EvS rSkel 4 110 [.inr (.inr (some 0))] s (fun v t => v = some (.inl (nI A.Q.2.2.1)) ∧ CJ t A (some A) ∧ ∀ q, q ≠ 0 → q < 454 ∨ 677 < q → t q = s q) := by
  refine w_110 s ((hQ.copy seaA454 seaA6 (by decide) c.1).imp ?_)
  rintro _ t ⟨rfl, t1, t2⟩
  refine ⟨rfl, by rw [t1.f.2.1], ⟨hQ_frame c.1 (fun q a b => by rw [up2_nk _ _ _ (by omega)]; exact t2 q (by omega)), fun z => (by cases z), fun B z => ?_⟩, fun q h0 hq => by rw [up2_nk _ _ _ h0]; exact t2 q (by omega)⟩
  cases z
  exact ⟨up2_same _ _ _ _, hQ_frame t1 (fun q a b => up2_nk _ _ _ (by omega))⟩
theorem mx_135 {s : rSg} {A : Ab} {im : Option Ab} (h : MJ s A im) : EvS rSkel 1 135 [.inr (.inr (some 725))] s (fun v t => v = some (.inl (nI A.Q.2.2.1)) ∧ MJ t A (some A) ∧ mK [754] [41, 42, 48] s t) := by
  obtain ⟨T, G, L, hd, g, r1, r2, r3, ⟨n, r4, r4'⟩, r5, r6, r7⟩ := id h
  have f := h.f
  refine w_135 s (ms_135b (s0 := up2 s 725 48 1) (fun t h1 h2 => ?_) 96 0 _ rfl (fun _ _ => rfl) (fun j hj => absurd hj (by omega)))
  refine w_135_7 t _ ⟨fun _ => ?_, fun q => absurd (nI_le (a := 96) (b := 96) (by decide) (by decide)) q⟩
  generalize eu : up2 (up2 t 725 41 (t 725 40)) 725 42 (t 749 0) = u
  have u0 : ∀ q, q ≠ 754 → q ≠ 725 → u q = s q := fun q a b => by rw [← eu, up2_nk _ _ _ b, up2_nk _ _ _ b, h1 q a, up2_nk _ _ _ b]
  have u4 : ∀ j, j < 96 → u 754 j = s 753 j := fun j hj => by rw [← eu, up2_nk _ _ _ (by decide), up2_nk _ _ _ (by decide), h2 j hj, up2_nk _ _ _ (by decide)]
  have u5 : ∀ j, j ≠ 41 → j ≠ 42 → j ≠ 48 → u 725 j = s 725 j := fun j a b c => by rw [← eu, up2_nj _ _ _ b, up2_nj _ _ _ a, h1 725 (by decide), up2_nj _ _ _ c]
  have u41 : u 725 41 = nI n := by rw [← eu, up2_nj _ _ _ (by decide), up2_same, h1 725 (by decide), up2_nj _ _ _ (by decide)]; exact r4
  have u42 : u 725 42 = nI A.Q.2.2.1 := by rw [← eu, up2_same, h1 749 (by decide), up2_nk _ _ _ (by decide)]; exact f.2.2.1
  have u48 : u 725 48 = 1 := by rw [← eu, up2_nj _ _ _ (by decide), up2_nj _ _ _ (by decide), h1 725 (by decide), up2_same]
  have k : mK [754] [41, 42, 48] s u := ⟨fun q a b => u0 q (fun e => b (by simp [e])) a, fun j b => u5 j (fun e => b (by simp [e])) (fun e => b (by simp [e])) (fun e => b (by simp [e]))⟩
  obtain ⟨t1, e⟩ := r1.keep (t := u) (fun q hq => u0 q (by omega) (by omega)) (fun j hj => u5 j (by omega) (by omega) (by omega))
  refine ⟨by rw [h1 749 (by decide), up2_nk _ _ _ (by decide), f.2.2.1], ⟨T, G, L, hd, g, t1, r2, ⟨by rw [u5 47 (by decide) (by decide) (by decide)]; exact r3.1, r3.2.1, r3.2.2.1, ?_⟩, ⟨n, by rw [u5 40 (by decide) (by decide) (by decide)]; exact r4, by rw [u0 753 (by decide) (by decide)]; exact r4'⟩, r5, fun z => (by cases z), fun B z => ?_⟩, k⟩
  · rw [nh_ext r1.1.2.2.2 (by have := r1.1.1; omega) e.2.1 r3.2.2.1]
    exact r3.2.2.2
  · cases z
    have hn := r4'.1
    refine ⟨u48, r5, n, u41, ⟨hn, r4'.2.1, r4'.2.2.1, RRun_congr (fun i hi => u4 i (by omega)) n 0 _ _ (by omega) r4'.2.2.2.1, r4'.2.2.2.2.congr (fun i hi => u4 i (by omega))⟩, u42⟩
theorem oX_image {k : Nat} {s : rSg} (h : JI (k + 1) s) : opX s k 110 135 [] := by
  obtain ⟨A, im, h1, h2, h3, hs, l, h5, h6⟩ := h
  refine ((cx_110 h2).up (by decide)).imp ?_
  rintro _ t ⟨rfl, t1, t2⟩
  refine ⟨_, rfl, ((mx_135 (h3.cong (fun q hq => t2 q (by omega) (by omega)))).up (by decide)).imp ?_⟩
  rintro _ u ⟨rfl, u1, u2⟩
  exact ⟨rfl, JI.mv (t := t) hs ⟨h1.1.ext (t2 6 (by omega) (by omega)), h1.2.1.ext (t2 230 (by omega) (by omega)), (t1.2.2 A rfl).2.sea⟩ t1 (fun q hq => t2 q (by omega) (by omega)) (l := l) (m := l) (Nat.le_add_right _ _) (cSn_fr h5 (by rw [t2 1 (by omega) (by omega)]) (t2 5 (by omega) (by omega))) h6 u1 (u2.C (by simp)) ⟨⟨u2.1 752 (by decide) (by simp), u2.1 759 (by decide) (by simp)⟩, u2.2 39 (by simp), u2.2 58 (by simp)⟩ (u2.1 726 (by decide) (by simp))⟩
theorem mx_136 {s : rSg} {A B : Ab} (h : MJ s A (some B)) : EvS rSkel 15 136 [.inr (.inr (some 725))] s (fun v t => v = some (.inl (nI B.Q.2.2.1)) ∧ MJ t B (some B) ∧ mC s t ∧ (t 752 = s 752 ∧ t 759 = s 759) ∧ (t 725 39 = s 725 39 ∧ t 725 58 = s 725 58) ∧ t 726 = s 726) := by
  obtain ⟨T, G, L, hd, g, r1, r2, r3, r4, r5, r6, r7⟩ := id h
  obtain ⟨q0, qs, n, q1, q2, q3⟩ := r7 B rfl
  have hn := q2.1
  have q4 := qs.1
  refine w_136 s ⟨fun h48 => ?_, fun z => absurd (by rw [q0]; decide) z⟩
  refine ms_136b (s0 := s) (fun t h1 h2 => ?_) 96 0 _ rfl (fun _ _ => rfl) (fun j hj => absurd hj (by omega))
  refine w_136_16 t _ ⟨fun _ => ?_, fun q => absurd (nI_le (a := 96) (b := 96) (by decide) (by decide)) q⟩
  have t5 : ∀ j, t 725 j = s 725 j := fun j => by rw [h1 725 (by decide)]
  rw [t5 41, q1]
  have tx : ∀ i, i < n → up2 t 725 40 (nI n) 753 i = s 754 i := fun i hi => by rw [up2_nk _ _ _ (by decide)]; exact h2 i (by omega)
  have hR := RRun_congr tx n 0 _ _ (by omega) q2.2.2.2.1
  have hM := q2.2.2.2.2.congr tx
  refine (fs_114 (s := up2 t 725 40 (nI n)) (tb := B.tb) (up2_same _ _ _ _) hn q2.2.1 q2.2.2.1 hR hM).imp ?_
  rintro _ u ⟨rfl, T2, g2, x1, x2, x3, x4, x5, x6⟩
  have uf : ∀ j, j ∉ jZ ++ [21, 47] → j ≠ 40 → u 725 j = s 725 j := fun j a b => by rw [x6.2 j a, up2_nj _ _ _ b, t5 j]
  have uc : ∀ q, q ≠ 725 → q ∉ kZ → q ≠ 753 → u q = s q := fun q a b c => by rw [x6.1 q a b, up2_nk _ _ _ a, h1 q c]
  have u42 : u 725 42 = nI B.Q.2.2.1 := by rw [uf 42 (by simp [jZ]) (by decide)]; exact q3
  have ng24 := q2.2.1
  rw [u42]
  refine ⟨rfl, (fs_137 x1 (show (bgn 0).2.2.2.2 ≤ 40 by show 1 ≤ 40; decide) (N := B.Q.2.2.1) (by omega) (by omega) (by omega) (by omega)).imp ?_⟩
  rintro _ v ⟨rfl, Q2, m, hm9, g1, g2', g3, T3, G3, L3, h3', y1, y2, y3, y4, y5, y6⟩
  have eQ : Q2 = B.Q := rcd_on qs.2.1 g1
  subst eQ
  have k := y6.1
  have em : m = B.Q.2.2.1 := by
    have : B.Q.2.2.1 = 0 + m := g3
    omega
  refine ⟨rfl, by rw [y1.2.2.1.2.2.2.1], ⟨T3, G3, L3, h3', g2, y1, ?_, ⟨by rw [k.2 47 (by simp [jZ])]; exact x3, x4, by omega, ?_⟩, ⟨n, ?_, hn, q2.2.1, q2.2.2.1, ?_, ?_⟩, qs, fun z => (by cases z), fun B2 z => ?_⟩, fun q hq => ?_, ⟨?_, ?_⟩, ⟨?_, ?_⟩, ?_⟩
  · omega
  · rw [nh_ext x1.1.2.2.2 (by omega) y5.2.1 (show g2 < B.nG by omega)]
    exact x5
  · rw [k.2 40 (by simp [jZ]), x6.2 40 (by simp [jZ]), up2_same]
  · exact RRun_congr (fun i _ => by rw [k.1 753 (by decide) (by simp [kZ]), x6.1 753 (by decide) (by simp [kZ])]) n 0 _ _ (by omega) hR
  · exact hM.congr (fun i _ => by rw [k.1 753 (by decide) (by simp [kZ]), x6.1 753 (by decide) (by simp [kZ])])
  · cases z
    refine ⟨by rw [k.2 48 (by simp [jZ]), uf 48 (by simp [jZ]) (by decide)]; exact q0, qs, n, by rw [k.2 41 (by simp [jZ]), uf 41 (by simp [jZ]) (by decide)]; exact q1, ?_, by rw [k.2 42 (by simp [jZ])]; exact u42⟩
    rw [k.1 754 (by decide) (by simp [kZ]), uc 754 (by decide) (by simp [kZ]) (by decide)]
    exact q2
  · rw [k.C kZ_ge q hq, uc q (by omega) (fun e => by have := kZ_ge q e; omega) (by omega)]
  · rw [k.1 752 (by decide) (by simp [kZ]), uc 752 (by decide) (by simp [kZ]) (by decide)]
  · rw [k.1 759 (by decide) (by simp [kZ]), uc 759 (by decide) (by simp [kZ]) (by decide)]
  · rw [k.2 39 (by simp [jZ]), uf 39 (by simp [jZ]) (by decide)]
  · rw [k.2 58 (by simp [jZ]), uf 58 (by simp [jZ]) (by decide)]
  · rw [k.1 726 (by decide) (by simp [kZ]), uc 726 (by decide) (by simp [kZ]) (by decide)]
theorem oX_on {k : Nat} {s : rSg} (h : JI (k + 1) s) : opX s k 111 136 [] := by
  obtain ⟨A, im, h1, h2, h3, hs, l, h5, h6⟩ := h
  cases im with
  | none =>
    have z1 := h2.2.1 rfl
    have z2 : s 725 48 = 0 := by
      obtain ⟨_, _, _, _, _, _, _, _, _, _, q, _⟩ := h3
      exact q rfl
    refine EvS.up (w_111 s ⟨fun q => absurd z1 q, fun _ => (cx_72r (P := fun v t => v = some (.inl (-3)) ∧ (∀ q, q ≠ 691 → t q = s q) ∧ t 691 = rfC (some (-3)) (s 691)) (by decide) (fun t t1 t2 => ⟨rfl, t1, t2⟩)).imp ?_⟩) (by decide)
    rintro _ t ⟨n, rfl, hv, t1, t2⟩
    cases hv
    refine ⟨_, rfl, _, rfl, EvS.up (w_136 t ⟨fun q => absurd (by rw [t1 725 (by decide)]; exact z2) q, fun _ => (mx_128r (P := fun v u => v = some (.inl (-3)) ∧ (∀ q, q ≠ 726 → u q = t q) ∧ u 726 = rfC (some (-3)) (t 726)) (by decide) (fun u u1 u2 => ⟨rfl, u1, u2⟩)).imp ?_⟩) (by decide)⟩
    rintro _ u ⟨n, rfl, hv, u1, u2⟩
    cases hv
    exact ⟨_, rfl, rfl, JI.no h1 h2 h3 hs h5 h6 t1 t2 u1 u2⟩
  | some B =>
    obtain ⟨z1, z2⟩ := h2.2.2 B rfl
    refine EvS.up (w_111 s ⟨fun _ => (hQ.copy seaA6 seaA454 (by decide) z2).imp ?_, fun q => absurd (by rw [z1]; decide) q⟩) (by decide)
    rintro _ t ⟨rfl, t1, t2⟩
    rw [t1.f.2.1]
    refine ⟨rfl, _, rfl, ((mx_136 (h3.cong (fun q hq => t2 q (by omega)))).up (by decide)).imp ?_⟩
    rintro _ u ⟨rfl, u1, u2, u3, u4, u5⟩
    refine ⟨rfl, JI.mv (t := t) (A := B) (im := some B) hs ⟨t1.sea, h1.2.1.ext (t2 230 (by omega)), h1.2.2.ext (t2 454 (by omega))⟩ ⟨t1, fun z => (by cases z), fun B2 z => ?_⟩ (fun q hq => t2 q (by omega)) (l := l) (m := l) (Nat.le_add_right _ _) (cSn_fr h5 (by rw [t2 1 (by omega)]) (t2 5 (by omega))) h6 u1 u2 ⟨u3, u4⟩ u5⟩
    cases z
    exact ⟨by rw [t2 0 (by omega)]; exact z1, hQ_frame z2 (fun q a b => t2 q (by omega))⟩
