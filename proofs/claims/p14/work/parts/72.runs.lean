/-! SAFETY OF THE CLASS: begin, run, copy -/
section
variable {b : Nat}
theorem s_38 (hb : isSeaA rSkel b) {s : rSg} (hI : seaI s b) : EvS rSkel 2 38 [.inr (.inr (some b))] s (fun v t => ∃ q, v = some (.inr (.inr (some q))) ∧ isSt q ∧ b + 6 ≤ q ∧ q + 2 ≤ b + 125 ∧ t = s) := by
  obtain ⟨h, n, f, h7, hh, _⟩ := id hI
  refine w_38 s b hb.1 ((s_35 (i := 0) hb h7 (by omega)).imp ?_)
  rintro _ t ⟨q, rfl, hq, q1, q2, rfl⟩
  exact ⟨q, rfl, hq, q, rfl, hq, q1, q2, rfl⟩
theorem s_36b (hb : isSeaA rSkel b) {s0 : rSg} {N : Nat} (hN : N < 2 ^ 31) (e : Int32) {P : Option rv → rSg → Prop} (hP : ∀ t, SI b (N * stL) s0 t → P none t) : ∀ (m y : Nat) (s : rSg), y + m = N → SI b (y * stL) s0 s → g_36_2 b (nI N) e (nI y) s P := by
  have b5 : 5 < b := hb.1.1
  have hst : isSt (b + 218) := hb.1.2.2.2.2.2.2.1
  intro m
  induction m with
  | zero =>
    intro y s hy hs
    obtain rfl : y = N := by omega
    exact w_36_2 s b hb.1 _ _ _ ⟨fun _ => hP s hs, fun q => absurd (nI_le (by omega) (by omega)) q⟩
  | succ m ih =>
    intro y s hy hs
    have out : P none s := hP s (hs.mono (Nat.mul_le_mul_right _ (by omega)))
    refine w_36_2 s b hb.1 _ _ _ ⟨fun _ => out, fun _ => ?_⟩
    refine w_37 s b hb.1 ⟨fun _ => ⟨_, rfl, fun _ => out, fun q => absurd (by decide) q⟩, fun h8 => ⟨fun _ => ?_, fun _ => ⟨_, rfl, fun _ => out, fun q => absurd (by decide) q⟩⟩⟩
    refine ⟨_, rfl, fun _ => out, fun _ => ⟨fun _ => out, fun _ => ?_⟩⟩
    have hs1 := hs.up (j := 9) (x := s b 9 + 1) b5 ⟨by decide, by decide, by decide⟩
    generalize eW : up2 s b 9 (s b 9 + 1) = W at hs1 ⊢
    have w8 : W b 8 = s b 8 := by rw [← eW, up2_nj _ _ _ (by decide)]
    refine (s_38 hb hs1.2.2).imp ?_
    rintro _ W ⟨q, rfl, hq, q1, q2, rfl⟩
    refine ⟨q, rfl, hq, (s_53 hst hq (by omega) W).imp ?_⟩
    rintro _ T ⟨rfl, hT⟩
    have gT := hs1.st b5 ⟨by omega, by omega⟩ hT
    have tb : T b = W b := hT b (Or.inl (by omega))
    obtain ⟨h, n, f, h7, hh, h8', hn, h10, hf⟩ := id gT.2.2
    have n0 : n ≠ 0 := fun q => h8 (by rw [← w8, ← tb, h8', q]; rfl)
    obtain ⟨n, rfl⟩ : ∃ k, n = k + 1 := ⟨n - 1, by omega⟩
    have e7 : irem (T b 7 + 1) 40 = nI ((h + 1) % 40) := by
      rw [h7, nI_1]
      exact pk_rem (by omega) (by decide) (by decide)
    have e8 : T b 8 - 1 = nI n := by rw [h8']; exact nI_pred n
    rw [e7, e8, nI_1]
    generalize eU : up2 (up2 T b 7 (nI ((h + 1) % 40))) b 8 (nI n) = U
    have gU : SI b (y * stL) s0 U := by
      rw [← eU]
      refine ⟨(gT.1.up (by omega)).up (by omega), fun l hl => ?_, ⟨(h + 1) % 40, n, f, ?_, Nat.mod_lt _ (by decide), up2_same _ _ _ _, by omega, ?_, hf⟩⟩
      · obtain ⟨m, e1, e2⟩ := gT.2.1 l hl
        exact ⟨m, e1, by rw [up2_nk _ _ _ (by omega), up2_nk _ _ _ (by omega)]; exact e2.1, fun i hi => by rw [up2_nk _ _ _ (by omega), up2_nk _ _ _ (by omega)]; exact e2.2 i hi⟩
      · rw [up2_nj _ _ _ (by decide), up2_same]
      · rw [up2_nj _ _ _ (by decide), up2_nj _ _ _ (by decide)]; exact h10
    have nxt : ∀ t, SI b (y * stL + stL) s0 t → g_36_2 b (nI N) e (nI (y + 1)) (up2 t b 12 (imax (t b 12) (t b 8))) P := fun t ht => ih (y + 1) _ (by omega) ((ht.up b5 ⟨by decide, by decide, by decide⟩).mono (by rw [Nat.add_mul, Nat.one_mul]; exact Nat.le_refl _))
    refine ⟨rfl, fun _ => (s_54 hst U).imp ?_, fun _ => (s_39 hb gU.2.2).imp ?_⟩
    · rintro _ t ⟨g, rfl, ht⟩
      have gt := gU.st b5 ⟨by omega, by omega⟩ ht
      refine ⟨_, rfl, (s_41 hb gt.2.2 _).imp ?_⟩
      rintro _ u ⟨rfl, hu⟩
      exact ⟨rfl, nxt u (gt.trans hu)⟩
    · rintro _ u ⟨rfl, hu⟩
      exact ⟨rfl, nxt u ((gU.trans hu).mono (by omega))⟩
theorem s_36 (hb : isSeaA rSkel b) {s : rSg} (hI : seaI s b) {N : Nat} (hN : N < 2 ^ 31) (e : Int32) : EvS rSkel 7 36 [.inr (.inr (some b)), .inl (nI N), .inl e] s (fun v t => v = none ∧ SI b (N * stL) s t) :=
  w_36 s b hb.1 _ _ (s_36b hb hN e (fun t ht => ⟨rfl, ht⟩) N 0 s (by omega) ((SI.rfl' hI).mono (by omega)))
theorem s_33 (hb : isSeaA rSkel b) (s : rSg) : EvS rSkel 3 33 [.inr (.inr (some b))] s (fun v t => v = none ∧ SI b 0 s t) := by
  have b5 : 5 < b := hb.1.1
  have hst : isSt (b + 218) := hb.1.2.2.2.2.2.2.1
  refine w_33 s b hb.1 ?_
  generalize eU : up2 (up2 (up2 (up2 (up2 (up2 s b 7 0) b 8 0) b 9 0) b 10 0) b 11 0) b 12 1 = U
  have gU : SI b 0 s U := by
    rw [← eU]
    refine ⟨(((((bt.rfl'.up (by omega)).up (by omega)).up (by omega)).up (by omega)).up (by omega)).up (by omega), fun l hl => ⟨l, by omega, ?_, fun i hi => ?_⟩, ⟨0, 0, 0, ?_, by decide, ?_, by decide, ?_, by decide⟩⟩
    · rw [up2_nk _ _ _ (by omega), up2_nk _ _ _ (by omega), up2_nk _ _ _ (by omega), up2_nk _ _ _ (by omega), up2_nk _ _ _ (by omega), up2_nk _ _ _ (by omega)]; exact hl.1
    · rw [up2_nk _ _ _ (by omega), up2_nk _ _ _ (by omega), up2_nk _ _ _ (by omega), up2_nk _ _ _ (by omega), up2_nk _ _ _ (by omega), up2_nk _ _ _ (by omega)]; exact hl.2 i hi
    · rw [up2_nj _ _ _ (by decide), up2_nj _ _ _ (by decide), up2_nj _ _ _ (by decide), up2_nj _ _ _ (by decide), up2_nj _ _ _ (by decide), up2_same]; rfl
    · rw [up2_nj _ _ _ (by decide), up2_nj _ _ _ (by decide), up2_nj _ _ _ (by decide), up2_nj _ _ _ (by decide), up2_same]; rfl
    · rw [up2_nj _ _ _ (by decide), up2_nj _ _ _ (by decide), up2_same]; rfl
  refine (s_51 hst U).imp ?_
  rintro _ t ⟨rfl, ht⟩
  refine ⟨rfl, (s_52 hst t _).imp ?_⟩
  rintro _ u ⟨rfl, hu⟩
  have gu := gU.st b5 ⟨by omega, by omega⟩ (ht.trans hu)
  refine ⟨rfl, (s_34 hb hst (by omega) gu.2.2).imp ?_⟩
  rintro _ w ⟨rfl, hw⟩
  exact ⟨rfl, rfl, gu.trans hw⟩
theorem s_49c (hb : isSeaA rSkel b) {b2 : Nat} (hb2 : isSeaA rSkel b2) (hbb : b + 223 < b2 ∨ b2 + 223 < b) {s0 : rSg} {P : Option rv → rSg → Prop} (hP : ∀ t, SI b 0 s0 t → P none t) : ∀ (m y : Nat) (s : rSg), y + m = 30 → SI b 0 s0 s → g_49_105 b b2 (nI y) s P := by
  have b5 : 5 < b := hb.1.1
  have b25 : 5 < b2 := hb2.1.1
  intro m
  induction m with
  | zero =>
    intro y s hy hs
    obtain rfl : y = 30 := by omega
    refine w_49_105 s b hb.1 b2 hb2.1 hbb (nI 30) ⟨fun _ => hP s hs, fun q => ?_⟩
    obtain ⟨h, n, f, _, _, _, _, h10, hf⟩ := hs.2.2
    exact absurd (by rw [h10]; exact nI_le (by omega) (by omega)) q
  | succ m ih =>
    intro y s hy hs
    refine w_49_105 s b hb.1 b2 hb2.1 hbb (nI y) ⟨fun _ => hP s hs, fun _ => (s_40 hb _).imp ?_⟩
    rintro _ s ⟨q, rfl, hq, hq1, rfl⟩
    refine ⟨q, rfl, hq, (s_40 hb2 _).imp ?_⟩
    rintro _ s ⟨r, rfl, hr, hr1, rfl⟩
    have q9 : b + 127 ≤ q ∧ q ≤ b + 218 := by
      rcases hq1 with ⟨i, hi, _, e⟩ | ⟨e, _⟩ <;> omega
    have r9 : b2 + 127 ≤ r ∧ r ≤ b2 + 218 := by
      rcases hr1 with ⟨i, hi, _, e⟩ | ⟨e, _⟩ <;> omega
    clear hq1 hr1
    refine ⟨r, rfl, hr, (s_53 hq hr (by omega) s).imp ?_⟩
    rintro _ t ⟨rfl, ht⟩
    have gt := hs.st b5 ⟨by omega, by omega⟩ ht
    have hr := rIn_nI (t := y) (n := 30) (by omega) (by decide)
    rw [nI_1]
    refine ⟨rfl, hr, hr, ih (y + 1) _ (by omega) ⟨gt.1.up (by omega), fun l hl => ?_, gt.2.2.ext (up2_nk _ _ _ (by omega))⟩⟩
    obtain ⟨m, e1, e2⟩ := gt.2.1 l hl
    exact ⟨m, e1, by rw [up2_nk _ _ _ (by omega)]; exact e2.1, fun i hi => by rw [up2_nk _ _ _ (by omega)]; exact e2.2 i hi⟩
theorem s_49b (hb : isSeaA rSkel b) {b2 : Nat} (hb2 : isSeaA rSkel b2) (hbb : b + 223 < b2 ∨ b2 + 223 < b) {s0 : rSg} (h2 : seaI s0 b2) {P : Option rv → rSg → Prop} (hP : ∀ t, SI b 0 s0 t → P none t) : ∀ (m y : Nat) (s : rSg), y + m = 40 → SI b 0 s0 s → g_49_76 b b2 (nI y) s P := by
  have b5 : 5 < b := hb.1.1
  have b25 : 5 < b2 := hb2.1.1
  intro m
  induction m with
  | zero =>
    intro y s hy hs
    obtain rfl : y = 40 := by omega
    refine w_49_76 s b hb.1 b2 hb2.1 hbb (nI 40) ⟨fun _ => s_49c hb hb2 hbb hP 30 0 s rfl hs, fun q => ?_⟩
    obtain ⟨h, n, f, _, _, h8, hn, _⟩ := hs.2.2
    exact absurd (by rw [h8]; exact nI_le (by omega) (by omega)) q
  | succ m ih =>
    intro y s hy hs
    refine w_49_76 s b hb.1 b2 hb2.1 hbb (nI y) ⟨fun _ => s_49c hb hb2 hbb hP 30 0 s rfl hs, fun _ => ?_⟩
    obtain ⟨h, n, f, h7, hh, _⟩ := id hs.2.2
    obtain ⟨h', n', f', h7', hh', _⟩ := id h2
    refine (s_35 hb h7 (by omega)).imp ?_
    rintro _ s ⟨q, rfl, hq, q1, q2, rfl⟩
    refine ⟨q, rfl, hq, (s_35 (h := h') hb2 (by rw [hs.1 b2 ⟨by omega, by omega⟩]; exact h7') (by omega)).imp ?_⟩
    rintro _ s ⟨r, rfl, hr, r1, r2, rfl⟩
    refine ⟨r, rfl, hr, (s_53 hq hr (by omega) s).imp ?_⟩
    rintro _ t ⟨rfl, ht⟩
    rw [nI_1]
    exact ⟨rfl, ih (y + 1) t (by omega) (hs.st b5 ⟨by omega, by omega⟩ ht)⟩
theorem s_49 (hb : isSeaA rSkel b) {b2 : Nat} (hb2 : isSeaA rSkel b2) (hbb : b + 223 < b2 ∨ b2 + 223 < b) {s : rSg} (hI : seaI s b) (h2 : seaI s b2) : EvS rSkel 3 49 [.inr (.inr (some b)), .inr (.inr (some b2))] s (fun v t => v = none ∧ SI b 0 s t) := by
  have b5 : 5 < b := hb.1.1
  have b25 : 5 < b2 := hb2.1.1
  refine w_49 s b hb.1 b2 hb2.1 hbb ((s_31 hb.1.2.2.2.2.2.1 hb2.1.2.2.2.2.2.1 (by omega) s).imp ?_)
  rintro _ t ⟨rfl, ht⟩
  have gt := (SI.rfl' hI).sc b5 ht
  obtain ⟨n, hn, e8⟩ := clampI (t b2 8) (m := 40) (by decide)
  obtain ⟨f, hf, e10⟩ := clampI (t b2 10) (m := 30) (by decide)
  have e8 : imin (imax (t b2 8) 0) 40 = nI n := e8
  have e10 : imin (imax (t b2 10) 0) 30 = nI f := e10
  rw [e8, e10]
  generalize eU : up2 (up2 (up2 (up2 (up2 (up2 t b 7 0) b 8 (nI n)) b 9 (t b2 9)) b 10 (nI f)) b 11 (t b2 11)) b 12 (t b2 12) = U
  have gU : SI b 0 s U := by
    rw [← eU]
    refine ⟨(((((gt.1.up (by omega)).up (by omega)).up (by omega)).up (by omega)).up (by omega)).up (by omega), fun l hl => ?_, ⟨0, n, f, ?_, by decide, ?_, hn, ?_, hf⟩⟩
    · obtain ⟨m, e1, e2⟩ := gt.2.1 l hl
      refine ⟨m, e1, ?_, fun i hi => ?_⟩
      · rw [up2_nk _ _ _ (by omega), up2_nk _ _ _ (by omega), up2_nk _ _ _ (by omega), up2_nk _ _ _ (by omega), up2_nk _ _ _ (by omega), up2_nk _ _ _ (by omega)]; exact e2.1
      · rw [up2_nk _ _ _ (by omega), up2_nk _ _ _ (by omega), up2_nk _ _ _ (by omega), up2_nk _ _ _ (by omega), up2_nk _ _ _ (by omega), up2_nk _ _ _ (by omega)]; exact e2.2 i hi
    · rw [up2_nj _ _ _ (by decide), up2_nj _ _ _ (by decide), up2_nj _ _ _ (by decide), up2_nj _ _ _ (by decide), up2_nj _ _ _ (by decide), up2_same]; rfl
    · rw [up2_nj _ _ _ (by decide), up2_nj _ _ _ (by decide), up2_nj _ _ _ (by decide), up2_nj _ _ _ (by decide), up2_same]
    · rw [up2_nj _ _ _ (by decide), up2_nj _ _ _ (by decide), up2_same]
  exact ⟨rfl, s_49b hb hb2 hbb h2 (fun t ht => ⟨rfl, ht⟩) 40 0 U rfl gU⟩
end
