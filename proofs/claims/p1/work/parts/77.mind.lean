/-! IN MIND: need, left, least -/
theorem c_runQ {s : rSg} {b : Nat} (hb : isSeaA rSkel b) (hq : cQ s b 0 0 6 1 (fun _ => nI 0)) (hk : s (b + 2) 0 = 42) {y1 y2 : Nat} (hy1 : y1 < 2 ^ 31) (hy0 : 2 ≤ y1) (hy2 : 1 ≤ y2) (hy29 : y2 < 2 ^ 31) {P : Option rv → rSg → Prop}
    (k2 : ∀ s2 : rSg, (∀ q, b + 223 < q → s2 q = s q) → s2 b 10 = nI 1 → s2 (b + 217) 0 = nI 2 → P none s2) : EvS rSkel 7 36 [.inr (.inr (some b)), .inl (nI y1), .inl (nI y2)] s P := by
  refine w_36 s b hb.1 _ _ ?_
  refine cs_star hb hq (by decide) (by decide) (by decide) (g := 0) rfl (by decide) hk hy1 (y3 := 0) (by omega) hy2 hy29 (fun s2 a1 q1 => ?_)
  refine cs_ans hb q1 (by decide) (by decide) hy1 (by omega) hy2 hy29 (fun s3 f0 f8 f9 f10 f17 _ _ => cs_end hb f8 (k2 s3 (fun q hq => ?_) f10 f17))
  rw [f0 q (by omega), a1.1 q (by omega)]
/-- what the told goal '*' is -/
def cTold (s : rSg) : Prop := s 7 5 = nI 0 ∧ s 7 6 = nI 1 ∧ s 7 7 = nI 0 ∧ s 8 0 = 42
theorem cTold_of {s : rSg} (h : clF s) : cTold s := ⟨h.1.1.2.2.1, h.1.1.2.2.2.1, h.1.1.2.2.2.2.1, h.1.1.2.2.2.2.2.2⟩
theorem c_retell {s : rSg} (h : cTold s) {P : Option rv → rSg → Prop} (k : ∀ t : rSg, (∀ q, q < 231 ∨ 234 < q → t q = s q) → t 231 3 = nI 1 → t 231 4 = nI 0 → t 231 5 = nI 0 → t 231 8 = s 7 8 → t 232 0 = 42 → P none t) : EvS rSkel 2 26 [.inr (.inr (some 231)), .inr (.inr (some 7))] s P := by
  obtain ⟨h5, h6, h7, h8⟩ := h
  refine w_26 s 231 scr231 7 scr7 (by decide) ?_
  rw [h6, h7]
  refine (c_scopy scr231 scr7 (by decide) s (g := 1) (p := 0) (by decide) (by decide)).imp ?_
  rintro _ t ⟨rfl, t0, t3, t4, t5, t6, t7, t8, t9, _, _⟩
  exact ⟨rfl, k t (fun q hq => t0 q (by omega) (by omega) (by omega) (by omega)) t3 t4 (by rw [t5, h5]) t8 (by rw [t9 0 (by decide), h8])⟩
theorem c_begun {s : rSg} {g : Nat} (h5 : s 231 5 = nI g) {P : Option rv → rSg → Prop} (k : ∀ t : rSg, (∀ q, q < 230 ∨ 453 < q ∨ (230 < q ∧ q < 236) → t q = s q) → cQ t 230 0 0 6 1 (fun _ => nI g) → (∀ j, j < 6 → t 237 j = -1) → (∀ j, j < 64 → t 449 j = -1) → P none t) : EvS rSkel 3 33 [.inr (.inr (some 230))] s P := by
  refine (c_begin2 seaA230 s).imp ?_
  rintro _ t ⟨rfl, b0, b1, b2, b3, b4, b5, b6, b7, b8, b9, b10, b11, b12, b13, b14, b15⟩
  refine k t (fun q hq => b2 q (by omega)) ⟨b4, by decide, b5, b6, b7, b10, b11, b12, fun j hj => ?_⟩ b13 b1
  obtain rfl : j = 0 := by omega
  show t (230 + 8) 0 = nI g
  rw [b14]
  exact h5
theorem o_need_c {s : rSg} (hc : clF s) {n : Nat} (h1 : 1 ≤ n) (h10 : n ≤ 10) : EvS rSkel 8 95 [.inr (.inr (some 0)), .inl (nI n)] s (fun v s2 => v = some (.inl (if n = 1 then 2 else -9)) ∧ fr s s2) := by
  refine w_95 s (nI n) ⟨fun _ => ⟨fun _ => ?_, fun q => absurd ((nI_leI (b := 10) (by omega) (by decide)).mpr h10) q⟩, fun q => absurd ((nI_leI (a := 1) (by decide) (by omega)).mpr h1) q⟩
  refine c_retell (cTold_of hc) (fun t t0 t3 t4 t5 t8 tk => ⟨rfl, c_begun t5 (fun u u0 uq _ _ => ⟨rfl, ?_⟩)⟩)
  refine c_runQ seaA230 uq (by rw [u0 232 (by omega)]; exact tk) (y1 := 300) (y2 := n) (by decide) (by decide) h1 (by omega) (fun w w0 w10 w17 => ⟨rfl, ?_⟩)
  have hf : fr s w := fun q hq => by rw [w0 q (by omega), u0 q (by omega), t0 q (by omega)]
  by_cases e : n = 1
  · subst e
    rw [if_pos rfl]
    refine ⟨fun _ => w_48 w 230 sea230 _ ⟨fun q => absurd q (by decide), fun _ => ⟨fun q => absurd q (by rw [w10]; decide), fun _ => ⟨fun q => absurd q (by decide), fun _ => ⟨by decide, _, rfl, ?_, hf⟩⟩⟩⟩, fun q => absurd (by rw [w10]; decide) q⟩
    show some (.inl (w (230 + 217) 0) : rv) = _
    rw [w17]
    rfl
  · rw [if_neg e]
    refine ⟨fun q => ?_, fun _ => ⟨rfl, hf⟩⟩
    rw [w10] at q
    exact absurd ((nI_leI (a := n) (b := 1) (by omega) (by decide)).mp q) (by omega)
/-! the reference begins in mind -/
theorem m_begin1 {s : rSg} {n : Nat} (g : Int32) (h21 : s 725 21 = 1) (hn : s 725 12 = nI n) (hn2 : 2 ≤ n) (hn9 : n < 10000) {P : Option rv → rSg → Prop}
    (k : ∀ t : rSg, mQ t 1 0 0 n → t 733 n = g → t 735 n = nI 0 → t 725 12 = nI (n + 1) → mKp s t → (∀ q, q < 733 ∧ q ≠ 725 → q ≠ 736 → t q = s q) → (∀ j, j < 64 → t 739 (64 * 42 + j) = -9) → (∀ j, j ≠ 12 → j ≠ 16 → j ≠ 18 → j ≠ 19 → j ≠ 20 → t 725 j = s 725 j) → P none t) : EvS rSkel 3 121 [.inr (.inr (some 725)), .inl g] s P := by
  refine (ev_m_begins_1 0 s (t := n) g h21 hn (by omega)).imp ?_
  rintro _ _ ⟨rfl, rfl⟩
  have n1 : n ≠ 1 := by omega
  refine k _ ⟨?_, ?_, by decide, ?_, ?_, ?_, ?_, ?_, ?_⟩ ?_ ?_ ?_ ?_ (fun q h1 h2 => ?_) (fun j hj => ?_) (fun j g1 g2 g3 g4 g5 => ?_)
  · simp [mWaitS, mBeg1, mEmp, up2, upC, upd, h21]; rfl
  · simp [mWaitS, mBeg1, mEmp, up2, upC, upd]; rfl
  · simp [mWaitS, mBeg1, mEmp, up2, upC, upd]
  · simp [mWaitS, mBeg1, mEmp, up2, upC, upd]; rfl
  · simp [mWaitS, mBeg1, mEmp, up2, upC, upd]; rfl
  · simp [mWaitS, mBeg1, mEmp, up2, upC, upd]
  · simp [mWaitS, mBeg1, mEmp, up2, upC, upd]
  · simp [mWaitS, mBeg1, mEmp, up2, upC, upd]
  · simp [mWaitS, mBeg1, mEmp, up2, upC, upd]
  · simp [mWaitS, mBeg1, mEmp, up2, upC, upd]; rfl
  · simp [mWaitS, mBeg1, mEmp, up2, upC, upd]
  · refine mKp.wait ?_ (by omega)
    unfold mBeg1
    exact (((((((((((((mKp.rfl'.emp).up (by unfold kpt; omega)).up (by unfold kpt; omega)).up (by unfold kpt; omega)).up (by unfold kpt; omega)).up (by unfold kpt; omega)).up (by unfold kpt; omega)).up (by unfold kpt; omega)).up (by unfold kpt; omega)).up (by unfold kpt; omega)).up (by unfold kpt; omega)).up (by unfold kpt; omega)).up (by unfold kpt; omega)).up (by unfold kpt; omega)
  · have f2 : ∀ (t : rSg) (k j : Nat) (x : Int32), 733 ≤ k ∨ k = 725 → up2 t k j x q = t q := fun t k j x h => up2_nk _ _ _ (by omega)
    have fC : ∀ (t : rSg) (k : Nat) (f : Nat → Int32), k = 739 ∨ k = 736 → upC t k f q = t q := fun t k f h => upC_ne _ _ (by omega)
    simp only [mWaitS, mBeg1, mEmp, f2 _ 747 _ _ (by decide), f2 _ 742 _ _ (by decide), f2 _ 741 _ _ (by decide), f2 _ 740 _ _ (by decide), f2 _ 725 _ _ (by decide), f2 _ 735 _ _ (by decide), f2 _ 734 _ _ (by decide), f2 _ 733 _ _ (by decide), f2 _ 751 _ _ (by decide), f2 _ 750 _ _ (by decide), f2 _ 749 _ _ (by decide), f2 _ 748 _ _ (by decide), f2 _ 746 _ _ (by decide), fC _ 739 _ (by decide), fC _ 736 _ (by decide)]
  · have h1 : j < 128 := by omega
    have h2 : 2688 ≤ 64 * 42 + j := by omega
    simp [mWaitS, mBeg1, mEmp, up2, upC, upd, va_cpy, fillF, hj, h1]
    intro q
    exfalso
    omega
  · simp [mWaitS, mBeg1, mEmp, up2, upC, upd, g1, g2, g3, g4, g5]
theorem o_need_m {s : rSg} (h : mdF s) {n : Nat} (h1 : 1 ≤ n) (h10 : n ≤ 10) : EvS rSkel 14 182 [.inr (.inr (some 725)), .inl (nI n)] s (fun v _ => v = some (.inl (if n = 1 then 2 else -9))) := by
  obtain ⟨m39, m40, m48x, m58, m21, m46, m47, m48, m49, m50, m51⟩ := md_all h
  refine w_182 s (nI n) ((ev_m_bound 0 s (nI n) 1 10).imp ?_)
  rintro _ s ⟨rfl, rfl⟩
  have a1 : (1 : Int32) ≤ nI n := (nI_leI (a := 1) (by decide) (by omega)).mpr h1
  have a2 : nI n ≤ (10 : Int32) := (nI_leI (b := 10) (by omega) (by decide)).mpr h10
  rw [if_pos a1, if_pos a2]
  refine ⟨_, rfl, fun _ => w_183 s ⟨rfl, ?_⟩, fun q => absurd rfl q⟩
  generalize eA : up2 (up2 (up2 s 725 54 (s 725 10)) 725 55 (s 725 11)) 725 56 (s 725 12) = A
  have a0 : ∀ q, q ≠ 725 → A q = s q := fun q h => by rw [← eA, up2_nk _ _ _ h, up2_nk _ _ _ h, up2_nk _ _ _ h]
  have aj : ∀ j, j < 54 ∨ 56 < j → A 725 j = s 725 j := fun j h => by rw [← eA, up2_nj _ _ _ (by omega), up2_nj _ _ _ (by omega), up2_nj _ _ _ (by omega)]
  have e47 : s 725 47 = 0 := h.2.2.2.2.2.2.2.2.2.2.2.2.2.2.2.2.2.2.2.2.2.1
  have e12 : s 725 12 = nI 2 := h.2.2.2.2.2.2.2.2.2.2.2.2.2.2.2.2.1
  have e29 : s 729 0 = 42 := h.2.2.2.2.2.2.2.2.2.2.2.2.2.2.2.2.2.2.2.2.2.2.1
  refine m_begin1 (n := 2) _ (up2_same _ _ _ _) (by rw [up2_nj _ _ _ (by decide), aj 12 (by decide)]; exact e12) (by decide) (by decide) (fun t tq t1 t2 t3 t4 t5 t6 t7 => ⟨rfl, ?_⟩)
  rw [aj 47 (by decide), e47] at t1
  have tk : t 729 0 = 42 := by rw [t5 729 (by decide) (by decide), up2_nk _ _ _ (by decide), a0 729 (by decide)]; exact e29
  -- a step, while it is not done
  have go : ∀ (u : rSg), u 725 21 = nI 1 → u 747 1 = nI 1 → u 748 1 = nI 0 → (∃ st, st < 300 ∧ u 749 1 = nI st) → ∀ Q : Option rv → rSg → Prop, EvS rSkel 13 139 [.inr (.inr (some 725))] u (fun v w => v = none ∧ g_182_35 (nI n) w Q) → g_182_35 (nI n) u Q := by
    intro u u21 u47 u48 ⟨st, hst, u49⟩ Q hQ
    refine w_182_35 u (nI n) ⟨fun q => absurd ((nI_leI (a := n) (b := 0) (by omega) (by decide)).mp (by rw [← u48]; exact q)) (by omega), fun _ => ⟨fun q => absurd ((nI_leI (a := 300) (b := st) (by decide) (by omega)).mp (by rw [← u49]; exact q)) (by omega), fun _ => (ev_m_isDone 0 u (z := 1) (w := 1) (a := 0) u21 (by decide) u47 u48 (by decide) (by decide)).imp ?_⟩⟩
    rintro _ u ⟨rfl, rfl⟩
    exact ⟨_, rfl, fun q => absurd (by decide) q, fun _ => hQ⟩
  refine go t tq.1 tq.2.2.2.1 tq.2.2.2.2.1 ⟨0, by decide, tq.2.2.2.2.2.1⟩ _ (ms_star (by decide) tq (by decide) (by decide) (by decide) (g := 0) t1 (by decide) t2 tk (fun u _ _ _ _ uq => ⟨rfl, ?_⟩))
  refine go u uq.1 uq.2.2.2.1 uq.2.2.2.2.1 ⟨1, by decide, uq.2.2.2.2.2.1⟩ _ (ms_ans (by decide) uq (by decide) (fun w g0 g1 g2 g3 g4 g5 g6 g7 => ⟨rfl, ?_⟩))
  have w21 : w 725 21 = nI 1 := by rw [g1 21 (by decide) (by decide) (by decide) (by decide)]; exact uq.1
  by_cases e : n = 1
  · subst e
    rw [if_pos rfl]
    refine w_182_35 w (nI 1) ⟨fun _ => ⟨fun q => absurd q (by rw [g4]; decide), fun _ => w_184 w ⟨rfl, by rw [g5]; rfl⟩⟩, fun q => absurd (by rw [g4]; decide) q⟩
  · rw [if_neg e]
    have lt : w 748 1 < nI n := by rw [g4]; exact (nI_ltI (a := 1) (by decide) (by omega)).mpr (by omega)
    refine w_182_35 w (nI n) ⟨fun q => absurd q (Int32.not_le.mpr lt), fun _ => ⟨fun q => absurd q (by rw [g5]; decide), fun _ => (ev_m_isDone 0 w (z := 1) (w := 0) (a := 1) w21 (by decide) g3 g4 (by decide) (by decide)).imp ?_⟩⟩
    rintro _ w ⟨rfl, rfl⟩
    exact ⟨_, rfl, fun _ => ⟨fun _ => w_184 w ⟨rfl, rfl⟩, fun q => absurd lt q⟩, fun q => absurd (by decide) q⟩
theorem o_need {s : rSg} (hc : clF s) (hm : mdF s) (a : Int32) : opI s 95 182 [.inl a] := by
  by_cases h1 : 1 ≤ a
  · by_cases h10 : a ≤ 10
    · obtain ⟨n, hn, rfl⟩ := nn_of (x := a) (fun q => absurd (Int32.lt_of_lt_of_le (Int32.lt_of_lt_of_le q (by decide)) h1) Int32.lt_irrefl)
      have n1 : 1 ≤ n := (nI_leI (a := 1) (by decide) hn).mp h1
      have n10 : n ≤ 10 := (nI_leI (b := 10) hn (by decide)).mp h10
      exact op2 hm (d := 8) (d2 := 14) (by decide) (by decide) (o_need_c hc n1 n10) (fun s2 h => o_need_m h n1 n10)
    · refine op2 hm (d := 8) (d2 := 14) (r := -6) (by decide) (by decide) (w_95 s a ⟨fun _ => ⟨fun q => absurd q h10, fun _ => c_ref fr.rfl' (-6)⟩, fun q => absurd h1 q⟩) (fun s2 h => w_182 s2 a ((ev_m_bound 0 s2 a 1 10).imp ?_))
      rintro _ _ ⟨rfl, rfl⟩
      rw [if_pos h1, if_neg h10]
      exact ⟨_, rfl, fun q => absurd q (by decide), fun _ => m_ref (by decide) _⟩
  · refine op2 hm (d := 8) (d2 := 14) (r := -4) (by decide) (by decide) (w_95 s a ⟨fun q => absurd q h1, fun _ => c_ref fr.rfl' (-4)⟩) (fun s2 h => w_182 s2 a ((ev_m_bound 0 s2 a 1 10).imp ?_))
    rintro _ _ ⟨rfl, rfl⟩
    rw [if_neg h1]
    exact ⟨_, rfl, fun q => absurd q (by decide), fun _ => m_ref (by decide) _⟩
