/-! THE REFERENCE: image, on, steps, and what is asked of it -/
theorem MI.go {s t : rSg} {T G L h w a st g m : Nat} (hr : RS s 0 T G L h w a) (hst : st + m ≤ 300) (hb : T ≤ 115 + 2 * st ∧ G ≤ 24 + st ∧ L ≤ 2 + 25 * st) (hg : s 725 47 = nI g ∧ g < G ∧ nh s g ≤ 12) (h39 : ∃ n, s 725 39 = nI n ∧ n ≤ 96) (h58 : ∃ m, s 725 58 = nI m ∧ m ≤ 32) (h40 : ∃ n, s 725 40 = nI n ∧ txOK (s 753) n) (h48 : s 725 48 = 0 ∨ ∃ n si, s 725 41 = nI n ∧ txOK (s 754) n ∧ s 725 42 = nI si ∧ si ≤ 300) (g3 : go3 0 s T G L (T + 2 * m) (G + m) (L + 25 * m) t) (h9 : t 749 0 = nI (st + m)) : MI t := by
  obtain ⟨T2, G2, L2, h2, w2, a2, r1, r2, r3, r4, r5, r6⟩ := g3
  have k := r6.1
  have e : ∀ j, j ∉ jZ → t 725 j = s 725 j := k.2
  refine ⟨T2, G2, L2, h2, w2, a2, st + m, g, r1, ⟨h9, hst⟩, by omega, ⟨by rw [e 47 (by simp [jZ])]; exact hg.1, by omega, ?_⟩, by rw [e 39 (by simp [jZ])]; exact h39, by rw [e 58 (by simp [jZ])]; exact h58, by rw [e 40 (by simp [jZ]), k.1 753 (by decide) (by simp [kZ])]; exact h40, by rw [e 48 (by simp [jZ]), e 41 (by simp [jZ]), e 42 (by simp [jZ]), k.1 754 (by decide) (by simp [kZ])]; exact h48⟩
  rw [nh_ext hr.1.2.2.2 (by have := hr.1.1; omega) r5.2.1 hg.2.1]
  exact hg.2.2
theorem fq.C {z : Nat} {s t : rSg} (h : fq z s t) : mC s t ∧ t 752 = s 752 ∧ t 725 39 = s 725 39 := ⟨h.1.C kZ_ge, h.1.1 752 (by decide) (by simp [kZ]), h.1.2 39 (by simp [jZ])⟩
theorem mi_steps {s : rSg} (h : MI s) (x : Int32) : EvS rSkel 15 161 [.inr (.inr (some 725)), .inl x] s (fun v t => (∃ r : Int32, v = some (.inl r)) ∧ aft s t) := by
  obtain ⟨T, G, L, hd, w, a, st, g, r1, r2, r3, r4, r5, r6, r7, r8⟩ := id h
  have no : ∀ y : Int32, rIn (-y) 7 = true → EvS rSkel 1 128 [.inr (.inr (some 725)), .inl y] s (fun v t => ∃ n, v = some (.inl n) ∧ (∃ r : Int32, some (.inl n : rv) = some (.inl r)) ∧ aft s t) := fun y hy => (ms_no h hy).imp (fun v t q => ⟨y, q.1, ⟨_, rfl⟩, q.2⟩)
  refine w_161 s x (ms_127 s x 1 100 (fun h1 h2 => ⟨_, rfl, fun q => absurd rfl q, fun _ => ⟨fun h3 => ⟨fun _ => ?_, fun q => absurd rfl q⟩, fun _ => no _ (by decide)⟩⟩) (fun _ _ => ⟨_, rfl, fun _ => ⟨fun q => absurd q (by decide), fun _ => no _ (by decide)⟩, fun q => absurd (by decide) q⟩) (fun _ => ⟨_, rfl, fun _ => ⟨fun q => absurd q (by decide), fun _ => no _ (by decide)⟩, fun q => absurd (by decide) q⟩))
  have hn0 : ¬ x < 0 := fun q => absurd (Int32.le_trans h1 (Int32.le_of_lt q)) (by decide)
  obtain ⟨N, hN, rfl⟩ := nn_of hn0
  have N2 : N ≤ 100 := (nI_leI hN (b := 100) (by decide)).mp h2
  have N3 : st + N ≤ 300 := by
    rw [r2.1, nI_add] at h3
    exact (nI_leI (b := 300) (by omega) (by decide)).mp h3
  refine (ms_137 r1 r2.1 (N := N) (by omega) (by omega) (by omega) (by omega)).imp ?_
  rintro _ t ⟨rfl, m, hm, g1, g2⟩
  obtain ⟨T2, G2, L2, h2, w2, a2, q⟩ := id g1
  exact ⟨rfl, ⟨_, rfl⟩, MI.go r1 (by omega) r3 r4 r5 r6 r7 r8 g1 g2, q.2.2.2.2.2.C⟩
theorem ms_135b {s0 : rSg} {P : Option rv → rSg → Prop} (hP : ∀ t, (∀ q, q ≠ 754 → t q = s0 q) → (∀ j, j < 96 → t 754 j = s0 753 j) → g_135_7 (nI 96) t P) : ∀ (m y : Nat) (t : rSg), y + m = 96 → (∀ q, q ≠ 754 → t q = s0 q) → (∀ j, j < y → t 754 j = s0 753 j) → g_135_7 (nI y) t P := by
  intro m
  induction m with
  | zero =>
    intro y t hy h1 h2
    obtain rfl : y = 96 := by omega
    exact hP t h1 h2
  | succ m ih =>
    intro y t hy h1 h2
    refine w_135_7 t _ ⟨fun q => absurd ((nI_leI (a := 96) (by decide) (by omega)).mp q) (by omega), fun _ => ?_⟩
    have r := rIn_nI (t := y) (n := 96) (by omega) (by decide)
    rw [nI_clamp (by omega), nI_1]
    refine ⟨r, r, ih (y + 1) _ (by omega) (fun q hq => by rw [up2_nk _ _ _ hq]; exact h1 q hq) (fun j hj => ?_)⟩
    by_cases e : j = y
    · subst e; rw [up2_same, h1 753 (by decide)]
    · rw [up2_nj _ _ _ e]; exact h2 j (by omega)
theorem mi_image {s : rSg} (h : MI s) : EvS rSkel 1 135 [.inr (.inr (some 725))] s (fun v t => (∃ r : Int32, v = some (.inl r)) ∧ aft s t) := by
  obtain ⟨T, G, L, hd, w, a, st, g, r1, r2, r3, r4, r5, r6, ⟨n, r7, r7'⟩, r8⟩ := id h
  refine w_135 s (ms_135b (s0 := up2 s 725 48 1) (fun t h1 h2 => ?_) 96 0 _ rfl (fun _ _ => rfl) (fun j hj => absurd hj (by omega)))
  refine w_135_7 t _ ⟨fun _ => ⟨⟨_, rfl⟩, ?_⟩, fun q => absurd (nI_le (a := 96) (b := 96) (by decide) (by decide)) q⟩
  generalize eu : up2 (up2 t 725 41 (t 725 40)) 725 42 (t 749 0) = u
  have u0 : ∀ q, q ≠ 754 → q ≠ 725 → u q = s q := fun q a b => by rw [← eu, up2_nk _ _ _ b, up2_nk _ _ _ b, h1 q a, up2_nk _ _ _ b]
  have u4 : ∀ j, j < 96 → u 754 j = s 753 j := fun j hj => by rw [← eu, up2_nk _ _ _ (by decide), up2_nk _ _ _ (by decide), h2 j hj, up2_nk _ _ _ (by decide)]
  have u5 : ∀ j, j ≠ 41 → j ≠ 42 → j ≠ 48 → u 725 j = s 725 j := fun j a b c => by rw [← eu, up2_nj _ _ _ b, up2_nj _ _ _ a, h1 725 (by decide), up2_nj _ _ _ c]
  have u41 : u 725 41 = nI n := by rw [← eu, up2_nj _ _ _ (by decide), up2_same, h1 725 (by decide), up2_nj _ _ _ (by decide)]; exact r7
  have u42 : u 725 42 = nI st := by rw [← eu, up2_same, h1 749 (by decide), up2_nk _ _ _ (by decide)]; exact r2.1
  obtain ⟨t1, e⟩ := r1.keep (t := u) (fun q hq => u0 q (by omega) (by omega)) (fun j hj => u5 j (by omega) (by omega) (by omega))
  refine ⟨⟨T, G, L, hd, w, a, st, g, t1, ⟨by rw [u0 749 (by decide) (by decide)]; exact r2.1, r2.2⟩, r3, ⟨by rw [u5 47 (by decide) (by decide) (by decide)]; exact r4.1, r4.2.1, ?_⟩, by rw [u5 39 (by decide) (by decide) (by decide)]; exact r5, by rw [u5 58 (by decide) (by decide) (by decide)]; exact r6, ⟨n, by rw [u5 40 (by decide) (by decide) (by decide)]; exact r7, by rw [u0 753 (by decide) (by decide)]; exact r7'⟩, Or.inr ⟨n, st, u41, r7'.congr (fun i hi => u4 i (by have := r7'.1; omega)), u42, r2.2⟩⟩, fun q hq => u0 q (by omega) (by omega), u0 752 (by decide) (by decide), u5 39 (by decide) (by decide) (by decide)⟩
  rw [nh_ext r1.1.2.2.2 (by have := r1.1.1; omega) e.2.1 r4.2.1]
  exact r4.2.2
theorem ms_136b {s0 : rSg} {P : Option rv → rSg → Prop} (hP : ∀ t, (∀ q, q ≠ 753 → t q = s0 q) → (∀ j, j < 96 → t 753 j = s0 754 j) → g_136_16 (nI 96) t P) : ∀ (m y : Nat) (t : rSg), y + m = 96 → (∀ q, q ≠ 753 → t q = s0 q) → (∀ j, j < y → t 753 j = s0 754 j) → g_136_16 (nI y) t P := by
  intro m
  induction m with
  | zero =>
    intro y t hy h1 h2
    obtain rfl : y = 96 := by omega
    exact hP t h1 h2
  | succ m ih =>
    intro y t hy h1 h2
    refine w_136_16 t _ ⟨fun q => absurd ((nI_leI (a := 96) (by decide) (by omega)).mp q) (by omega), fun _ => ?_⟩
    have r := rIn_nI (t := y) (n := 96) (by omega) (by decide)
    rw [nI_clamp (by omega), nI_1]
    refine ⟨r, r, ih (y + 1) _ (by omega) (fun q hq => by rw [up2_nk _ _ _ hq]; exact h1 q hq) (fun j hj => ?_)⟩
    by_cases e : j = y
    · subst e; rw [up2_same, h1 754 (by decide)]
    · rw [up2_nj _ _ _ e]; exact h2 j (by omega)
theorem mi_on {s : rSg} (h : MI s) : EvS rSkel 15 136 [.inr (.inr (some 725))] s (fun v t => (∃ r : Int32, v = some (.inl r)) ∧ aft s t) := by
  obtain ⟨T, G, L, hd, w, a, st, g, r1, r2, r3, r4, r5, r6, r7, r8⟩ := id h
  refine w_136 s ⟨fun h48 => ?_, fun _ => (ms_no h (by decide)).imp (fun v t q => ⟨_, q.1, ⟨_, rfl⟩, q.2⟩)⟩
  rcases r8 with q | ⟨n, si, q1, q2, q3, q4⟩
  · exact absurd q h48
  refine ms_136b (s0 := s) (fun t h1 h2 => ?_) 96 0 _ rfl (fun _ _ => rfl) (fun j hj => absurd hj (by omega))
  refine w_136_16 t _ ⟨fun _ => ?_, fun q => absurd (nI_le (a := 96) (b := 96) (by decide) (by decide)) q⟩
  have t5 : ∀ j, t 725 j = s 725 j := fun j => by rw [h1 725 (by decide)]
  rw [t5 41, q1]
  have tx : txOK (t 753) n := q2.congr (fun i hi => h2 i (by have := q2.1; omega))
  refine (ms_114 (s := up2 t 725 40 (nI n)) (up2_same _ _ _ _) (by rw [up2_nk _ _ _ (by decide)]; exact tx)).imp ?_
  rintro _ u ⟨rfl, T2, G2, g2, x1, x2, x3, x4, x5, x6, x7, x8⟩
  have uf : ∀ j, j ∉ jZ ++ [21, 47] → j ≠ 40 → u 725 j = s 725 j := fun j a b => by rw [x8.2 j a, up2_nj _ _ _ b, t5 j]
  have u42 : u 725 42 = nI si := by rw [uf 42 (by simp [jZ]) (by decide)]; exact q3
  rw [u42]
  refine ⟨rfl, (ms_137 x1 x4 (N := si) (by omega) (by omega) (by omega) (by omega)).imp ?_⟩
  rintro _ v ⟨rfl, m, hm, g3, g4⟩
  obtain ⟨T3, G3, L3, h3, w3, a3, y1, y2, y3, y4, y5, y6⟩ := id g3
  have cu : mC s u := fun q hq => by rw [x8.C kZ_ge q hq, up2_nk _ _ _ (by omega), h1 q (by omega)]
  have y7 := y6.C
  refine ⟨rfl, ⟨_, rfl⟩, MI.go (st := 0) x1 (by omega) (by omega) ⟨x5, x6, x7⟩ (by rw [uf 39 (by simp [jZ]) (by decide)]; exact r5) (by rw [uf 58 (by simp [jZ]) (by decide)]; exact r6) ⟨n, by rw [x8.2 40 (by simp [jZ]), up2_same], by rw [x8.1 753 (by decide) (by simp [kZ]), up2_nk _ _ _ (by decide)]; exact tx⟩ (Or.inr ⟨n, si, by rw [uf 41 (by simp [jZ]) (by decide)]; exact q1, ?_, u42, q4⟩) g3 (by rw [g4]), cu.trans y7.1, ?_, ?_⟩
  · rw [x8.1 754 (by decide) (by simp [kZ]), up2_nk _ _ _ (by decide), h1 754 (by decide)]; exact q2
  · rw [y7.2.1, x8.1 752 (by decide) (by simp [kZ]), up2_nk _ _ _ (by decide), h1 752 (by decide)]
  · rw [y7.2.2, uf 39 (by simp [jZ]) (by decide)]
/-! what is asked -/
def iRet (v : Option rv) : Prop := ∃ r : Int32, v = some (.inl r)
theorem mi_same {s : rSg} (h : MI s) : aft s s := ⟨h, mC.rfl', rfl, rfl⟩
theorem mi_no {s : rSg} (h : MI s) {x : Int32} (hx1 : rIn (-x) 7 = true) : EvS rSkel 1 128 [.inr (.inr (some 725)), .inl x] s (fun v t => ∃ n, v = some (.inl n) ∧ iRet (some (.inl n)) ∧ aft s t) := (ms_no h hx1).imp (fun v t q => ⟨x, q.1, ⟨_, rfl⟩, q.2⟩)
theorem mi_answers {s : rSg} (h : MI s) : EvS rSkel 1 162 [.inr (.inr (some 725))] s (fun v t => iRet v ∧ aft s t) := w_162 s ⟨⟨_, rfl⟩, mi_same h⟩
/-- isAnswer: the number of an answer -/
theorem ms_164 {s : rSg} {a : Nat} (ha : s 748 0 = nI a) (ha9 : a ≤ 30) (x : Int32) {P : Option rv → rSg → Prop} (h1 : ∀ i, i < a → x = nI i → P (some (.inl 1)) s) (h2 : P (some (.inl 0)) s) : EvS rSkel 2 164 [.inr (.inr (some 725)), .inl x] s P := by
  refine w_164 s x (ms_119 s x 0 _ (fun h => ⟨_, rfl, by decide, ?_⟩) (fun _ => ⟨_, rfl, by decide, h2⟩))
  obtain ⟨i, hi, rfl⟩ := nn_of (Int32.not_lt.mpr h.1)
  have h0 := h.2
  rw [ha] at h0
  cases a with
  | zero =>
    exfalso
    have := i_le.mp h0
    have e1 : (nI 0 - 1).toInt = -1 := by decide
    rw [e1, nI_toInt hi] at this
    omega
  | succ a =>
    rw [nI_pred a] at h0
    exact h1 i (by have := (nI_leI hi (by omega)).mp h0; omega) rfl
theorem ms_165 (s : rSg) (x : Int32) {P : Option rv → rSg → Prop} (h1 : ∀ i, i < 6 → x = nI i → P (some (.inl 1)) s) (h2 : P (some (.inl 0)) s) : EvS rSkel 2 165 [.inl x] s P := by
  refine w_165 s x (ms_119 s x 0 5 (fun h => ⟨_, rfl, by decide, ?_⟩) (fun _ => ⟨_, rfl, by decide, h2⟩))
  obtain ⟨i, hi, rfl⟩ := nn_of (Int32.not_lt.mpr h.1)
  exact h1 i (by have := (nI_leI hi (b := 5) (by decide)).mp h.2; omega) rfl
theorem MI.ans {s : rSg} (h : MI s) : ∃ a, s 748 0 = nI a ∧ a ≤ 30 := by
  obtain ⟨T, G, L, hd, w, a, st, g, r1, _⟩ := h
  exact ⟨a, r1.2.2.2.2.1⟩
theorem mi_when {s : rSg} (h : MI s) (x : Int32) : EvS rSkel 3 173 [.inr (.inr (some 725)), .inl x] s (fun v t => iRet v ∧ aft s t) := by
  obtain ⟨a, ha, ha9⟩ := h.ans
  exact w_173 s x (ms_164 ha ha9 x (fun i hi e => ⟨_, rfl, fun q => absurd q (by decide), fun _ => ⟨by rw [e]; exact rIn_nI (by omega) (by decide), ⟨_, rfl⟩, mi_same h⟩⟩) ⟨_, rfl, fun _ => mi_no h (by decide), fun q => absurd rfl q⟩)
theorem mi_kept {s : rSg} (h : MI s) (x : Int32) : EvS rSkel 3 174 [.inr (.inr (some 725)), .inl x] s (fun v t => iRet v ∧ aft s t) := by
  obtain ⟨a, ha, ha9⟩ := h.ans
  exact w_174 s x (ms_164 ha ha9 x (fun i hi e => ⟨_, rfl, fun q => absurd q (by decide), fun _ => ⟨by rw [e]; exact rIn_nI (by omega) (by decide), ⟨_, rfl⟩, mi_same h⟩⟩) ⟨_, rfl, fun _ => mi_no h (by decide), fun q => absurd rfl q⟩)
theorem mi_done {s : rSg} (h : MI s) : EvS rSkel 2 176 [.inr (.inr (some 725))] s (fun v t => iRet v ∧ aft s t) := by
  obtain ⟨T, G, L, hd, w, a, st, g, r1, _⟩ := id h
  refine w_176 s ((ms_138 r1).imp ?_)
  rintro _ _ ⟨rfl, rfl⟩
  exact ⟨_, rfl, fun _ => ⟨⟨_, rfl⟩, mi_same h⟩, fun _ => ⟨⟨_, rfl⟩, mi_same h⟩⟩
theorem mi_queue {s : rSg} (h : MI s) (x : Int32) : EvS rSkel 2 175 [.inr (.inr (some 725)), .inl x] s (fun v t => iRet v ∧ aft s t) := by
  obtain ⟨T, G, L, hd, w, a, st, g, r1, _⟩ := id h
  have b1 := r1.1.1
  refine w_175 s x ((ev_m_slot 0 s (j := 0) r1.2.1.1 r1.2.1.2 r1.2.2.1.1 (by have := r1.2.2.1.2; omega)).imp ?_)
  rintro _ s ⟨rfl, rfl⟩
  have ok : ∀ y : Int32, iRet (some (.inl y)) ∧ aft s s := fun y => ⟨⟨_, rfl⟩, mi_same h⟩
  have rs : rIn (nI (42 * 0 + (hd + 0) % 42)) 84 = true := rIn_nI (by omega) (by decide)
  have fst : ¬ s 747 0 = 0 → ∃ p, wX s T G L (42 * 0 + (hd + 0) % 42) p := fun q => r1.2.2.2.2.2.1 0 (by
    have q2 := r1.2.2.2.1
    have : w ≠ 0 := fun e => q (by rw [q2.1, e]; rfl)
    omega)
  refine ⟨_, rfl, fun _ => ok _, fun _ => ok _, fun _ => ok _, fun _ => ⟨fun q => ⟨rs, ?_⟩, fun _ => ok _⟩, fun _ => ⟨fun q => ⟨rs, ?_⟩, fun _ => ok _⟩, fun _ => ⟨fun _ => ⟨rs, ok _⟩, fun _ => ok _⟩, fun _ => mi_no h (by decide)⟩
  · obtain ⟨p, hp1⟩ := fst q
    rw [nI_clamp (by omega), hp1.2.1]
    have hl := dol_lt (by omega) hp1.2.2.2.2.2.1
    have hl2 := dol_len hp1.2.2.2.2.2.1
    refine (ev_m_lengthOf 0 s (dol_chn (by omega) hp1.2.2.2.2.2.1) (by omega)).imp ?_
    rintro _ _ ⟨rfl, rfl⟩
    exact ⟨_, rfl, ok _⟩
  · obtain ⟨p, hp1⟩ := fst q
    rw [nI_clamp (by omega), hp1.2.2.1]
    have hl := kel_lt (by omega) hp1.2.2.2.2.2.2.1
    have hl2 := kel_len hp1.2.2.2.2.2.2.1
    refine (ev_m_lengthOf 0 s (kel_chn (by omega) hp1.2.2.2.2.2.2.1) (by omega)).imp ?_
    rintro _ _ ⟨rfl, rfl⟩
    exact ⟨_, rfl, ok _⟩
