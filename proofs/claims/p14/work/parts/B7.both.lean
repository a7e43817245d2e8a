/-! BOTH: letter and goal, exactly -/
theorem cs_5 {s : rSg} {n : Nat} (hn : n ≤ 96) (hr : s 687 1 = nI n) : EvS rSkel 4 5 [.inr (.inr (some 678)), .inr (.inr (some 687))] s (fun v t => ∃ r, RRun (s 688) n n 0 ([103], 0, 0, none) r ∧ cOut v r ∧ rd s t) := by
  refine w_5 s 687 96 row687 (w_6 s ((s_20 scr231 s).imp ?_))
  rintro _ t ⟨rfl, ht⟩
  generalize eu : up2 (up2 (up2 (up2 t 678 4 0) 678 5 0) 678 6 0) 678 7 (-1) = u
  have ru : rd s u := by rw [← eu]; exact ((((rd.rfl' (s := s)).sc ht).up (k := 678) (j := 4) (x := 0) (by omega)).up (k := 678) (j := 5) (x := 0) (by omega)).up (k := 678) (j := 6) (x := 0) (by omega) |>.up (by omega)
  have u4 : u 678 4 = nI ([] : List Int32).length := by rw [← eu, up2_nj _ _ _ (by decide), up2_nj _ _ _ (by decide), up2_nj _ _ _ (by decide), up2_same]; rfl
  have u5 : u 678 5 = nI 0 := by rw [← eu, up2_nj _ _ _ (by decide), up2_nj _ _ _ (by decide), up2_same]; rfl
  have u6 : u 678 6 = nI 0 := by rw [← eu, up2_nj _ _ _ (by decide), up2_same]; rfl
  have u7 : u 678 7 = badI none := by rw [← eu, up2_same]; rfl
  refine ⟨rfl, (cs_7 (s := u) (l := []) ⟨u4, trivial⟩ (by decide) 103 (-1) 0).imp ?_⟩
  rintro _ w ⟨rfl, hw, kw⟩
  have rw0 : rd s w := ru.trans kw.1
  refine ⟨rfl, rfl, w_16 w 687 96 row687 ⟨_, rfl, ?_⟩⟩
  rw [rw0 687 (by omega), hr]
  exact cs_5b (tx := s 688) hn hr (fun _ _ => rfl) n 0 ([103], 0, 0, none) w (by omega) ⟨hw, by rw [kw.2 5 (by simp)]; exact u5, by rw [kw.2 6 (by simp)]; exact u6, by rw [kw.2 7 (by simp)]; exact u7⟩ rd0.1 rd0.2 rw0
/-- goal of the class: what it answers -/
theorem c_goal {s : rSg} (h : clI s) {n : Nat} (hn : n ≤ 96) (hl : s 687 1 = nI n) : EvS rSkel 5 73 [.inr (.inr (some 0))] s (fun v t => (∃ r, RRun (s 688) n n 0 ([103], 0, 0, none) r ∧ cOut v r) ∧ (∀ q, 725 ≤ q → t q = s q) ∧ t 687 1 = nI 0 ∧ LK 0 s t ∧ clI t) := by
  refine w_73 s ((cs_5 hn hl).imp ?_)
  rintro v t ⟨r, hR, ho, ht⟩
  have hv : ∃ x : Int32, v = some (.inl x) := by
    cases r with
    | inl j => exact ⟨_, ho⟩
    | inr x =>
      obtain ⟨a, b, c⟩ := x
      cases c with
      | none => exact ⟨_, ho⟩
      | some c => exact ⟨_, ho⟩
  obtain ⟨x, rfl⟩ := hv
  refine ⟨_, rfl, w_18 t 687 96 row687 ⟨rfl, ?_⟩⟩
  generalize eu : up2 t 687 1 0 = u
  have u0 : ∀ q, q ≠ 687 → u q = t q := fun q hq => by rw [← eu, up2_nk _ _ _ hq]
  have u1 : u 687 1 = nI 0 := by rw [← eu, up2_same]; rfl
  have cu : clI u := ⟨h.1.ext (by rw [u0 6 (by decide), ht 6 (by omega)]), h.2.1.ext (by rw [u0 230 (by decide), ht 230 (by omega)]), h.2.2.ext (by rw [u0 454 (by decide), ht 454 (by omega)])⟩
  have lu : LK 0 s u := LK.of (by rw [u0 1 (by decide), ht 1 (by omega)]) (by rw [u0 5 (by decide), ht 5 (by omega)])
  have fu : ∀ q, 725 ≤ q → u q = s q := fun q hq => by rw [u0 q (by omega), ht q (by omega)]
  refine ⟨fun _ => (s_26 scr7 scr231 (by omega) u).imp ?_, fun _ => ⟨⟨r, hR, ho⟩, fu, u1, lu, cu⟩⟩
  rintro _ w ⟨rfl, hw⟩
  have gw := (CR.rfl' cu).sc (b := 6) (by simp) hw
  refine ⟨rfl, (s_33 seaA6 w).imp ?_⟩
  rintro _ y ⟨rfl, hy⟩
  have gx := gw.then (by simp) hy
  exact ⟨rfl, ⟨r, hR, ho⟩, fun q hq => by rw [gx.1 q (by omega), fu q hq], by rw [gx.1 687 (by omega), u1], lu.trans gx.2.1, gx.2.2⟩
theorem cOut_det {v w : Option rv} {r : Nat ⊕ (Nat × Nat × Option Nat)} (h1 : cOut v r) (h2 : cOut w r) : v = w := by
  cases r with
  | inl j =>
    have h1 : v = some (.inl ((-1000) - nI j)) := h1
    have h2 : w = some (.inl ((-1000) - nI j)) := h2
    rw [h1, h2]
  | inr x =>
    obtain ⟨a, b, c⟩ := x
    cases c with
    | none =>
      have h1 : v = some (.inl (nI a)) := h1
      have h2 : w = some (.inl (nI a)) := h2
      rw [h1, h2]
    | some c =>
      have h1 : v = some (.inl ((-2000) - nI c)) := h1
      have h2 : w = some (.inl ((-2000) - nI c)) := h2
      rw [h1, h2]
theorem cOut_int {v : Option rv} {r : Nat ⊕ (Nat × Nat × Option Nat)} (h : cOut v r) : ∃ x : Int32, v = some (.inl x) := by
  cases r with
  | inl j => exact ⟨_, h⟩
  | inr x =>
    obtain ⟨a, b, c⟩ := x
    cases c with
    | none => exact ⟨_, h⟩
    | some c => exact ⟨_, h⟩
/-- a letter of the class, with the row -/
theorem c_letter {s : rSg} (h : clI s) {n : Nat} (hl : s 687 1 = nI n) (hn : n ≤ 96) (x : Int32) : EvS rSkel 2 71 [.inr (.inr (some 0)), .inl x] s (fun v t => v = some (.inl (ltV n x)) ∧ (∀ q, 725 ≤ q → t q = s q) ∧ t 687 1 = nI (ltN n x) ∧ LK 0 s t ∧ clI t ∧ (∀ i, i < n → t 688 i = s 688 i) ∧ (ltN n x = n + 1 → t 688 n = x)) := by
  have ref : ∀ z : Int32, rIn (-z) 7 = true → ltV n x = z → ltN n x = n → EvS rSkel 1 72 [.inr (.inr (some 0)), .inl z] s (fun v3 t4 => ∃ n6, v3 = some (.inl n6) ∧ some (.inl n6 : rv) = some (.inl (ltV n x)) ∧ (∀ q, 725 ≤ q → t4 q = s q) ∧ t4 687 1 = nI (ltN n x) ∧ LK 0 s t4 ∧ clI t4 ∧ (∀ i, i < n → t4 688 i = s 688 i) ∧ (ltN n x = n + 1 → t4 688 n = x)) := fun z hz e1 e2 => by
    have fin : ∀ t, CR 0 s t → ∃ n6, some (.inl z : rv) = some (.inl n6) ∧ some (.inl n6 : rv) = some (.inl (ltV n x)) ∧ (∀ q, 725 ≤ q → t q = s q) ∧ t 687 1 = nI (ltN n x) ∧ LK 0 s t ∧ clI t ∧ (∀ i, i < n → t 688 i = s 688 i) ∧ (ltN n x = n + 1 → t 688 n = x) := fun t ht => ⟨z, rfl, by rw [e1], fun q hq => ht.1 q (by omega), by rw [ht.1 687 (by omega), e2, hl], ht.2.1, ht.2.2, fun i _ => by rw [ht.1 688 (by omega)], fun q => by omega⟩
    exact w_72 s z ⟨fun _ => fin s (CR.rfl' h), fun _ => ⟨fun _ => fin s (CR.rfl' h), fun _ => ⟨hz, hz, fin _ (CR.fr h (fun q hq => up2_nk _ _ _ (by omega)))⟩⟩⟩
  refine w_71 s x ⟨fun h0 => ⟨fun h1 => ref (-6) (by decide) (by unfold ltV; rw [if_pos h0, if_pos h1]) (by unfold ltN; rw [if_neg (fun q => q.2.1 h1)]), fun h1 => w_14 s 687 96 row687 ⟨fun h2 => ⟨_, rfl, fun _ => ?_, fun q => absurd rfl q⟩, fun h2 => ⟨_, rfl, fun q => absurd q (by decide), fun _ => ?_⟩⟩⟩, fun h0 => ref (-4) (by decide) (by unfold ltV; rw [if_neg h0]) (by unfold ltN; rw [if_neg (fun q => h0 q.1)])⟩
  · rw [hl] at h2
    have n9 : n < 96 := (nI_ltI (by omega) (b := 96) (by decide)).mp h2
    refine w_15 s 687 96 row687 x ⟨fun q => absurd q (by rw [hl]; exact nI_pos (by omega)), fun _ => ⟨fun q => absurd q (by rw [hl]; exact Int32.not_le.mpr h2), fun _ => ?_⟩⟩
    rw [hl, nI_1]
    refine ⟨rIn_nI n9 (by decide), _, rfl, by unfold ltV; rw [if_pos h0, if_neg h1, if_pos n9], fun q hq => ?_, ?_, LK.of ?_ ?_, ?_, fun i hi => ?_, fun _ => ?_⟩
    · rw [up2_nk _ _ _ (by omega), up2_nk _ _ _ (by omega)]
    · rw [up2_same]; unfold ltN; rw [if_pos ⟨h0, h1, n9⟩]
    · rw [up2_nk _ _ _ (by decide), up2_nk _ _ _ (by decide)]
    · rw [up2_nk _ _ _ (by decide), up2_nk _ _ _ (by decide)]
    · exact ⟨h.1.ext (by rw [up2_nk _ _ _ (by decide), up2_nk _ _ _ (by decide)]), h.2.1.ext (by rw [up2_nk _ _ _ (by decide), up2_nk _ _ _ (by decide)]), h.2.2.ext (by rw [up2_nk _ _ _ (by decide), up2_nk _ _ _ (by decide)])⟩
    · rw [nI_clamp (by omega), up2_nk _ _ _ (by decide), up2_nj _ _ _ (by omega)]
    · rw [nI_clamp (by omega), up2_nk _ _ _ (by decide), up2_same]
  · rw [hl] at h2
    have n9 : ¬ n < 96 := fun q => h2 ((nI_ltI (by omega) (b := 96) (by decide)).mpr q)
    exact ref (-6) (by decide) (by unfold ltV; rw [if_pos h0, if_neg h1, if_neg n9]) (by unfold ltN; rw [if_neg (fun q => n9 q.2.2)])
/-- a letter of the reference, with the tape -/
theorem m_letter {s : rSg} (h : MI s) {n : Nat} (hl : s 725 39 = nI n) (hn : n ≤ 96) (x : Int32) : EvS rSkel 2 126 [.inr (.inr (some 725)), .inl x] s (fun v t => v = some (.inl (ltV n x)) ∧ MI t ∧ mC s t ∧ t 725 39 = nI (ltN n x) ∧ (∀ i, i < n → t 752 i = s 752 i) ∧ (ltN n x = n + 1 → t 752 n = x)) := by
  obtain ⟨T, G, L, hd, w, a, st, g, hb⟩ := h.b
  obtain ⟨m, h58, hm⟩ := hb.2.2.2.2.2.1
  have no : ∀ z : Int32, rIn (-z) 7 = true → ltV n x = z → ltN n x = n → EvS rSkel 1 128 [.inr (.inr (some 725)), .inl z] s (fun v7 t8 => ∃ n10, v7 = some (.inl n10) ∧ some (.inl n10 : rv) = some (.inl (ltV n x)) ∧ MI t8 ∧ mC s t8 ∧ t8 725 39 = nI (ltN n x) ∧ (∀ i, i < n → t8 752 i = s 752 i) ∧ (ltN n x = n + 1 → t8 752 n = x)) := fun z hz e1 e2 => (ms_no h hz).imp (fun v t q => ⟨z, q.1, by rw [e1], q.2.1, q.2.2.1, by rw [q.2.2.2.2, hl, e2], fun i _ => by rw [q.2.2.2.1], fun q => by omega⟩)
  refine w_126 s x (ms_127 s x 0 255 (fun h0 h1 => ⟨_, rfl, fun q => absurd rfl q, fun _ => ⟨fun h2 => ⟨fun _ => ?_, fun q => absurd rfl q⟩, fun h2 => ?_⟩⟩) (fun h0 h1 => ⟨_, rfl, fun _ => ⟨fun q => absurd q (by decide), fun _ => ?_⟩, fun q => absurd (by decide) q⟩) (fun h0 => ⟨_, rfl, fun _ => ⟨fun q => absurd q (by decide), fun _ => ?_⟩, fun q => absurd (by decide) q⟩))
  · have n9 : n < 96 := by
      have : n ≠ 96 := fun q => h2 (by rw [hl, q]; rfl)
      omega
    have g1 : ¬ 255 < x := Int32.not_lt.mpr h1
    rw [hl, nI_1]
    have k : mK kI (jI ++ [39, 58]) s (up2 (up2 s 752 (nI n).toNatClampNeg x) 725 39 (nI (n + 1))) := (mK.rfl'.up (by simp [kI]) (by decide)).upF (by simp)
    refine ⟨rIn_nI n9 (by decide), by unfold ltV; rw [if_pos h0, if_neg g1, if_pos n9], h.of k ⟨n + 1, up2_same _ _ _ _, by omega⟩ ⟨m, by rw [up2_nj _ _ _ (by decide), up2_nk _ _ _ (by decide)]; exact h58, hm⟩, k.C kI_ge, ?_, fun i hi => ?_, fun _ => ?_⟩
    · rw [up2_same]
      unfold ltN
      rw [if_pos ⟨h0, g1, n9⟩]
    · rw [nI_clamp (by omega), up2_nk _ _ _ (by decide), up2_nj _ _ _ (by omega)]
    · rw [nI_clamp (by omega), up2_nk _ _ _ (by decide), up2_same]
  · have e := Classical.not_not.mp h2
    rw [hl] at e
    have n9 : n = 96 := (nI_eq (b := 96) (by omega) (by decide)).mp e
    have g1 : ¬ 255 < x := Int32.not_lt.mpr h1
    exact no (-6) (by decide) (by unfold ltV; rw [if_pos h0, if_neg g1, if_neg (by omega)]) (by unfold ltN; rw [if_neg (fun q => absurd q.2.2 (by omega))])
  · have g1 : 255 < x := Int32.not_le.mp h1
    exact no (-6) (by decide) (by unfold ltV; rw [if_pos h0, if_pos g1]) (by unfold ltN; rw [if_neg (fun q => q.2.1 g1)])
  · exact no (-4) (by decide) (by unfold ltV; rw [if_neg h0]) (by unfold ltN; rw [if_neg (fun q => h0 q.1)])
/-! NEW OBJECTS -/
theorem MI_new {s : rSg} (h : mdF s) : MI s := by
  obtain ⟨h0, h39, h40, h48, h58, h21, h46, h47, h48b, h49, h50, h51, hd, hk, hf, hr, h12, h11, h10, l33, l35, g47, g9, t53, g0, g1, g2⟩ := h
  have hP : hpP s 75 := fun t a b => by omega
  have hh : hp s 75 1 2 := ⟨by decide, ⟨h10, h11, h12⟩, hP, fun g hg => by
    obtain rfl : g = 0 := by omega
    refine ⟨0, 0, 0, g0, g1, g2, fun q => ?_, fun _ => by decide⟩
    rw [g9] at q
    exact absurd q (by unfold two2; decide)⟩
  have n0 : nh s 0 = 0 := nh_none (by rw [g9]; decide) (by rw [g9]; unfold two2; decide)
  refine ⟨75, 1, 2, 0, 1, 0, 0, 0, ⟨hh, ⟨h21, by decide⟩, ⟨h46, by decide⟩, ⟨h47, by decide⟩, ⟨h48b, by decide⟩, fun i hi => ⟨(1, [0], 0, [], 6), ?_⟩, fun i hi => by omega⟩, ⟨h49, by decide⟩, by decide, ⟨g47, by decide, by omega⟩, ⟨0, h39, by decide⟩, ⟨0, h58, by decide⟩, ⟨1, h40, by decide, 1, 0, by decide, Or.inl ⟨([], 1, 0, none), Or.inr (Or.inr ⟨by decide, by decide, ?_, ?_⟩), Or.inl ⟨rfl, rfl⟩⟩⟩, Or.inl h48⟩
  · obtain rfl : i = 0 := by omega
    refine ⟨bRow_open (by decide) (by decide) hP (fun j hj => ?_), hd, hk, hf, show 6 ≤ 60 by decide, ⟨by decide, by decide, l33, by decide, 0, l35, by decide, rfl⟩, rfl, ?_⟩
    · rw [show 64 * (42 * 0 + (0 + 0) % 42) + j = j by omega]; exact hr j hj
    · simp [nhs, n0]
  · rw [t53]; unfold gSg; decide
  · rw [t53]; rfl
