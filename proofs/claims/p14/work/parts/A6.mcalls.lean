/-! THE REFERENCE: calls that keep it -/
def kI : List Nat := [726, 736, 737, 738, 744, 745, 750, 751, 752, 755, 756, 757, 758, 759]
def jI : List Nat := [16, 17, 18, 19, 20, 43, 44, 45, 46, 51, 52, 54, 55, 56, 59]
/-- the class's cells stay -/
def mC (s t : rSg) : Prop := ∀ q, q < 725 → t q = s q
theorem mC.rfl' {s : rSg} : mC s s := fun _ _ => rfl
theorem mC.trans {s t u : rSg} (h1 : mC s t) (h2 : mC t u) : mC s u := fun q hq => (h2 q hq).trans (h1 q hq)
theorem mK.C {ks js : List Nat} {s t : rSg} (h : mK ks js s t) (hk : ∀ k, k ∈ ks → 725 ≤ k) : mC s t := fun q hq => h.1 q (by omega) (fun e => by have := hk q e; omega)
theorem kI_ge : ∀ k, k ∈ kI → 725 ≤ k := by decide
theorem kZ_ge : ∀ k, k ∈ kZ → 725 ≤ k := by decide
theorem kI_no : ∀ k, (727 ≤ k ∧ k ≤ 735) ∨ (739 ≤ k ∧ k ≤ 743) ∨ (746 ≤ k ∧ k ≤ 749) ∨ k = 753 ∨ k = 754 → k ∉ kI := fun k h e => by
  simp [kI] at e
  omega
theorem RS.keep {s t : rSg} {z T G L h w a : Nat} (hs : RS s z T G L h w a) (k1 : ∀ q, (727 ≤ q ∧ q ≤ 735) ∨ (739 ≤ q ∧ q ≤ 743) ∨ (746 ≤ q ∧ q ≤ 749) → t q = s q) (k2 : ∀ j, j = 10 ∨ j = 11 ∨ j = 12 ∨ j = 21 → t 725 j = s 725 j) : RS t z T G L h w a ∧ hx T G L s t := by
  have e : hx T G L s t := hx.of (fun k a b => k1 k (by omega))
  have ht := hs.1.keep e ⟨k2 10 (by omega), k2 11 (by omega), k2 12 (by omega)⟩
  have g : sz z s t := ⟨fun j _ => by rw [k1 740 (by omega), k1 741 (by omega), k1 742 (by omega)]; exact ⟨rfl, rfl, rfl⟩, fun j _ => by rw [k1 739 (by omega)], fun j _ => by rw [k1 743 (by omega)], by rw [k1 746 (by omega)], by rw [k1 747 (by omega)], by rw [k1 748 (by omega)], by rw [k1 749 (by omega)]⟩
  exact ⟨⟨ht, ⟨by rw [k2 21 (by omega)]; exact hs.2.1.1, hs.2.1.2⟩, hs.2.2.ext hs.1 ht e (Nat.le_refl _) (Nat.le_refl _) (Nat.le_refl _) g⟩, e⟩
/-- nothing of it has changed but letters and row -/
theorem MI.of {s t : rSg} (h : MI s) (k : mK kI (jI ++ [39, 58]) s t) (h39 : ∃ n, t 725 39 = nI n ∧ n ≤ 96) (h58 : ∃ m, t 725 58 = nI m ∧ m ≤ 32) : MI t := by
  obtain ⟨T, G, L, hd, w, a, st, g, r1, r2, r3, r4, r5, r6, r7, r8⟩ := h
  have k1 : ∀ q, (727 ≤ q ∧ q ≤ 735) ∨ (739 ≤ q ∧ q ≤ 743) ∨ (746 ≤ q ∧ q ≤ 749) ∨ q = 753 ∨ q = 754 → t q = s q := fun q hq => k.1 q (by omega) (kI_no q hq)
  obtain ⟨t1, e⟩ := r1.keep (t := t) (fun q hq => k1 q (by omega)) (fun j hj => k.2 j (by simp [jI]; omega))
  refine ⟨T, G, L, hd, w, a, st, g, t1, ⟨by rw [k1 749 (by omega)]; exact r2.1, r2.2⟩, r3, ⟨by rw [k.2 47 (by simp [jI])]; exact r4.1, r4.2.1, ?_⟩, h39, h58, ?_, ?_⟩
  · rw [nh_ext r1.1.2.2.2 (by have := r1.1.1; omega) e.2.1 r4.2.1]; exact r4.2.2
  · obtain ⟨n, q1, q2⟩ := r7
    exact ⟨n, by rw [k.2 40 (by simp [jI])]; exact q1, by rw [k1 753 (by omega)]; exact q2⟩
  · rcases r8 with q | ⟨n, si, q1, q2, q3, q4⟩
    · exact Or.inl (by rw [k.2 48 (by simp [jI])]; exact q)
    · exact Or.inr ⟨n, si, by rw [k.2 41 (by simp [jI])]; exact q1, by rw [k1 754 (by omega)]; exact q2, by rw [k.2 42 (by simp [jI])]; exact q3, q4⟩
theorem MI.K {s t : rSg} (h : MI s) (k : mK kI jI s t) : MI t := by
  obtain ⟨T, G, L, hd, w, a, st, g, r1, r2, r3, r4, ⟨n, r5, r5'⟩, ⟨m, r6, r6'⟩, r7, r8⟩ := id h
  exact h.of (k.mono (fun _ q => q) (fun _ q => List.mem_append_left _ q)) ⟨n, by rw [k.2 39 (by simp [jI])]; exact r5, r5'⟩ ⟨m, by rw [k.2 58 (by simp [jI])]; exact r6, r6'⟩
/-- what is so behind a call: the reference's own, the class's cells, the letters -/
def aft (s t : rSg) : Prop := MI t ∧ mC s t ∧ t 752 = s 752 ∧ t 725 39 = s 725 39
theorem MI.aft {s t : rSg} (h : MI s) (k : mK kI jI s t) (h52 : t 752 = s 752) : aft s t := ⟨h.K k, k.C kI_ge, h52, k.2 39 (by simp [jI])⟩
/-- no: a refusal -/
theorem ms_no {s : rSg} (h : MI s) {x : Int32} (hx1 : rIn (-x) 7 = true) : EvS rSkel 1 128 [.inr (.inr (some 725)), .inl x] s (fun v t => v = some (.inl x) ∧ aft s t) := ms_128 hx1 (fun t ht => ⟨rfl, h.aft (ht.mono (by simp [kI]) (by simp)) (by rw [ht.1 752 (by decide) (by simp)])⟩)
theorem mi_letter {s : rSg} (h : MI s) {n : Nat} (h39 : s 725 39 = nI n) (hn : n ≤ 96) (x : Int32) : EvS rSkel 2 126 [.inr (.inr (some 725)), .inl x] s (fun v t => v = some (.inl (ltV n x)) ∧ MI t ∧ mC s t ∧ t 725 39 = nI (ltN n x)) := by
  refine (ms_126 h39 hn x).imp ?_
  rintro v t ⟨rfl, e, k⟩
  have hl : ltN n x ≤ 96 := by unfold ltN; split <;> omega
  obtain ⟨T, G, L, hd, w, a, st, g, r1, r2, r3, r4, r5, ⟨m, r6, r6'⟩, r7, r8⟩ := id h
  exact ⟨rfl, h.of (k.mono (by simp [kI]) (by simp)) ⟨_, e, hl⟩ ⟨m, by rw [k.2 58 (by simp)]; exact r6, r6'⟩, k.C (by simp), e⟩
theorem mi_row {s : rSg} (h : MI s) (x : Int32) : EvS rSkel 2 197 [.inr (.inr (some 725)), .inl x] s (fun v t => (∃ r : Int32, v = some (.inl r)) ∧ aft s t) := by
  obtain ⟨T, G, L, hd, w, a, st, g, r1, r2, r3, r4, ⟨n, r5, r5'⟩, ⟨m, r6, r6'⟩, r7, r8⟩ := id h
  refine (ms_197 r6 r6' x).imp ?_
  rintro v t ⟨h1, ⟨m2, h2, h3⟩, k⟩
  exact ⟨h1, h.of (k.mono (by simp [kI]) (by simp)) ⟨n, by rw [k.2 39 (by simp)]; exact r5, r5'⟩ ⟨m2, h3, h2⟩, k.C (by simp), by rw [k.1 752 (by decide) (by simp)], k.2 39 (by simp)⟩
theorem mi_clear {s : rSg} (h : MI s) : EvS rSkel 1 199 [.inr (.inr (some 725))] s (fun v t => (∃ r : Int32, v = some (.inl r)) ∧ aft s t) := by
  obtain ⟨T, G, L, hd, w, a, st, g, r1, r2, r3, r4, ⟨n, r5, r5'⟩, ⟨m, r6, r6'⟩, r7, r8⟩ := id h
  refine (ms_199 s).imp ?_
  rintro v t ⟨h1, h2, k⟩
  exact ⟨h1, h.of (k.mono (by simp) (by simp)) ⟨n, by rw [k.2 39 (by simp)]; exact r5, r5'⟩ ⟨0, h2, by decide⟩, k.C (by simp), by rw [k.1 752 (by decide) (by simp)], k.2 39 (by simp)⟩
/-! goal -/
theorem ms_129b {s0 : rSg} {n : Nat} (hn : n ≤ 96) {P : Option rv → rSg → Prop} (hP : ∀ t, (∀ q, q ≠ 753 → t q = s0 q) → (∀ j, j < n → t 753 j = s0 752 j) → g_129_46 (nI n) (nI n) t P) : ∀ (m y : Nat) (t : rSg), y + m = n → (∀ q, q ≠ 753 → t q = s0 q) → (∀ j, j < y → t 753 j = s0 752 j) → g_129_46 (nI n) (nI y) t P := by
  intro m
  induction m with
  | zero =>
    intro y t hy h1 h2
    obtain rfl : y = n := by omega
    exact hP t h1 h2
  | succ m ih =>
    intro y t hy h1 h2
    refine w_129_46 t _ _ ⟨fun q => absurd ((nI_leI (by omega) (by omega)).mp q) (by omega), fun _ => ?_⟩
    have r := rIn_nI (t := y) (n := 96) (by omega) (by decide)
    rw [nI_clamp (by omega), nI_1]
    refine ⟨r, r, ih (y + 1) _ (by omega) (fun q hq => by rw [up2_nk _ _ _ hq]; exact h1 q hq) (fun j hj => ?_)⟩
    by_cases e : j = y
    · subst e; rw [up2_same, h1 752 (by decide)]
    · rw [up2_nj _ _ _ e]; exact h2 j (by omega)
theorem mi_goal {s : rSg} (h : MI s) {n : Nat} (h39 : s 725 39 = nI n) (hn : n ≤ 96) : EvS rSkel 5 129 [.inr (.inr (some 725))] s (fun v t => (∃ r, RRun (s 752) n n 0 ([103], 0, 0, none) r ∧ cOut v r) ∧ MI t ∧ mC s t ∧ t 725 39 = nI 0) := by
  obtain ⟨T, G, L, hd, w, a, st, g, r1, r2, r3, r4, r5, ⟨m, r6, r6'⟩, r7, r8⟩ := id h
  refine w_129 s ((ms_130 (tx := s 752) hn h39 (fun _ _ => rfl)).imp ?_)
  rintro v t ⟨r, hR, ho, k⟩
  have kf : mK kI (jI ++ [39, 58]) s (up2 t 725 39 0) := (k.mono (by simp [kI]) (by simp [jI])).upF (by simp [jI])
  have t58 : up2 t 725 39 0 725 58 = nI m := by rw [kf.2 58 |> fun _ => (up2_nj t 725 0 (show (58 : Nat) ≠ 39 by decide)), k.2 58 (by simp)]; exact r6
  have same : MI (up2 t 725 39 0) := h.of kf ⟨0, up2_same _ _ _ _, by decide⟩ ⟨m, t58, r6'⟩
  have cf : mC s (up2 t 725 39 0) := kf.C kI_ge
  cases r with
  | inl j =>
    obtain ⟨rfl, h43⟩ := ho
    exact ⟨_, rfl, fun q => absurd rfl q, fun _ => ⟨⟨_, hR, by rw [h43]; rfl⟩, same, cf, up2_same _ _ _ _⟩⟩
  | inr x =>
    obtain ⟨ng, nt, bad⟩ := x
    obtain ⟨rfl, h43, h45, h46, h44⟩ := ho
    have ok := RRun_ok n 0 _ ng nt bad rd0.1 rd0.2 hR
    have t39 : t 725 39 = nI n := by rw [k.2 39 (by simp)]; exact h39
    refine ⟨_, rfl, fun _ => ⟨fun hb => ?_, fun hb => ?_⟩, fun q => absurd (by decide) q⟩
    · have hbn : bad = none := by
        cases bad with
        | none => rfl
        | some b => exact absurd hb (by rw [h44]; exact nI_pos (by have := ok.2.2.2.1 b rfl; omega))
      subst hbn
      have o5 := ok.2.2.2.2 rfl
      simp only at o5
      rw [t39]
      refine ms_129b hn (fun u h1 h2 => ?_) n 0 _ (by omega) (fun _ _ => rfl) (fun j hj => absurd hj (by omega))
      refine w_129_46 u _ _ ⟨fun _ => ?_, fun q => absurd (nI_le (by omega) (by omega)) q⟩
      have u5 : ∀ j, u 725 j = up2 t 725 39 0 725 j := fun j => by rw [h1 725 (by decide)]
      have txu : txOK (u 753) n := ⟨hn, ng, nt, o5, RRun_congr (fun i hi => by rw [h2 i hi, up2_nk _ _ _ (by decide), k.1 752 (by decide) (by simp)]) n 0 _ _ (by omega) hR⟩
      refine (ms_114 (s := up2 u 725 40 (nI n)) (up2_same _ _ _ _) (by rw [up2_nk _ _ _ (by decide)]; exact txu)).imp ?_
      rintro _ x ⟨rfl, T2, G2, g2, x1, x2, x3, x4, x5, x6, x7, x8⟩
      have xf : ∀ j, j ∉ jZ ++ [21, 47] → j ≠ 40 → j ≠ 39 → j ∉ [17, 43, 44, 45, 46] → x 725 j = s 725 j := fun j a b c d => by rw [x8.2 j a, up2_nj _ _ _ b, u5 j, up2_nj _ _ _ c, k.2 j d]
      refine ⟨rfl, ⟨_, hR, ?_⟩, ⟨T2, G2, 2, 0, 1, 0, 0, g2, x1, ⟨x4, by decide⟩, by omega, ⟨x5, x6, x7⟩, ⟨0, ?_, by decide⟩, ⟨m, ?_, r6'⟩, ⟨n, ?_, ?_⟩, ?_⟩, ?_, ?_⟩
      · rw [x8.2 45 (by simp [jZ]), up2_nj _ _ _ (by decide), u5 45, up2_nj _ _ _ (by decide), h45]; rfl
      · rw [x8.2 39 (by simp [jZ]), up2_nj _ _ _ (by decide), u5 39, up2_same]; rfl
      · rw [xf 58 (by simp [jZ]) (by decide) (by decide) (by simp)]; exact r6
      · rw [x8.2 40 (by simp [jZ]), up2_same]
      · rw [x8.1 753 (by decide) (by simp [kZ]), up2_nk _ _ _ (by decide)]; exact txu
      · rcases r8 with q | ⟨n2, si, q1, q2, q3, q4⟩
        · exact Or.inl (by rw [xf 48 (by simp [jZ]) (by decide) (by decide) (by simp)]; exact q)
        · refine Or.inr ⟨n2, si, by rw [xf 41 (by simp [jZ]) (by decide) (by decide) (by simp)]; exact q1, ?_, by rw [xf 42 (by simp [jZ]) (by decide) (by decide) (by simp)]; exact q3, q4⟩
          rw [x8.1 754 (by decide) (by simp [kZ]), up2_nk _ _ _ (by decide), h1 754 (by decide), up2_nk _ _ _ (by decide), k.1 754 (by decide) (by simp)]
          exact q2
      · intro q hq
        rw [x8.C kZ_ge q hq, up2_nk _ _ _ (by omega), h1 q (by omega)]
        exact cf q hq
      · rw [x8.2 39 (by simp [jZ]), up2_nj _ _ _ (by decide), u5 39, up2_same]; rfl
    · cases bad with
      | none => exact absurd (by rw [h44]; decide) hb
      | some b => exact ⟨⟨_, hR, by rw [h44]; rfl⟩, same, cf, up2_same _ _ _ _⟩
