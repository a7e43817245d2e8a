/-! THE REFERENCE, made: its first goal is '*' -/
def bldA (s : rSg) : rSg := up2 (up2 (up2 (up2 s 725 10 75) 725 11 0) 725 12 1) 725 17 0
def bldB (s : rSg) : rSg := up2 (up2 (up2 (up2 (up2 (bldA s) 729 0 42) 730 0 0) 731 0 0) 732 0 0) 725 11 (nI 1)
def bldC (s : rSg) : rSg := up2 (up2 (bldB s) 738 0 (nI 0)) 725 17 (nI 1)
def bldD (s : rSg) : rSg := up2 (up2 (up2 (bldC s) 725 17 (nI 0)) 725 47 (nI 0)) 725 21 0
def bldE (s : rSg) : rSg := mWaitS (mBeg0 (bldD s) 1 (nI 0)) 0 6 0 (42 * 0 + (0 + 0) % 42)
theorem m_sign42 (s : rSg) {P : Option rv → rSg → Prop} (h : P none (bldC s)) : EvS rSkel 2 115 [.inr (.inr (some 725)), .inl 42] (bldA s) P := by
  refine w_115 (bldA s) 42 ⟨fun _ => ⟨fun _ => ?_, fun q => absurd (by decide) q⟩, fun q => absurd (by decide) q⟩
  refine (ev_m_isIn 0 _ 42 97 102).imp ?_
  rintro _ _ ⟨rfl, rfl⟩
  refine ⟨_, rfl, fun _ => ?_, fun q => absurd (by decide) q⟩
  refine (ev_m_isIn 0 _ 42 48 57).imp ?_
  rintro _ _ ⟨rfl, rfl⟩
  refine ⟨_, rfl, fun _ => ⟨fun _ => ⟨fun _ => ?_, fun q => absurd rfl q⟩, fun q => absurd (by decide) q⟩, fun q => absurd (by decide) q⟩
  refine w_115_118 _ 42 0 ⟨fun _ => ⟨fun _ => ?_, fun q => absurd (by decide) q⟩, fun q => absurd rfl q⟩
  refine (ev_m_goalOf 0 (bldA s) (t := 0) 42 0 0 0 (by rw [bldA, up2_nj _ _ _ (by decide), up2_nj _ _ _ (by decide), up2_same]; rfl) (by decide)).imp ?_
  rintro _ _ ⟨rfl, rfl⟩
  refine ⟨_, rfl, (ev_m_piles 0 _ (p := 0) (nI 0) ?_ (by decide)).imp ?_⟩
  · rw [up2_nj _ _ _ (by decide), up2_nk _ _ _ (by decide), up2_nk _ _ _ (by decide), up2_nk _ _ _ (by decide), up2_nk _ _ _ (by decide), bldA, up2_same]
    rfl
  rintro _ _ ⟨rfl, rfl⟩
  exact ⟨rfl, h⟩
theorem m_builds0 (s : rSg) (h40 : s 725 40 = 1) (h753 : s 753 0 = 42) : EvS rSkel 4 114 [.inr (.inr (some 725))] s (fun v s2 => v = none ∧ s2 = bldE s) := by
  refine w_114 s ?_
  rw [h40]
  have e : bldA s 753 (1 - 1 : Int32).toNatClampNeg = 42 := by
    rw [show (1 - 1 : Int32).toNatClampNeg = 0 from rfl, bldA, up2_nk _ _ _ (by decide), up2_nk _ _ _ (by decide), up2_nk _ _ _ (by decide), up2_nk _ _ _ (by decide), h753]
  refine w_114_28 (bldA s) (1 - 1) ⟨fun q => absurd q (by decide), fun _ => ⟨by decide, ?_⟩⟩
  rw [e]
  refine m_sign42 s ⟨rfl, ?_⟩
  refine w_114_28 (bldC s) (1 - 1 + -1) ⟨fun _ => ?_, fun q => absurd (by decide) q⟩
  have e17 : bldC s 725 17 = nI 1 := by rw [bldC, up2_same]
  refine w_116 (bldC s) ⟨by rw [e17]; decide, ?_⟩
  rw [e17, show (nI 1 - 1) = nI 0 from rfl, show (nI 0).toNatClampNeg = 0 from rfl, show bldC s 738 0 = nI 0 by rw [bldC, up2_nk _ _ _ (by decide), up2_same]]
  refine ⟨_, rfl, (ev_m_begins_0 0 (bldD s) (t := 1) (nI 0) (by rw [bldD, up2_same]) ?_ (by decide)).imp ?_⟩
  · rw [bldD, up2_nj _ _ _ (by decide), up2_nj _ _ _ (by decide), up2_nj _ _ _ (by decide), bldC, up2_nj _ _ _ (by decide), up2_nk _ _ _ (by decide), bldB, up2_nj _ _ _ (by decide), up2_nk _ _ _ (by decide), up2_nk _ _ _ (by decide), up2_nk _ _ _ (by decide), up2_nk _ _ _ (by decide), bldA, up2_nj _ _ _ (by decide), up2_same]
    rfl
  rintro _ _ ⟨rfl, rfl⟩
  exact ⟨rfl, rfl, rfl⟩
/-- a new reference: '*' waits -/
def mdF (s : rSg) : Prop := (∀ j, s 726 j = 0) ∧ s 725 39 = 0 ∧ s 725 40 = 1 ∧ s 725 48 = 0 ∧ s 725 58 = 0 ∧ s 725 21 = 0 ∧ s 746 0 = 0 ∧ s 747 0 = 1 ∧ s 748 0 = 0 ∧ s 749 0 = 0 ∧ s 750 0 = 0 ∧ s 751 0 = 1 ∧ s 740 0 = 1 ∧ s 741 0 = 0 ∧ s 742 0 = 6 ∧ (∀ j, j < 64 → s 739 j = -9) ∧ s 725 12 = 2 ∧ s 725 11 = 1 ∧ s 725 10 = 75 ∧ s 733 1 = 0 ∧ s 735 1 = 0 ∧ s 725 47 = 0 ∧ s 729 0 = 42 ∧ s 753 0 = 42 ∧ s 730 0 = 0 ∧ s 731 0 = 0 ∧ s 732 0 = 0
theorem bldE_F {s0 s : rSg} (hz : Zr s0 s 725 759) : (∀ q, q < 725 → bldE (up2 (up2 s 753 0 42) 725 40 1) q = s0 q) ∧ mdF (bldE (up2 (up2 s 753 0 42) 725 40 1)) := by
  have z : ∀ q, 725 ≤ q → q ≤ 759 → ∀ j, s q j = 0 := fun q h1 h2 j => by rw [hz.2 q h1 h2]
  refine ⟨fun q hq => ?_, ?_⟩
  · have f2 : ∀ (t : rSg) (k j : Nat) (x : Int32), 725 ≤ k → up2 t k j x q = t q := fun t k j x h => up2_nk _ _ _ (by omega)
    have fC : ∀ (t : rSg) (k : Nat) (f : Nat → Int32), 725 ≤ k → upC t k f q = t q := fun t k f h => upC_ne _ _ (by omega)
    simp only [bldE, mWaitS, mBeg0, mEmp, bldD, bldC, bldB, bldA, f2 _ 747 _ _ (by decide), f2 _ 742 _ _ (by decide), f2 _ 741 _ _ (by decide), f2 _ 740 _ _ (by decide), f2 _ 725 _ _ (by decide), f2 _ 735 _ _ (by decide), f2 _ 734 _ _ (by decide), f2 _ 733 _ _ (by decide), f2 _ 751 _ _ (by decide), f2 _ 750 _ _ (by decide), f2 _ 749 _ _ (by decide), f2 _ 748 _ _ (by decide), f2 _ 746 _ _ (by decide), f2 _ 738 _ _ (by decide), f2 _ 732 _ _ (by decide), f2 _ 731 _ _ (by decide), f2 _ 730 _ _ (by decide), f2 _ 729 _ _ (by decide), f2 _ 753 _ _ (by decide), fC _ 739 _ (by decide), fC _ 736 _ (by decide)]
    exact hz.1 q hq
  · refine ⟨fun j => ?_, ?_, ?_, ?_, ?_, ?_, ?_, ?_, ?_, ?_, ?_, ?_, ?_, ?_, ?_, fun j hj => ?_, ?_, ?_, ?_, ?_, ?_, ?_, ?_, ?_, ?_, ?_, ?_⟩
    case refine_16 =>
      have h1 : ¬ (64 ≤ j) := by omega
      have h2 : j < 128 := by omega
      simp [bldE, mWaitS, mBeg0, mEmp, bldD, bldC, bldB, bldA, up2, upC, upd, va_cpy, fillF, hj, h2]
    all_goals first
      | (simp [bldE, mWaitS, mBeg0, mEmp, bldD, bldC, bldB, bldA, up2, upC, upd, z]; done)
      | (simp [bldE, mWaitS, mBeg0, mEmp, bldD, bldC, bldB, bldA, up2, upC, upd, z]; rfl)
/-! BOTH, made -/
def sgZ : rSg := fun _ _ => 0
theorem clSk_len : clSk.length = 725 := by
  unfold clSk clR
  simp [seSk_len, unSk_len, rdSk_len, teSk_len]
theorem made : ∃ (N uc uz uc2 uz2 : Nat) (s1 s2 : rSg), rRun rG N 18 70 [.inr (.inr (some 0))] [.inr (.inr (8, skF (fun _ => 0) 0 [some none, some none, some none, some none, some none, some none, some none, some none, some none, some none, some none, some none, some none, none]))] = some (none, skM s1 0 clSk, uc, uz) ∧
    rRun rG N 18 113 [.inr (.inr (some 725))] (skM s1 0 clSk ++ [.inr (.inr (9, skF (fun _ => 0) 0 [some none, some none, some none, some none, some none, some none, some none, some none, some none, some none, none, none, none, some none, some none, some none, none, none, none, none, none, none, some none, some none, some none, some none, some none, some none, some none, some none, some none, some none, some none, some none, some none, some none, some none, some none, some none, none, none, none, none, none, none, none, none, none, none, some none, some none, none, none, some none, none, none, none, some none, none, none]))]) = some (none, skM s2 0 rSkel, uc2, uz2) ∧ 1 + uc + 1 + uc2 ≤ 600000 ∧ 14 + uz + 60 + uz2 ≤ 7302250 ∧ clF s2 ∧ mdF s2 := by
  obtain ⟨v, Sk1, s1, c1, z1, h1, rfl, rfl, rfl, rfl, f1⟩ := k_70 sgZ
  have hl : clSk.length = 725 := clSk_len
  have h2 : EvK 5 113 [.inr (.inr (some 725))] (clSk ++ [.inr (.inr (9, [some none, some none, some none, some none, some none, some none, some none, some none, some none, some none, none, none, none, some none, some none, some none, none, none, none, none, none, none, some none, some none, some none, some none, some none, some none, some none, some none, some none, some none, some none, some none, some none, some none, some none, some none, some none, none, none, none, none, none, none, none, none, none, none, some none, some none, none, none, some none, none, none, none, some none, none, none]))]) (upC s1 725 (fun _ => 0)) (fun v Sk2 s2 c z => v = none ∧ Sk2 = rSkel ∧ c = 34 ∧ z = 106983 ∧ (∀ q, q < 725 → s2 q = s1 q) ∧ mdF s2) := by
    refine k_113a hl (s0 := s1) ⟨fun q hq => upC_ne _ _ (by omega), fun q a b => by obtain rfl : q = 725 := by omega
                                                                                    exact upC_same _ _ _⟩ (fun s hz => ?_)
    rw [rSkel_eq]
    refine gk0 289 [(0, .inr (.inr (some 725)))] [.inr (.inr (some 725))] dM_113_288 (fun _ => rfl) (Or.inr rfl) ?_
    refine gkGetR (some 753) dM_113_289 sk_725 rfl rfl ?_
    refine gk0 293 [(0, .inr (.inr (some 725)))] [.inl 0, .inr (.inr (some 753))] dM_113_292 (fun _ => rfl) (Or.inr rfl) ?_
    refine gk0 295 [(0, .inr (.inr (some 725)))] [.inl 42, .inl 0, .inr (.inr (some 753))] dM_113_293 (fun _ => rfl) (Or.inr rfl) ?_
    refine gkIastN 0 dM_113_295 sk_753 (by decide) rfl ?_
    refine gk0 297 [(0, .inr (.inr (some 725)))] [.inr (.inr (some 725))] dM_113_296 (fun _ => rfl) (Or.inr rfl) ?_
    refine gk0 298 [(0, .inr (.inr (some 725)))] [.inl 1, .inr (.inr (some 725))] dM_113_297 (fun _ => rfl) (Or.inr rfl) ?_
    refine gkPut dM_113_298 sk_725 rfl rfl rfl (fun q => by cases q) ?_
    refine gk0 302 [(0, .inr (.inr (some 725)))] [.inr (.inr (some 725))] dM_113_301 (fun _ => rfl) (Or.inr rfl) ?_
    refine gkCallV dM_113_302 rfl rfl rfl (by decide) sk_725 rfl (Nat.le_of_ble_eq_true rfl) (m_builds0 _ (up2_same _ _ _ _) (by rw [up2_nk _ _ _ (by decide), up2_same])).k ?_
    rintro _ _ s2 _ _ ⟨rfl, rfl, rfl, rfl, rfl⟩
    obtain ⟨b1, b2⟩ := bldE_F hz
    exact gkRet (r := none) dM_113_305 (fun _ => rfl) (Or.inr rfl) ⟨rfl, rfl, rfl, rfl, b1, b2⟩
  obtain ⟨v, Sk2, s2, c2, z2, h2, rfl, rfl, rfl, rfl, g1, g2⟩ := h2
  have e0 : skM sgZ 0 [(.inr (.inr (8, [some none, some none, some none, some none, some none, some none, some none, some none, some none, some none, some none, some none, some none, none])) : rSk)] = [.inr (.inr (8, skF (fun _ => 0) 0 [some none, some none, some none, some none, some none, some none, some none, some none, some none, some none, some none, some none, some none, none]))] := rfl
  rw [e0] at h1
  have e1 := skM_push s1 clSk (.inr (.inr (9, [some none, some none, some none, some none, some none, some none, some none, some none, some none, some none, none, none, none, some none, some none, some none, none, none, none, none, none, none, some none, some none, some none, some none, some none, some none, some none, some none, some none, some none, some none, some none, some none, some none, some none, some none, some none, none, none, none, none, none, none, none, none, none, none, some none, some none, none, none, some none, none, none, none, some none, none, none]))) (fun _ => 0)
  rw [hl] at e1
  rw [← e1] at h2
  obtain ⟨N, r1, r2⟩ := Ev.two (h1.up (show 5 ≤ 18 by decide)) (h2.up (show 5 ≤ 18 by decide))
  refine ⟨N, _, _, _, _, s1, s2, r1, r2, by decide, by decide, ?_, g2⟩
  obtain ⟨a1, a2, a3, a4, a5, a6, a7, a8, a9⟩ := f1
  exact ⟨seF_ext (fun q _ h => g1 q (by omega)) a1, seF_ext (fun q _ h => g1 q (by omega)) a2, seF_ext (fun q _ h => g1 q (by omega)) a3, by rw [g1 1 (by omega)]; exact a4, fun j => by rw [g1 5 (by omega)]; exact a5 j, by rw [g1 687 (by omega)]; exact a6, by rw [g1 689 (by omega)]; exact a7, fun j => by rw [g1 691 (by omega)]; exact a8 j, by rw [g1 0 (by omega)]; exact a9⟩
