/-! A STEP OF THE REFERENCE's search, one state in the queue -/
/-- what a search in mind leaves as it is -/
def kpt (q j : Nat) : Prop := q < 725 ∨ (q = 725 ∧ (j = 39 ∨ j = 40 ∨ j = 48 ∨ j = 58 ∨ j = 47 ∨ j = 54 ∨ j = 55 ∨ j = 56)) ∨ q = 726 ∨ q = 753 ∨ (746 ≤ q ∧ q ≤ 751 ∧ j = 0) ∨ (740 ≤ q ∧ q ≤ 742 ∧ j = 0) ∨ (q = 739 ∧ j < 64) ∨ ((q = 733 ∨ q = 735) ∧ j = 1) ∨ (q = 729 ∧ j = 0)
def mKp (s s2 : rSg) : Prop := ∀ q j, kpt q j → s2 q j = s q j
theorem mKp.rfl' {s : rSg} : mKp s s := fun _ _ _ => rfl
theorem mKp.trans {a b c : rSg} (h1 : mKp a b) (h2 : mKp b c) : mKp a c := fun q j h => (h2 q j h).trans (h1 q j h)
theorem mKp.up {s t : rSg} {k i : Nat} {x : Int32} (h : mKp s t) (hk : ¬ kpt k i) : mKp s (up2 t k i x) := by
  intro q j hq
  by_cases e : q = k
  · subst e
    by_cases e2 : j = i
    · subst e2; exact absurd hq hk
    · rw [up2_nj _ _ _ e2]; exact h q j hq
  · rw [up2_nk _ _ _ e]; exact h q j hq
theorem mKp.upC {s t : rSg} {k : Nat} {f : Nat → Int32} (h : mKp s t) (hk : ∀ j, kpt k j → f j = t k j) : mKp s (upC t k f) := by
  intro q j hq
  by_cases e : q = k
  · subst e
    rw [upC_same, hk j hq]; exact h q j hq
  · rw [upC_ne _ _ e]; exact h q j hq
theorem mKp.emp {s t : rSg} (h : mKp s t) : mKp s (mEmp t) := (h.upC (k := 736) (fun j hj => absurd hj (by unfold kpt; omega))).up (by unfold kpt; omega)
theorem mKp.wait {s t : rSg} (h : mKp s t) {f w sl : Nat} (hs : 0 < sl) : mKp s (mWaitS t 1 f w sl) := by
  unfold mWaitS
  refine ((((h.upC (k := 739) (fun j hj => ?_)).up (by unfold kpt; omega)).up (by unfold kpt; omega)).up (by unfold kpt; omega)).up (by unfold kpt; omega)
  have : j < 64 := by unfold kpt at hj; omega
  unfold va_cpy
  rw [if_neg (by omega)]
/-- the first state is loaded -/
def mLd (s U : rSg) (z h st : Nat) : Prop := (∀ q, q ≠ 725 → q ≠ 736 → q ≠ 746 → q ≠ 747 → q ≠ 749 → U q = s q) ∧ (∀ j, j ≠ 16 → j ≠ 18 → j ≠ 19 → j ≠ 20 → U 725 j = s 725 j) ∧ U 746 z = nI ((h + 1) % 42) ∧ U 747 z = nI 0 ∧ U 749 z = nI (st + 1) ∧ U 725 18 = s 740 (42 * z + h) ∧ U 725 19 = s 741 (42 * z + h) ∧ U 725 20 = s 742 (42 * z + h) ∧ U 725 16 = 0 ∧ (∀ j, j < 64 → U 736 j = s 739 (64 * (42 * z + h) + j)) ∧ (∀ j, 64 ≤ j → j < 128 → U 736 j = -9) ∧ (z = 1 → mKp s U)
theorem ms_pre {s : rSg} {z h st : Nat} (h21 : s 725 21 = nI z) (hz : z < 2) (h46 : s 746 z = nI h) (hh : h < 42) (h47 : s 747 z = nI 1) (h49 : s 749 z = nI st) (hst : st < 1000) {P : Option rv → rSg → Prop}
    (k : ∀ U, mLd s U z h st → (¬ U 725 18 = 0 → rIn (U 725 18) 20000 = true ∧ EvS rSkel 12 143 [.inr (.inr (some 725)), .inl (nI (42 * z + h)), .inl (U 733 (U 725 18).toNatClampNeg)] (up2 U 725 18 (U 735 (U 725 18).toNatClampNeg)) (fun v t => v = none ∧ t 725 21 = nI z ∧ P none t ∧ P none (up2 t 751 z (t 747 z)))) ∧
      (U 725 18 = 0 → EvS rSkel 2 141 [.inr (.inr (some 725))] U (fun v t => v = none ∧ t 725 21 = nI z ∧ P none t ∧ P none (up2 t 751 z (t 747 z))))) : EvS rSkel 13 139 [.inr (.inr (some 725))] s P := by
  have fin : ∀ t : rSg, t 725 21 = nI z → P none t → P none (up2 t 751 z (t 747 z)) → (rIn (t 725 21) 2 = true ∧ rIn (t 725 21) 2 = true ∧ ((t 747 (t 725 21).toNatClampNeg) ≤ (t 751 (t 725 21).toNatClampNeg) → P none t) ∧ (¬ ((t 747 (t 725 21).toNatClampNeg) ≤ (t 751 (t 725 21).toNatClampNeg)) → (rIn (t 725 21) 2 = true ∧ rIn (t 725 21) 2 = true ∧ P none (up2 t 751 (t 725 21).toNatClampNeg (t 747 (t 725 21).toNatClampNeg))))) := by
    intro t e1 p1 p2
    have hr : rIn (t 725 21) 2 = true := by rw [e1]; exact rIn_nI hz (by decide)
    have hc : (t 725 21).toNatClampNeg = z := by rw [e1]; exact nI_clamp (by omega)
    rw [hc]
    exact ⟨hr, hr, fun _ => p1, fun _ => ⟨hr, hr, p2⟩⟩
  refine w_139 s ?_
  have hr : rIn (s 725 21) 2 = true := by rw [h21]; exact rIn_nI hz (by decide)
  have hc : (s 725 21).toNatClampNeg = z := by rw [h21]; exact nI_clamp (by omega)
  rw [hc]
  refine ⟨hr, hr, ?_⟩
  generalize eA : up2 s 749 z (s 749 z + 1) = A
  have a0 : ∀ q, q ≠ 749 → A q = s q := fun q h => by rw [← eA, up2_nk _ _ _ h]
  have a49 : A 749 z = nI (st + 1) := by rw [← eA, up2_same, h49, nI_1]
  refine (ev_m_slot 0 A (z := z) (h := h) (by rw [a0 725 (by decide)]; exact h21) hz (by rw [a0 746 (by decide)]; exact h46) (j := 0) (by omega)).imp ?_
  rintro _ A ⟨rfl, rfl⟩
  refine ⟨_, rfl, ?_⟩
  have ac : (A 725 21).toNatClampNeg = z := by rw [a0 725 (by decide)]; exact hc
  have ar : rIn (A 725 21) 2 = true := by rw [a0 725 (by decide)]; exact hr
  have e46 : irem (A 746 z + 1) 42 = nI ((h + 1) % 42) := by
    rw [a0 746 (by decide), h46, nI_1]
    exact pk_rem (by omega) (by decide) (by decide)
  have e47 : A 747 z - 1 = nI 0 := by rw [a0 747 (by decide), h47]; rfl
  rw [ac, e46, e47, show (h + 0) % 42 = h by omega]
  refine ⟨ar, ar, ar, ar, ?_⟩
  generalize eB : up2 (up2 A 746 z (nI ((h + 1) % 42))) 747 z (nI 0) = B
  have b0 : ∀ q, q ≠ 746 → q ≠ 747 → B q = A q := fun q g1 g2 => by rw [← eB, up2_nk _ _ _ g2, up2_nk _ _ _ g1]
  refine ((ev_m_loads 0 B (s := 42 * z + h) (by omega))).imp ?_
  rintro _ _ ⟨rfl, rfl⟩
  generalize eU : mLoads B (42 * z + h) = U
  have u0 : ∀ q, q ≠ 725 → q ≠ 736 → U q = B q := fun q g1 g2 => by
    rw [← eU]
    simp only [mLoads, mLoad0, mEmp]
    rw [up2_nk _ _ _ g1, up2_nk _ _ _ g1, up2_nk _ _ _ g1, upC_ne _ _ g2, up2_nk _ _ _ g1, upC_ne _ _ g2]
  have ld : mLd s U z h st := by
    refine ⟨fun q g1 g2 g3 g4 g5 => ?_, fun j g1 g2 g3 g4 => ?_, ?_, ?_, ?_, ?_, ?_, ?_, ?_, fun j hj => ?_, fun j h1 h2 => ?_, fun hz1 => ?_⟩
    · rw [u0 q g1 g2, b0 q g3 g4, a0 q g5]
    · rw [← eU]
      simp only [mLoads, mLoad0, mEmp]
      rw [up2_nj _ _ _ g4, up2_nj _ _ _ g3, up2_nj _ _ _ g2, upC_ne _ _ (by decide), up2_nj _ _ _ g1, upC_ne _ _ (by decide), b0 725 (by decide) (by decide), a0 725 (by decide)]
    · rw [u0 746 (by decide) (by decide), ← eB, up2_nk _ _ _ (by decide), up2_same]
    · rw [u0 747 (by decide) (by decide), ← eB, up2_same]
    · rw [u0 749 (by decide) (by decide), b0 749 (by decide) (by decide), a49]
    · rw [← eU]
      simp only [mLoads]
      rw [up2_nj _ _ _ (by decide), up2_nj _ _ _ (by decide), up2_same, b0 740 (by decide) (by decide), a0 740 (by decide)]
    · rw [← eU]
      simp only [mLoads]
      rw [up2_nj _ _ _ (by decide), up2_same, b0 741 (by decide) (by decide), a0 741 (by decide)]
    · rw [← eU]
      simp only [mLoads]
      rw [up2_same, b0 742 (by decide) (by decide), a0 742 (by decide)]
    · rw [← eU]
      simp only [mLoads, mLoad0, mEmp]
      rw [up2_nj _ _ _ (by decide), up2_nj _ _ _ (by decide), up2_nj _ _ _ (by decide), upC_ne _ _ (by decide), up2_same]
    · rw [← eU]
      simp only [mLoads, mLoad0, mEmp]
      rw [up2_nk _ _ _ (by decide), up2_nk _ _ _ (by decide), up2_nk _ _ _ (by decide), upC_same]
      unfold va_cpy
      rw [if_pos (by omega), up2_nk _ _ _ (by decide), upC_ne _ _ (by decide), b0 739 (by decide) (by decide), a0 739 (by decide)]
      congr 1
    · rw [← eU]
      simp only [mLoads, mLoad0, mEmp]
      rw [up2_nk _ _ _ (by decide), up2_nk _ _ _ (by decide), up2_nk _ _ _ (by decide), upC_same]
      unfold va_cpy
      rw [if_neg (by omega), up2_nk _ _ _ (by decide), upC_same]
      unfold fillF
      rw [if_pos (by omega)]
    · subst hz1
      rw [← eU, ← eB, ← eA]
      unfold mLoads mLoad0
      refine (((mKp.upC (k := 736) (mKp.emp (((mKp.rfl'.up (by unfold kpt; omega)).up (by unfold kpt; omega)).up (by unfold kpt; omega))) (fun j hj => absurd hj (by unfold kpt; omega))).up (by unfold kpt; omega)).up (by unfold kpt; omega)).up (by unfold kpt; omega)
  have hk := k U ld
  refine ⟨rfl, fun hne => ⟨(hk.1 hne).1, (hk.1 hne).1, (hk.1 hne).2.imp ?_⟩, fun h0 => (hk.2 (Classical.not_not.mp h0)).imp ?_⟩
  · rintro _ t ⟨rfl, e1, p1, p2⟩
    exact ⟨rfl, fin t e1 p1 p2⟩
  · rintro _ t ⟨rfl, e1, p1, p2⟩
    exact ⟨rfl, fin t e1 p1 p2⟩
/-- a queue of one state -/
def mQ (s : rSg) (z h st l : Nat) : Prop := s 725 21 = nI z ∧ s 746 z = nI h ∧ h < 42 ∧ s 747 z = nI 1 ∧ s 748 z = nI 0 ∧ s 749 z = nI st ∧ s 740 (42 * z + h) = nI l ∧ s 741 (42 * z + h) = 0 ∧ s 742 (42 * z + h) = nI 6
/-- the state goes behind the queue, which is empty -/
theorem ms_enq {U : rSg} {z h st l : Nat} (hz : z < 2) (u21 : U 725 21 = nI z) (u46 : U 746 z = nI h) (hh : h < 42) (u47 : U 747 z = nI 0) (u48 : U 748 z = nI 0) (u49 : U 749 z = nI st) (u18 : U 725 18 = nI l) (u19 : U 725 19 = 0) (u20 : U 725 20 = nI 6) {P : Option rv → rSg → Prop}
    (k : ∀ s2, (∀ q, q < 739 ∨ (742 < q ∧ q ≠ 747) → s2 q = U q) → (z = 1 → mKp U s2) → (∀ j, j < 64 → s2 739 (64 * (42 * z + h) + j) = U 736 j) → mQ s2 z h st l → P none s2) : EvS rSkel 2 124 [.inr (.inr (some 725))] U P := by
  refine (ev_m_waits_in 0 U (z := z) (h := h) u21 hz u46 (f := 6) (w := 0) u20 (by decide) u47 (by decide) hh (by decide) (by decide)).imp ?_
  rintro _ _ ⟨rfl, rfl⟩
  have e : 42 * z + (h + 0) % 42 = 42 * z + h := by rw [show (h + 0) % 42 = h by omega]
  rw [e]
  have k0 : ∀ q, q < 739 ∨ (742 < q ∧ q ≠ 747) → mWaitS U z 6 0 (42 * z + h) q = U q := fun q hq => by
    unfold mWaitS
    rw [up2_nk _ _ _ (by omega), up2_nk _ _ _ (by omega), up2_nk _ _ _ (by omega), up2_nk _ _ _ (by omega), upC_ne _ _ (by omega)]
  refine k _ k0 (fun hz1 => ?_) (fun j hj => ?_) ⟨by rw [k0 725 (by omega)]; exact u21, by rw [k0 746 (by omega)]; exact u46, hh, ?_, by rw [k0 748 (by omega)]; exact u48, by rw [k0 749 (by omega)]; exact u49, ?_, ?_, ?_⟩
  · subst hz1
    exact mKp.wait mKp.rfl' (by omega)
  · unfold mWaitS
    rw [up2_nk _ _ _ (by decide), up2_nk _ _ _ (by decide), up2_nk _ _ _ (by decide), up2_nk _ _ _ (by decide), upC_same]
    unfold va_cpy
    rw [if_pos (by omega)]
    congr 1
    omega
  · unfold mWaitS
    rw [up2_same]
  · unfold mWaitS
    rw [up2_nk _ _ _ (by decide), up2_nk _ _ _ (by decide), up2_nk _ _ _ (by decide), up2_same, u18]
  · unfold mWaitS
    rw [up2_nk _ _ _ (by decide), up2_nk _ _ _ (by decide), up2_same, u19]
  · unfold mWaitS
    rw [up2_nk _ _ _ (by decide), up2_same]
theorem mQ_up {s : rSg} {z h st l : Nat} {x : Int32} (hq : mQ s z h st l) : mQ (up2 s 751 z x) z h st l := by
  obtain ⟨a1, a2, a3, a4, a5, a6, a7, a8, a9⟩ := hq
  exact ⟨by rw [up2_nk _ _ _ (by decide)]; exact a1, by rw [up2_nk _ _ _ (by decide)]; exact a2, a3, by rw [up2_nk _ _ _ (by decide)]; exact a4, by rw [up2_nk _ _ _ (by decide)]; exact a5, by rw [up2_nk _ _ _ (by decide)]; exact a6, by rw [up2_nk _ _ _ (by decide)]; exact a7, by rw [up2_nk _ _ _ (by decide)]; exact a8, by rw [up2_nk _ _ _ (by decide)]; exact a9⟩
/-- what a step leaves -/
def mAft (s s2 : rSg) (z h : Nat) : Prop := (∀ q, q < 733 ∧ q ≠ 725 → s2 q = s q) ∧ (∀ j, j ≠ 12 → j ≠ 16 → j ≠ 17 → j ≠ 18 → j ≠ 19 → j ≠ 20 → s2 725 j = s 725 j) ∧ (z = 1 → mKp s s2)
theorem ms_star {s : rSg} {z h st l g l2 : Nat} (hz : z < 2) (hq : mQ s z h st l) (hst : st < 1000) (hl0 : 0 < l) (hl : l < 20000) (hg : s 733 l = nI g) (hg9 : g < 3000) (hr : s 735 l = nI l2) (hk : s 729 g = 42) {P : Option rv → rSg → Prop}
    (k : ∀ s2, mAft s s2 z h → (∀ q, 733 ≤ q → q ≤ 735 → s2 q = s q) → s2 725 12 = s 725 12 → (∀ j, j < 64 → s2 739 (64 * (42 * z + (h + 1) % 42) + j) = s 739 (64 * (42 * z + h) + j)) → mQ s2 z ((h + 1) % 42) (st + 1) l2 → P none s2) : EvS rSkel 13 139 [.inr (.inr (some 725))] s P := by
  obtain ⟨q21, q46, hh, q47, q48, q49, q40, q41, q42⟩ := hq
  refine ms_pre q21 hz q46 hh q47 q49 hst (fun U ld => ?_)
  obtain ⟨u0, u1, u46, u47, u49, u18, u19, u20, u16, ub, ub2, ukp⟩ := ld
  have e18 : U 725 18 = nI l := by rw [u18, q40]
  refine ⟨fun _ => ?_, fun q => absurd ((nI_eq (a := l) (b := 0) (by omega) (by decide)).mp (by rw [← e18]; exact q)) (by omega)⟩
  rw [e18, nI_clamp (by omega), u0 733 (by decide) (by decide) (by decide) (by decide) (by decide), hg, u0 735 (by decide) (by decide) (by decide) (by decide) (by decide), hr]
  refine ⟨rIn_nI hl (by decide), ?_⟩
  generalize eV : up2 U 725 18 (nI l2) = V
  have v0 : ∀ q, q ≠ 725 → V q = U q := fun q h => by rw [← eV, up2_nk _ _ _ h]
  have v1 : ∀ j, j ≠ 18 → V 725 j = U 725 j := fun j h => by rw [← eV, up2_nj _ _ _ h]
  have v18 : V 725 18 = nI l2 := by rw [← eV, up2_same]
  have ek : V 729 (nI g).toNatClampNeg = 42 := by rw [nI_clamp (by omega), v0 729 (by decide), u0 729 (by decide) (by decide) (by decide) (by decide) (by decide)]; exact hk
  refine w_143 V _ (nI g) ⟨rIn_nI hg9 (by decide), ?_⟩
  rw [ek]
  refine ⟨fun q => absurd q (by decide), fun q => absurd q (by decide), fun _ => ?_, fun q => absurd q (by decide), fun q => absurd q (by decide), fun q => absurd q (by decide), fun q => absurd q (by decide), fun q => absurd rfl q.2.2.1⟩
  refine ms_enq hz (by rw [v1 21 (by decide), u1 21 (by decide) (by decide) (by decide) (by decide)]; exact q21) (by rw [v0 746 (by decide)]; exact u46) (Nat.mod_lt _ (by decide)) (by rw [v0 747 (by decide)]; exact u47) (by rw [v0 748 (by decide), u0 748 (by decide) (by decide) (by decide) (by decide) (by decide)]; exact q48) (by rw [v0 749 (by decide)]; exact u49) v18 (by rw [v1 19 (by decide), u19, q41]) (by rw [v1 20 (by decide), u20, q42]) (fun s2 g1 g2 g3 g4 => ?_)
  have both : ∀ s3 : rSg, (∀ q, q ≠ 751 → s3 q = s2 q) → (z = 1 → mKp s2 s3) → mQ s3 z ((h + 1) % 42) (st + 1) l2 → P none s3 := by
    intro s3 t1 t2 t3
    refine k s3 ⟨fun q hq => ?_, fun j h1 h2 h3 h4 h5 h6 => ?_, fun hz1 => ?_⟩ (fun q h1 h2 => ?_) ?_ (fun j hj => ?_) t3
    · rw [t1 q (by omega), g1 q (by omega), v0 q hq.2, u0 q hq.2 (by omega) (by omega) (by omega) (by omega)]
    · rw [t1 725 (by decide), g1 725 (by omega), v1 j h4, u1 j h2 h4 h5 h6]
    · refine (((ukp hz1).trans ?_).trans (g2 hz1)).trans (t2 hz1)
      rw [← eV]
      exact mKp.rfl'.up (by unfold kpt; omega)
    · rw [t1 q (by omega), g1 q (by omega), v0 q (by omega), u0 q (by omega) (by omega) (by omega) (by omega) (by omega)]
    · rw [t1 725 (by decide), g1 725 (by omega), v1 12 (by decide), u1 12 (by decide) (by decide) (by decide) (by decide)]
    · rw [t1 739 (by decide), g3 j hj, v0 736 (by decide), ub j hj]
  refine ⟨rfl, rfl, by rw [g1 725 (by omega), v1 21 (by decide), u1 21 (by decide) (by decide) (by decide) (by decide)]; exact q21, both s2 (fun _ _ => rfl) (fun _ => mKp.rfl') g4, both _ (fun q hq => up2_nk _ _ _ hq) (fun hz1 => ?_) (mQ_up g4)⟩
  subst hz1
  exact mKp.rfl'.up (by unfold kpt; omega)
