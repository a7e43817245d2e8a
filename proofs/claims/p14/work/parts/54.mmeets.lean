/-! THE REFERENCE: binds, meets -/
theorem m_within {sg : rSg} {T : Nat} (hw : mWF sg T) {rk : Nat → Nat} (hok : vOK (mV sg) (mD T) rk) {p v c : Nat} (hv : v < 128) (ho : mV sg (vcd v) = none) (hc : c < 2 * T) (hp : sg 725 17 = nI p) (hroom : p + 2 * (T - 75) + 2 ≤ 8000) : EvS rSkel 3 151 [.inr (.inr (some 725)), .inl (nI v), .inl (nI c)] sg (fun r s2 => ((r = some (.inl 1) ∧ reach (mV sg) c (vcd v)) ∨ (r = some (.inl 0) ∧ ¬ reach (mV sg) c (vcd v))) ∧ (∀ k, k ≠ 738 → s2 k = sg k) ∧ (∀ j, j < p → s2 738 j = sg 738 j)) := by
  obtain ⟨hh, hht, hhb⟩ := mHt hw hok
  refine w_151 sg (nI v) (nI c) ((m_piles sg (nI c) hp (by omega)).imp ?_)
  rintro _ s1 ⟨rfl, f1, p1, q1, r1⟩
  rw [hp]
  refine ⟨rfl, m_within_loop hw hok hht (R := 2 * (T - 75)) (term := c) hv ho hroom hp ?_ ?_ (wts hh [c] + 1) s1 [c] (by omega) ⟨by have := hhb c; simpa using this, trivial⟩ ⟨q1, trivial⟩ f1 (fun j hj => r1 j (by omega)) p1 (fun e he => ?_) (fun q => ⟨c, by simp, q⟩)⟩
  · exact fun h s2 h1 h2 => ⟨Or.inl ⟨rfl, h⟩, h1, h2⟩
  · exact fun h s2 h1 h2 => ⟨Or.inr ⟨rfl, h⟩, h1, h2⟩
  · simp at he
    subst he
    exact ⟨hc, reach.rfl'⟩
/-- one variable is bound -/
def mbf (sg s2 : rSg) (i c p tr : Nat) : Prop := (∀ k, k ≠ 736 → k ≠ 737 → k ≠ 738 → k ≠ 725 → s2 k = sg k) ∧ (∀ j, j ≠ 16 → s2 725 j = sg 725 j) ∧ s2 736 = upd (sg 736) i (nI c) ∧ s2 737 = upd (sg 737) tr (nI i) ∧ s2 725 16 = nI (tr + 1) ∧ (∀ j, j < p → s2 738 j = sg 738 j)
theorem m_binds {sg : rSg} {T : Nat} (hw : mWF sg T) {rk : Nat → Nat} (hok : vOK (mV sg) (mD T) rk) {p tr i c : Nat} (hi : i < 128) (ho : mV sg (vcd i) = none) (hc : c < 2 * T) (hp : sg 725 17 = nI p) (hroom : p + 2 * (T - 75) + 2 ≤ 8000) (ht : sg 725 16 = nI tr) (ht9 : tr < 4000) : EvS rSkel 4 150 [.inr (.inr (some 725)), .inl (nI i), .inl (nI c)] sg (fun r s2 => (r = some (.inl 1) ∧ ¬ reach (mV sg) c (vcd i) ∧ mbf sg s2 i c p tr) ∨ (r = some (.inl 0) ∧ reach (mV sg) c (vcd i) ∧ (∀ k, k ≠ 738 → s2 k = sg k) ∧ (∀ j, j < p → s2 738 j = sg 738 j))) := by
  refine w_150 sg (nI i) (nI c) ((m_within hw hok hi ho hc hp hroom).imp ?_)
  rintro _ s1 ⟨h, f1, f2⟩
  rcases h with ⟨rfl, h⟩ | ⟨rfl, h⟩
  · exact ⟨_, rfl, fun q => absurd q (by decide), fun _ => Or.inr ⟨rfl, h, f1, f2⟩⟩
  · refine ⟨_, rfl, fun _ => ?_, fun q => absurd rfl q⟩
    rw [f1 725 (by decide), ht, nI_clamp (by omega), nI_clamp (by omega), nI_1]
    refine ⟨rIn_nI hi (by decide), rIn_nI ht9 (by decide), Or.inl ⟨rfl, h, ⟨fun k h1 h2 h3 h4 => ?_, fun j hj => ?_, ?_, ?_, up2_same _ _ _ _, fun j hj => ?_⟩⟩⟩
    · rw [up2_nk _ _ _ h4, up2_nk _ _ _ h2, up2_nk _ _ _ h1, f1 k h3]
    · rw [up2_nj _ _ _ hj, up2_nk _ _ _ (by decide), up2_nk _ _ _ (by decide), f1 725 (by decide)]
    · rw [up2_nk _ _ _ (by decide), up2_nk _ _ _ (by decide), up2_eq, upC_same, f1 736 (by decide)]
    · rw [up2_nk _ _ _ (by decide), up2_eq, upC_same, up2_nk _ _ _ (by decide), f1 737 (by decide)]
    · rw [up2_nk _ _ _ (by decide), up2_nk _ _ _ (by decide), up2_nk _ _ _ (by decide), f2 j hj]
/-- what comes of two that are walked and not the same -/
def mMeet (sg s2 : rSg) (T x y p tr : Nat) (r : Option rv) : Prop :=
  (∃ i c, ((i = x ∧ c = y) ∨ (i = y ∧ c = x)) ∧ r = some (.inl 1) ∧ i / 2 < 64 ∧ mV sg i = none ∧ ¬ reach (mV sg) c i ∧ mbf sg s2 (opn i) c p tr)
  ∨ (r = some (.inl 0) ∧ (∀ th, vSol (mV sg) (mD T) th → th x ≠ th y) ∧ (∀ k, k ≠ 738 → s2 k = sg k) ∧ (∀ j, j < p → s2 738 j = sg 738 j))
  ∨ (∃ a b c d, r = some (.inl 1) ∧ mV sg x = some (.inr (.inr (a, b))) ∧ mV sg y = some (.inr (.inr (c, d))) ∧ a < 2 * T ∧ b < 2 * T ∧ c < 2 * T ∧ d < 2 * T ∧ mf sg s2 ∧ s2 725 17 = nI (p + 4) ∧ s2 738 p = nI a ∧ s2 738 (p + 1) = nI c ∧ s2 738 (p + 2) = nI b ∧ s2 738 (p + 3) = nI d ∧ (∀ j, j < p → s2 738 j = sg 738 j))
  ∨ (r = some (.inl 1) ∧ (∀ th, vSol (mV sg) (mD T) th → th x = th y) ∧ s2 = sg)
theorem m_meets {sg : rSg} {T : Nat} (hw : mWF sg T) {rk : Nat → Nat} (hok : vOK (mV sg) (mD T) rk) {p tr x y : Nat} (hx : x < 2 * T) (hy : y < 2 * T) (rx : vRes (mV sg) x) (ry : vRes (mV sg) y) (hne : x ≠ y) (hp : sg 725 17 = nI p) (hroom : p + 2 * (T - 75) + 4 ≤ 8000) (ht : sg 725 16 = nI tr) (ht9 : tr < 4000) : EvS rSkel 5 149 [.inr (.inr (some 725)), .inl (nI x), .inl (nI y)] sg (fun r s2 => mMeet sg s2 T x y p tr r) := by
  have hT := hw.2.1
  -- one of them is open
  have one : ∀ i c, ((i = x ∧ c = y) ∨ (i = y ∧ c = x)) → i < 2 * T → c < 2 * T → i ≠ c → vRes (mV sg) i → vRes (mV sg) c → i / 2 < 64 → EvS rSkel 1 148 [.inl (nI i)] sg (fun v35 t36 => ∃ n38, v35 = some (.inl n38) ∧ EvS rSkel 4 150 [.inr (.inr (some 725)), .inl n38, .inl (nI c)] t36 (fun v39 t40 => ∃ n42, v39 = some (.inl n42) ∧ (rBool n42 = true ∧ mMeet sg t40 T x y p tr (some (.inl n42))))) := by
    intro i c hic hi hc hne ri rc h64
    have ho : mV sg i = none := by
      rcases mV_var hw h64 with ⟨_, q⟩ | ⟨e, _, _, q⟩
      · exact q
      · exact absurd q (ri e)
    have hvi := vcd_opn h64
    refine (m_openOf sg (by omega)).imp ?_
    rintro _ s9 ⟨rfl, e9⟩
    rw [e9]
    refine ⟨_, rfl, (m_binds hw hok (opn_lt h64) (by rw [hvi]; exact ho) hc hp (by omega) ht ht9).imp ?_⟩
    rw [hvi]
    rintro _ s2 (⟨rfl, h1, h2⟩ | ⟨rfl, h1, h2, h3⟩)
    · exact ⟨_, rfl, bN1, Or.inl ⟨i, c, hic, rfl, h64, ho, h1, h2⟩⟩
    · refine ⟨_, rfl, bN0, Or.inr (Or.inl ⟨rfl, fun th hs => ?_, h2, h3⟩)⟩
      have hlt : th i ≠ th c := by
        rcases h1.inv with e | ⟨e, he, _⟩ | ⟨a, b, hp2, _⟩
        · exact absurd e.symm hne
        · exact absurd he (rc e)
        · have := vSol_lt hok hs hc hp2 h1 (Ne.symm hne); omega
      rcases hic with ⟨rfl, rfl⟩ | ⟨rfl, rfl⟩
      · exact hlt
      · exact Ne.symm hlt
  -- atoms
  have atoms : ¬ (x / 2 < 64) → ¬ (y / 2 < 64) → (x / 2 < 75 ∨ y / 2 < 75) → ((¬ nI (x / 2) = nI (y / 2) → mMeet sg sg T x y p tr (some (.inl 0))) ∧ (¬ (¬ nI (x / 2) = nI (y / 2)) → mMeet sg sg T x y p tr (some (.inl 1)))) := by
    intro h1 h2 h3
    have val : ∀ c, c < 2 * T → ¬ c / 2 < 64 → ∀ th, vSol (mV sg) (mD T) th → (c / 2 < 75 ∧ th c = c / 2 - 64) ∨ (75 ≤ c / 2 ∧ 11 < th c) := by
      intro c hc hn th hs
      by_cases q : c / 2 < 75
      · exact Or.inl ⟨q, (hs c hc).2.1 _ (mV_atom (by omega) q)⟩
      · obtain ⟨a, b, _, _, _, _, hv⟩ := mV_pair hw (show 75 ≤ c / 2 by omega) hc
        refine Or.inr ⟨by omega, ?_⟩
        rw [(hs c hc).2.2 _ _ hv]
        exact nd_big _ _
    refine ⟨fun hq => Or.inr (Or.inl ⟨rfl, fun th hs => ?_, fun _ _ => rfl, fun _ _ => rfl⟩), fun hq => Or.inr (Or.inr (Or.inr ⟨rfl, fun th hs => ?_, rfl⟩))⟩
    · have hne2 : x / 2 ≠ y / 2 := fun q => hq (by rw [q])
      have v1 := val x hx h1 th hs
      have v2 := val y hy h2 th hs
      omega
    · have heq := (nI_eq (by omega) (by omega)).mp (Classical.not_not.mp hq)
      have v1 := val x hx h1 th hs
      have v2 := val y hy h2 th hs
      omega
  refine w_149 sg (nI x) (nI y) ((m_isOpen sg (by omega)).imp ?_)
  rintro _ s9 ⟨rfl, e9⟩
  rw [e9]
  refine ⟨_, rfl, fun h0 => ?_, fun h0 => ?_⟩
  · have hx64 : ¬ x / 2 < 64 := fun q => by rw [if_pos q] at h0; exact absurd h0 (by decide)
    refine (m_isOpen sg (by omega)).imp ?_
    rintro _ s8 ⟨rfl, e8⟩
    rw [e8]
    refine ⟨_, rfl, fun h1 => ?_, fun h1 => ?_⟩
    · have hy64 : ¬ y / 2 < 64 := fun q => by rw [if_pos q] at h1; exact absurd h1 (by decide)
      rw [nI_half (by omega), nI_half (by omega), show (75 : Int32) = nI 75 from rfl]
      refine ⟨fun h2 => atoms hx64 hy64 (Or.inl ((nI_ltI (by omega) (by decide)).mp h2)), fun h2 => ⟨fun h3 => ?_, fun h3 => atoms hx64 hy64 (Or.inr ?_)⟩⟩
      · have hx75 : 75 ≤ x / 2 := by
          by_cases q : x / 2 < 75
          · exact absurd ((nI_ltI (by omega) (by decide)).mpr q) h2
          · omega
        have hy75 : 75 ≤ y / 2 := (nI_leI (by decide) (by omega)).mp h3
        obtain ⟨a, b, ha, hb, la, lb, hvx⟩ := mV_pair hw hx75 hx
        obtain ⟨c, d, hc, hd, lc, ld, hvy⟩ := mV_pair hw hy75 hy
        rw [nI_clamp (by omega), nI_clamp (by omega), nI_par (by omega), nI_par (by omega), ha, nI_2]
        refine ⟨rIn_nI (by omega) (by decide), (m_piles sg _ hp (by omega)).imp ?_⟩
        rintro _ s1 ⟨rfl, f1, p1, q1, r1⟩
        rw [f1.1 727 (by decide) (by decide), hc, nI_2]
        refine ⟨rfl, rIn_nI (by omega) (by decide), (m_piles s1 _ p1 (by omega)).imp ?_⟩
        rintro _ s2 ⟨rfl, f2, p2, q2, r2⟩
        rw [(f1.trans f2).1 728 (by decide) (by decide), hb, nI_2]
        refine ⟨rfl, rIn_nI (by omega) (by decide), (m_piles s2 _ p2 (by omega)).imp ?_⟩
        rintro _ s3 ⟨rfl, f3, p3, q3, r3⟩
        rw [((f1.trans f2).trans f3).1 728 (by decide) (by decide), hd, nI_2]
        refine ⟨rfl, rIn_nI (by omega) (by decide), (m_piles s3 _ p3 (by omega)).imp ?_⟩
        rintro _ s4 ⟨rfl, f4, p4, q4, r4⟩
        refine ⟨rfl, Or.inr (Or.inr (Or.inl ⟨_, _, _, _, rfl, hvx, hvy, by omega, by omega, by omega, by omega, ((f1.trans f2).trans f3).trans f4, p4, ?_, ?_, ?_, q4, fun j hj => ?_⟩))⟩
        · rw [r4 _ (by omega), r3 _ (by omega), r2 _ (by omega), q1]
        · rw [r4 _ (by omega), r3 _ (by omega), q2]
        · rw [r4 _ (by omega), q3]
        · rw [r4 _ (by omega), r3 _ (by omega), r2 _ (by omega), r1 _ (by omega)]
      · by_cases q : y / 2 < 75
        · exact q
        · exact absurd ((nI_leI (by decide) (by omega)).mpr (by omega)) h3
    · have hy64 : y / 2 < 64 := by
        by_cases q : y / 2 < 64
        · exact q
        · rw [if_neg q] at h1; exact absurd rfl h1
      exact one y x (Or.inr ⟨rfl, rfl⟩) hy hx (Ne.symm hne) ry rx hy64
  · have hx64 : x / 2 < 64 := by
      by_cases q : x / 2 < 64
      · exact q
      · rw [if_neg q] at h0; exact absurd rfl h0
    exact one x y (Or.inl ⟨rfl, rfl⟩) hx hy hne rx ry hx64
