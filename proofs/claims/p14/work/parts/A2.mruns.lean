/-! THE REFERENCE: steps; a search begins -/
theorem go3.rfl' {s : rSg} {z T G L h w a : Nat} (hs : RS s z T G L h w a) : go3 z s T G L T G L s := ⟨T, G, L, h, w, a, hs, ⟨Nat.le_refl _, Nat.le_refl _⟩, ⟨Nat.le_refl _, Nat.le_refl _⟩, ⟨Nat.le_refl _, Nat.le_refl _⟩, hx.rfl', fq.rfl'⟩
theorem go3.mono {s t : rSg} {z T G L Tm Gm Lm Tn Gn Ln : Nat} (hg : go3 z s T G L Tm Gm Lm t) (h1 : Tm ≤ Tn) (h2 : Gm ≤ Gn) (h3 : Lm ≤ Ln) : go3 z s T G L Tn Gn Ln t := by
  obtain ⟨T2, G2, L2, h2, w2, a2, g1, g2, g3, g4, g5, g6⟩ := hg
  exact ⟨T2, G2, L2, h2, w2, a2, g1, by omega, by omega, by omega, g5, g6⟩
theorem go3.pre {s t u : rSg} {z T G L T2 G2 L2 Tm Gm Lm : Nat} (hg : go3 z t T2 G2 L2 Tm Gm Lm u) (hT : T ≤ T2) (hG : G ≤ G2) (hL : L ≤ L2) (e : hx T G L s t) (f : fq z s t) : go3 z s T G L Tm Gm Lm u := by
  obtain ⟨T3, G3, L3, h3, w3, a3, g1, g2, g3, g4, g5, g6⟩ := hg
  exact ⟨T3, G3, L3, h3, w3, a3, g1, by omega, by omega, by omega, e.trans g5 hT hG hL, f.trans g6⟩
/-- one more step, if the search isn't done -/
theorem ms_more {s t : rSg} {z T G L y : Nat} (hg : go3 z s T G L (T + 2 * y) (G + y) (L + 25 * y) t) {N : Nat} (hy : y < N) (hT : T + 2 * N ≤ 1400) (hG : G + N ≤ 1000) (hL : L + 25 * N ≤ 18000) (hd : ∀ T2 G2 L2 h2 w2 a2, RS t z T2 G2 L2 h2 w2 a2 → 0 < w2 ∧ a2 < 30) {P : Option rv → rSg → Prop} (hP : ∀ u, go3 z s T G L (T + 2 * (y + 1)) (G + (y + 1)) (L + 25 * (y + 1)) u → u 749 z = t 749 z + 1 → P none u) : EvS rSkel 13 139 [.inr (.inr (some 725))] t P := by
  obtain ⟨T2, G2, L2, h2, w2, a2, g1, g2, g3, g4, g5, g6⟩ := hg
  obtain ⟨hw, ha⟩ := hd _ _ _ _ _ _ g1
  refine (ms_139 g1 hw ha (by omega) (by omega) (by omega)).imp ?_
  rintro _ u ⟨rfl, r1, r2⟩
  exact hP u ((r1.pre g2.1 g3.1 g4.1 g5 g6).mono (by omega) (by omega) (by omega)) r2
/-- isDone: what it says of a search -/
theorem ms_138 {s : rSg} {z T G L h w a : Nat} (hs : RS s z T G L h w a) : EvS rSkel 1 138 [.inr (.inr (some 725))] s (fun v t => v = some (.inl (if w = 0 ∨ a = 30 then 1 else 0)) ∧ t = s) := ev_m_isDone 0 s hs.2.1.1 hs.2.1.2 hs.2.2.2.1.1 hs.2.2.2.2.1.1 (by have := hs.2.2.2.1.2; omega) (by have := hs.2.2.2.2.1.2; omega)
theorem RS.uniq {s : rSg} {z T G L h w a T2 G2 L2 h2 w2 a2 : Nat} (h1 : RS s z T G L h w a) (h3 : RS s z T2 G2 L2 h2 w2 a2) : w2 = w ∧ a2 = a := by
  have b1 := h1.2.2.2.1
  have b2 := h3.2.2.2.1
  have c1 := h1.2.2.2.2.1
  have c2 := h3.2.2.2.2.1
  exact ⟨nI_inj (by omega) (by omega) (b2.1.symm.trans b1.1), nI_inj (by omega) (by omega) (c2.1.symm.trans c1.1)⟩
theorem ms_137b {s : rSg} {z T G L N st : Nat} (hN : N ≤ 1000) (hT : T + 2 * N ≤ 1400) (hG : G + N ≤ 1000) (hL : L + 25 * N ≤ 18000) {P : Option rv → rSg → Prop} (hP : ∀ t m, m ≤ N → go3 z s T G L (T + 2 * m) (G + m) (L + 25 * m) t → t 749 z = nI (st + m) → P none t) : ∀ (n y : Nat) (t : rSg), y + n = N → go3 z s T G L (T + 2 * y) (G + y) (L + 25 * y) t → t 749 z = nI (st + y) → g_137_2 (nI N) (nI y) t P := by
  intro n
  induction n with
  | zero =>
    intro y t hy hg h9
    obtain rfl : y = N := by omega
    exact w_137_2 t _ _ ⟨fun _ => hP t y (Nat.le_refl _) hg h9, fun q => absurd (nI_le (by omega) (by omega)) q⟩
  | succ n ih =>
    intro y t hy hg h9
    refine w_137_2 t _ _ ⟨fun q => absurd ((nI_leI (by omega) (by omega)).mp q) (by omega), fun _ => ?_⟩
    obtain ⟨T2, G2, L2, h2, w2, a2, g1, _⟩ := id hg
    refine (ms_138 g1).imp ?_
    rintro _ t ⟨rfl, rfl⟩
    refine ⟨_, rfl, fun _ => hP t y (by omega) hg h9, fun q => ?_⟩
    have hd : 0 < w2 ∧ a2 < 30 := by
      have a9 := g1.2.2.2.2.1.2
      by_cases e : w2 = 0 ∨ a2 = 30
      · exact absurd (by rw [if_pos e]; decide) q
      · omega
    refine ms_more (N := N) hg (by omega) hT hG hL (fun T3 G3 L3 h3 w3 a3 g3 => by
      obtain ⟨e1, e2⟩ := g1.uniq g3
      omega) (fun u hu h10 => ⟨rfl, ?_⟩)
    rw [nI_1]
    exact ih (y + 1) u (by omega) hu (by rw [h10, h9, nI_1]; congr 1)
/-- goes: so many steps, or fewer -/
theorem ms_137 {s : rSg} {z T G L h w a N st : Nat} (hs : RS s z T G L h w a) (h9 : s 749 z = nI st) (hN : N ≤ 1000) (hT : T + 2 * N ≤ 1400) (hG : G + N ≤ 1000) (hL : L + 25 * N ≤ 18000) : EvS rSkel 14 137 [.inr (.inr (some 725)), .inl (nI N)] s (fun v t => v = none ∧ ∃ m, m ≤ N ∧ go3 z s T G L (T + 2 * m) (G + m) (L + 25 * m) t ∧ t 749 z = nI (st + m)) :=
  w_137 s _ (ms_137b hN hT hG hL (fun t m hm g1 g2 => ⟨rfl, m, hm, g1, g2⟩) N 0 s (by omega) (go3.rfl' hs) h9)
/-! a search begins -/
theorem bRow_open {s : rSg} {T : Nat} (hT : 75 ≤ T) (hT9 : T ≤ 6000) (hP : hpP s T) {f : Nat → Int32} (hf : ∀ j, j < 64 → f j = -9) : bRow s T f := by
  have e : ∀ j, j < 128 → upC s 736 (ldF f) 736 j = -9 := fun j hj => by
    rw [upC_same]
    unfold ldF
    split
    · next q => exact hf j q
    · rfl
  refine ⟨⟨⟨hT, hT9, fun t h1 h2 => ?_, fun i hi => Or.inl (e i hi)⟩, fun c => c, fun c hc => ?_⟩, fun j hj => Or.inl (hf j hj)⟩
  · obtain ⟨a, b, r1, r2, r3, r4⟩ := hP t h1 h2
    exact ⟨a, b, by rw [upC_ne _ _ (by decide)]; exact r1, by rw [upC_ne _ _ (by decide)]; exact r2, by omega, by omega⟩
  · have hc : c < 2 * T := hc
    by_cases h1 : c / 2 < 64
    · have : mV (upC s 736 (ldF f)) c = none := by
        unfold mV
        rw [if_pos h1, e _ (opn_lt h1), if_pos (by decide)]
      rw [this]
      exact ⟨fun _ z => (by cases z), fun _ z => (by cases z), fun _ _ z => (by cases z)⟩
    · by_cases h2 : c / 2 < 75
      · rw [mV_atom (by omega) h2]
        exact ⟨fun _ z => (by cases z), fun n z => (by cases z; omega), fun _ _ z => (by cases z)⟩
      · obtain ⟨a, b, r1, r2, r3, r4⟩ := hP (c / 2) (by omega) (by omega)
        have ev : mV (upC s 736 (ldF f)) c = some (.inr (.inr (2 * a + c % 2, 2 * b + c % 2))) := by
          unfold mV
          rw [if_neg h1, if_neg h2, upC_ne _ _ (by decide), upC_ne _ _ (by decide), r1, r2, nI_clamp (by omega), nI_clamp (by omega)]
        rw [ev]
        refine ⟨fun _ z => (by cases z), fun _ z => (by cases z), fun x y q => ?_⟩
        cases q
        exact ⟨⟨show _ < 2 * T by omega, show 2 * a + c % 2 < c by omega⟩, ⟨show _ < 2 * T by omega, show 2 * b + c % 2 < c by omega⟩⟩
def mBegZ (sg : rSg) (z t : Nat) (goal : Int32) : rSg := up2 (up2 (up2 (up2 (up2 (up2 (up2 (up2 (up2 (up2 (up2 (up2 (up2 ((mEmp sg)) 746 z 0) 747 z 0) 748 z 0) 749 z 0) 750 z 0) 751 z 1) 733 t goal) 734 t 0) 735 t 0) 725 12 (nI (t + 1))) 725 18 (nI t)) 725 19 0) 725 20 6
theorem ev_m_begins (sg : rSg) {z t : Nat} (goal : Int32) (hz : sg 725 21 = nI z) (hz2 : z < 2) (ht : sg 725 12 = nI t) (ht9 : t < 20000) : EvS rSkel 3 121 [.inr (.inr (some 725)), .inl goal] sg (fun v s2 => v = none ∧ s2 = mWaitS (mBegZ sg z t goal) z 6 0 (42 * z + (0 + 0) % 42)) := by
  have : z = 0 ∨ z = 1 := by omega
  rcases this with rfl | rfl
  · exact ev_m_begins_0 0 sg goal hz ht ht9
  · exact ev_m_begins_1 0 sg goal hz ht ht9
/-- begins: one state waits, with the goal to do -/
theorem ms_121 {s : rSg} {z T G L g : Nat} (hh : hp s T G L) (h21 : s 725 21 = nI z) (hz : z < 2) (hL : L < 18000) (hg : g < G) (hn : nh s g ≤ 12) : EvS rSkel 3 121 [.inr (.inr (some 725)), .inl (nI g)] s (fun v t => v = none ∧ RS t z T G (L + 1) 0 1 0 ∧ t 749 z = nI 0 ∧ hx T G L s t ∧ fq z s t) := by
  have b1 := hh.1
  refine (ev_m_begins s (nI g) h21 hz hh.2.1.2.2 (by omega)).imp ?_
  rintro _ _ ⟨rfl, rfl⟩
  generalize eb : mBegZ s z L (nI g) = b
  have f0 : ∀ k, k ∉ [733, 734, 735, 736, 746, 747, 748, 749, 750, 751] → k ≠ 725 → b k = s k := fun k h1 h2 => by
    have n : ∀ x, x ∈ [733, 734, 735, 736, 746, 747, 748, 749, 750, 751] → k ≠ x := fun x hx e => h1 (e ▸ hx)
    rw [← eb]
    unfold mBegZ mEmp
    rw [up2_nk _ _ _ h2, up2_nk _ _ _ h2, up2_nk _ _ _ h2, up2_nk _ _ _ h2, up2_nk _ _ _ (n 735 (by simp)), up2_nk _ _ _ (n 734 (by simp)), up2_nk _ _ _ (n 733 (by simp)), up2_nk _ _ _ (n 751 (by simp)), up2_nk _ _ _ (n 750 (by simp)), up2_nk _ _ _ (n 749 (by simp)), up2_nk _ _ _ (n 748 (by simp)), up2_nk _ _ _ (n 747 (by simp)), up2_nk _ _ _ (n 746 (by simp)), up2_nk _ _ _ h2, upC_ne _ _ (n 736 (by simp))]
  have c33 : ∀ j, b 733 j = if j = L then nI g else s 733 j := fun j => by rw [← eb]; simp [mBegZ, mEmp, up2, upC, upd]
  have c34 : ∀ j, b 734 j = if j = L then 0 else s 734 j := fun j => by rw [← eb]; simp [mBegZ, mEmp, up2, upC, upd]
  have c35 : ∀ j, b 735 j = if j = L then 0 else s 735 j := fun j => by rw [← eb]; simp [mBegZ, mEmp, up2, upC, upd]
  have c36 : ∀ j, j < 128 → b 736 j = -9 := fun j hj => by rw [← eb]; simp [mBegZ, mEmp, up2, upC, fillF, hj]
  have c46 : ∀ j, b 746 j = if j = z then 0 else s 746 j := fun j => by rw [← eb]; simp [mBegZ, mEmp, up2, upC, upd]
  have c47 : ∀ j, b 747 j = if j = z then 0 else s 747 j := fun j => by rw [← eb]; simp [mBegZ, mEmp, up2, upC, upd]
  have c48 : ∀ j, b 748 j = if j = z then 0 else s 748 j := fun j => by rw [← eb]; simp [mBegZ, mEmp, up2, upC, upd]
  have c49 : ∀ j, b 749 j = if j = z then 0 else s 749 j := fun j => by rw [← eb]; simp [mBegZ, mEmp, up2, upC, upd]
  have c25 : ∀ j, j ∉ [12, 16, 18, 19, 20] → b 725 j = s 725 j := fun j hj => by
    have n : ∀ x, x ∈ [12, 16, 18, 19, 20] → j ≠ x := fun x hx e => hj (e ▸ hx)
    rw [← eb]
    simp [mBegZ, mEmp, up2, upC, upd, n 12 (by simp), n 16 (by simp), n 18 (by simp), n 19 (by simp), n 20 (by simp)]
  have d12 : b 725 12 = nI (L + 1) := by rw [← eb]; simp [mBegZ, mEmp, up2, upC, upd]
  have d18 : b 725 18 = nI L := by rw [← eb]; simp [mBegZ, mEmp, up2, upC, upd]
  have d19 : b 725 19 = 0 := by rw [← eb]; simp [mBegZ, mEmp, up2, upC, upd]
  have k := wait_K b z 6 0 (42 * z + (0 + 0) % 42)
  obtain ⟨r0, r1, r2, r7⟩ := wait_742 b z 6 0 (42 * z + (0 + 0) % 42)
  have rr : ∀ j, j < 64 → mWaitS b z 6 0 (42 * z + (0 + 0) % 42) 739 (64 * (42 * z + (0 + 0) % 42) + j) = b 736 j := fun j hj => wait_row hj
  have ro : ∀ k, k < 64 * (42 * z + (0 + 0) % 42) ∨ 64 * (42 * z + (0 + 0) % 42) + 64 ≤ k → mWaitS b z 6 0 (42 * z + (0 + 0) % 42) 739 k = b 739 k := fun k hk => wait_other hk
  generalize mWaitS b z 6 0 (42 * z + (0 + 0) % 42) = t at k r0 r1 r2 r7 rr ro
  have esl : 42 * z + (0 + 0) % 42 = 42 * z := by omega
  rw [esl] at r0 r1 r2 rr ro
  have t0 : ∀ q, q ∉ [733, 734, 735, 736, 739, 740, 741, 742, 746, 747, 748, 749, 750, 751] → q ≠ 725 → t q = s q := fun q h1 h2 => by
    rw [k.1 q h2 (fun e => h1 (by simp at e ⊢; omega)), f0 q (fun e => h1 (by simp at e ⊢; omega)) h2]
  have e : hx T G L s t := by
    refine ⟨fun j _ => ⟨by rw [t0 727 (by simp) (by decide)], by rw [t0 728 (by simp) (by decide)]⟩, fun j _ => ⟨by rw [t0 729 (by simp) (by decide)], by rw [t0 730 (by simp) (by decide)], by rw [t0 731 (by simp) (by decide)], by rw [t0 732 (by simp) (by decide)]⟩, fun j hj => ⟨?_, ?_, ?_⟩⟩
    · rw [k.1 733 (by decide) (by simp), c33, if_neg (by omega)]
    · rw [k.1 734 (by decide) (by simp), c34, if_neg (by omega)]
    · rw [k.1 735 (by decide) (by simp), c35, if_neg (by omega)]
  have ht : hp t T G (L + 1) := ⟨by omega, ⟨by rw [k.2 10 (by simp), c25 10 (by simp)]; exact hh.2.1.1, by rw [k.2 11 (by simp), c25 11 (by simp)]; exact hh.2.1.2.1, by rw [k.2 12 (by simp)]; exact d12⟩, hh.2.2.1.ext e.1, hh.2.2.2.ext e.2.1 (Nat.le_refl _)⟩
  have t33 : t 733 L = nI g := by rw [k.1 733 (by decide) (by simp), c33, if_pos rfl]
  have t35 : t 735 L = nI 0 := by rw [k.1 735 (by decide) (by simp), c35, if_pos rfl]; rfl
  have hw : wX t T G (L + 1) (42 * z + (0 + 0) % 42) (L, [g], 0, [], 6) := by
    rw [esl]
    refine ⟨bRow_open b1.1 (by omega) ht.2.2.1 (fun j hj => by rw [rr j hj]; exact c36 j (by omega)), ?_, ?_, ?_, show 6 ≤ 60 by decide, ⟨by omega, by omega, t33, hg, 0, t35, by omega, rfl⟩, rfl, ?_⟩
    · rw [r0, show upd (b 740) (42 * z) (b 725 18) (42 * z) = b 725 18 from if_pos rfl]; exact d18
    · rw [r1, show upd (b 741) (42 * z) (b 725 19) (42 * z) = b 725 19 from if_pos rfl]; exact d19
    · rw [r2]; exact if_pos rfl
    · simp only [nhs_cons]
      rw [nh_ext hh.2.2.2 (by omega) e.2.1 hg]
      simp [nhs]
      exact hn
  refine ⟨rfl, ⟨ht, ⟨by rw [k.2 21 (by simp), c25 21 (by simp)]; exact h21, hz⟩, ⟨⟨by rw [k.1 746 (by decide) (by simp), c46, if_pos rfl]; rfl, by omega⟩, ⟨by rw [r7]; exact if_pos rfl, by omega⟩, ⟨by rw [k.1 748 (by decide) (by simp), c48, if_pos rfl]; rfl, by omega⟩, fun i hi => ?_, fun i hi => absurd hi (by omega)⟩⟩, by rw [k.1 749 (by decide) (by simp), c49, if_pos rfl]; rfl, e, ⟨fun q h1 h2 => t0 q (fun e => h2 (by simp [kZ] at e ⊢; omega)) h1, fun j hj => by rw [k.2 j (by simp), c25 j (fun e => hj (by simp [jZ] at e ⊢; omega))]⟩, fun y hy hne => ?_⟩
  · obtain rfl : i = 0 := by omega
    exact ⟨_, hw⟩
  · refine ⟨fun j hj => ?_, fun j hj => ?_, fun j _ => by rw [t0 743 (by simp) (by decide)], by rw [k.1 746 (by decide) (by simp), c46, if_neg hne], ?_, by rw [k.1 748 (by decide) (by simp), c48, if_neg hne], by rw [k.1 749 (by decide) (by simp), c49, if_neg hne]⟩
    · have n0 : 42 * y + j ≠ 42 * z := by omega
      rw [r0, r1, r2, show upd (b 740) (42 * z) (b 725 18) (42 * y + j) = b 740 (42 * y + j) from if_neg n0, show upd (b 741) (42 * z) (b 725 19) (42 * y + j) = b 741 (42 * y + j) from if_neg n0, show upd (b 742) (42 * z) (nI 6) (42 * y + j) = b 742 (42 * y + j) from if_neg n0, f0 740 (by simp) (by decide), f0 741 (by simp) (by decide), f0 742 (by simp) (by decide)]
      exact ⟨rfl, rfl, rfl⟩
    · rw [ro _ (by omega), f0 739 (by simp) (by decide)]
    · rw [r7, show upd (b 747) z (nI (0 + 1)) y = b 747 y from if_neg hne, c47, if_neg hne]
