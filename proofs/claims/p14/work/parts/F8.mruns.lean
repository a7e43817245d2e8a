/-! THE REFERENCE: goes, begins, exactly -/
section
variable {tb : Tb} {R : Nat → Nat → Prop} {s : rSg} {z T G L h : Nat} {Q : Qx}
theorem goN.rfl' (hs : RSa tb R s z T G L h Q) : goN tb R z s T G L T G L Q s := ⟨T, G, L, h, hs, ⟨Nat.le_refl _, Nat.le_refl _⟩, ⟨Nat.le_refl _, Nat.le_refl _⟩, ⟨Nat.le_refl _, Nat.le_refl _⟩, hx.rfl', fy.rfl'⟩
theorem goN.mono {t : rSg} {Tm Gm Lm Tn Gn Ln : Nat} (hg : goN tb R z s T G L Tm Gm Lm Q t) (h1 : Tm ≤ Tn) (h2 : Gm ≤ Gn) (h3 : Lm ≤ Ln) : goN tb R z s T G L Tn Gn Ln Q t := by
  obtain ⟨T2, G2, L2, h2', g1, g2, g3, g4, g5, g6⟩ := hg
  exact ⟨T2, G2, L2, h2', g1, by omega, by omega, by omega, g5, g6⟩
theorem goN.pre {t u : rSg} {T2 G2 L2 Tm Gm Lm : Nat} (hg : goN tb R z t T2 G2 L2 Tm Gm Lm Q u) (hT : T ≤ T2) (hG : G ≤ G2) (hL : L ≤ L2) (e : hx T G L s t) (f : fy z s t) : goN tb R z s T G L Tm Gm Lm Q u := by
  obtain ⟨T3, G3, L3, h3, g1, g2, g3, g4, g5, g6⟩ := hg
  exact ⟨T3, G3, L3, h3, g1, by omega, by omega, by omega, e.trans g5 hT hG hL, f.trans g6⟩
theorem fs_138 (hs : RSa tb R s z T G L h Q) : EvS rSkel 1 138 [.inr (.inr (some 725))] s (fun v t => v = some (.inl (if Q.1.length = 0 ∨ Q.2.1.length = 30 then 1 else 0)) ∧ t = s) := ev_m_isDone 0 s hs.2.1.1 hs.2.1.2 hs.2.2.1.2.1.1 hs.2.2.1.2.2.1.1 (by have := hs.2.2.1.2.1.2; omega) (by have := hs.2.2.1.2.2.1.2; omega)
theorem fs_137b {N : Nat} (hN : N ≤ 1000) (hT : T + 2 * N ≤ 1400) (hG : G + N ≤ 1000) (hL : L + 25 * N ≤ 18000) {P : Option rv → rSg → Prop} : ∀ (n y : Nat) (t : rSg) (Q : Qx), y + n = N → Q.2.2.2.2 ≤ 40 → goN tb R z s T G L (T + 2 * y) (G + y) (L + 25 * y) Q t → (∀ u Q2 m, m ≤ N → gos tb 30 n Q Q2 → Q2.2.2.2.2 ≤ 40 → Q2.2.2.1 + y = Q.2.2.1 + m → goN tb R z s T G L (T + 2 * m) (G + m) (L + 25 * m) Q2 u → P none u) → g_137_2 (nI N) (nI y) t P := by
  intro n
  induction n with
  | zero =>
    intro y t Q hy hm hg hP
    obtain rfl : y = N := by omega
    exact w_137_2 t _ _ ⟨fun _ => hP t Q y (Nat.le_refl _) rfl hm rfl hg, fun q => absurd (nI_le (by omega) (by omega)) q⟩
  | succ n ih =>
    intro y t Q hy hm hg hP
    refine w_137_2 t _ _ ⟨fun q => absurd ((nI_leI (by omega) (by omega)).mp q) (by omega), fun _ => ?_⟩
    obtain ⟨T2, G2, L2, h2, g1, g2, g3, g4, g5, g6⟩ := id hg
    have a9 := g1.2.2.1.2.2.1.2
    refine (fs_138 g1).imp ?_
    rintro _ t ⟨rfl, rfl⟩
    by_cases hd : Q.1.length = 0 ∨ Q.2.1.length = 30
    · rw [if_pos hd]
      refine ⟨_, rfl, fun _ => hP t Q y (by omega) (Or.inl ⟨?_, rfl⟩) hm rfl hg, fun q => absurd (by decide) q⟩
      rcases hd with e | e
      · exact Or.inl (List.eq_nil_of_length_eq_zero e)
      · exact Or.inr (Or.inl (by omega))
    · rw [if_neg hd]
      have hgo : ¬ (Q.1 = [] ∨ 30 ≤ Q.2.1.length ∨ 30 ≤ Q.2.1.length) := by
        rintro (e | e | e)
        · exact hd (Or.inl (by rw [e]; rfl))
        · omega
        · omega
      refine ⟨_, rfl, fun q => absurd rfl q, fun _ => (fs_139 g1 (fun e => hgo (Or.inl e)) (by omega) hm (by omega) (by omega) (by omega)).imp ?_⟩
      rintro _ u ⟨rfl, Q2, w1, w2, w3⟩
      rw [nI_1]
      refine ⟨rfl, ih (y + 1) u Q2 (by omega) w2 ((w3.pre g2.1 g3.1 g4.1 g5 g6).mono (by omega) (by omega) (by omega)) (fun v Q3 m k1 k2 k3 k4 k5 => hP v Q3 m k1 (Or.inr ⟨hgo, Q2, w1, k2⟩) k3 ?_ k5)⟩
      have := st1_step w1
      omega
/-- goes: so many steps, or fewer -/
theorem fs_137 {N : Nat} (hs : RSa tb R s z T G L h Q) (hm : Q.2.2.2.2 ≤ 40) (hN : N ≤ 1000) (hT : T + 2 * N ≤ 1400) (hG : G + N ≤ 1000) (hL : L + 25 * N ≤ 18000) : EvS rSkel 14 137 [.inr (.inr (some 725)), .inl (nI N)] s (fun v t => v = none ∧ ∃ Q2 m, m ≤ N ∧ gos tb 30 N Q Q2 ∧ Q2.2.2.2.2 ≤ 40 ∧ Q2.2.2.1 = Q.2.2.1 + m ∧ goN tb R z s T G L (T + 2 * m) (G + m) (L + 25 * m) Q2 t) :=
  w_137 s _ (fs_137b hN hT hG hL N 0 s Q (by omega) hm (goN.rfl' hs) (fun u Q2 m k1 k2 k3 k4 k5 => ⟨rfl, Q2, m, k1, k2, k3, by omega, k5⟩))
end
/-- begins: one state waits, with the goal to do -/
theorem fs_121 {tb : Tb} {R : Nat → Nat → Prop} {q : Nat} {s : rSg} {z T G L g : Nat} (hh : hp s T G L) (htab : mTab tb R s T G) (hR : R g q) (h21 : s 725 21 = nI z) (hz : z < 2) (hL : L < 18000) (hg : g < G) (hn : nh s g ≤ 12) : EvS rSkel 3 121 [.inr (.inr (some 725)), .inl (nI g)] s (fun v t => v = none ∧ RSa tb R t z T G (L + 1) 0 (bgn q) ∧ hx T G L s t ∧ fy z s t) := by
  have b1 := hh.1
  refine (ev_m_begins s (nI g) h21 hz hh.2.1.2.2 (by omega)).imp ?_
  rintro _ _ ⟨rfl, rfl⟩
  generalize eb : mBegZ s z L (nI g) = b
  have f0 : ∀ k, k ∉ [733, 734, 735, 736, 746, 747, 748, 749, 750, 751] → k ≠ 725 → b k = s k := fun k h1 h2 => by
    have n : ∀ x, x ∈ [733, 734, 735, 736, 746, 747, 748, 749, 750, 751] → k ≠ x := fun x hx e => h1 (e ▸ hx)
    rw [← eb]
    unfold mBegZ mEmp
    rw [up2_nk _ _ _ h2, up2_nk _ _ _ h2, up2_nk _ _ _ h2, up2_nk _ _ _ h2, up2_nk _ _ _ (n 735 (by simp)), up2_nk _ _ _ (n 734 (by simp)), up2_nk _ _ _ (n 733 (by simp)), up2_nk _ _ _ (n 751 (by simp)), up2_nk _ _ _ (n 750 (by simp)), up2_nk _ _ _ (n 749 (by simp)), up2_nk _ _ _ (n 748 (by simp)), up2_nk _ _ _ (n 747 (by simp)), up2_nk _ _ _ (n 746 (by simp)), up2_nk _ _ _ h2, upC_ne _ _ (n 736 (by simp))]
  have c33 : ∀ j, b 733 j = if j = L then nI g else s 733 j := fun j => by rw [← eb]; simp [mBegZ, mEmp, up2, upC, upd]
  have c34 : ∀ j, b 734 j = if j = L then 0 else s 734 j := fun j => by rw [← eb]; simp [mBegZ, mEmp, up2, upC, upd]
  have c35 : ∀ j, b 735 j = if j = L then 0 else s 735 j := fun j => by rw [← eb]; simp [mBegZ, mEmp, up2, upC, upd]
  have c36 : ∀ j, j < 128 → b 736 j = -9 := fun j hj => by rw [← eb]; simp [mBegZ, mEmp, up2, upC, fillF, hj]
  have c46 : ∀ j, b 746 j = if j = z then 0 else s 746 j := fun j => by rw [← eb]; simp [mBegZ, mEmp, up2, upC, upd]
  have c47 : ∀ j, b 747 j = if j = z then 0 else s 747 j := fun j => by rw [← eb]; simp [mBegZ, mEmp, up2, upC, upd]
  have c48 : ∀ j, b 748 j = if j = z then 0 else s 748 j := fun j => by rw [← eb]; simp [mBegZ, mEmp, up2, upC, upd]
  have c49 : ∀ j, b 749 j = if j = z then 0 else s 749 j := fun j => by rw [← eb]; simp [mBegZ, mEmp, up2, upC, upd]
  have c50 : ∀ j, b 750 j = if j = z then 0 else s 750 j := fun j => by rw [← eb]; simp [mBegZ, mEmp, up2, upC, upd]
  have c51 : ∀ j, b 751 j = if j = z then 1 else s 751 j := fun j => by rw [← eb]; simp [mBegZ, mEmp, up2, upC, upd]
  have c25 : ∀ j, j ∉ [12, 16, 18, 19, 20] → b 725 j = s 725 j := fun j hj => by
    have n : ∀ x, x ∈ [12, 16, 18, 19, 20] → j ≠ x := fun x hx e => hj (e ▸ hx)
    rw [← eb]
    simp [mBegZ, mEmp, up2, upC, upd, n 12 (by simp), n 16 (by simp), n 18 (by simp), n 19 (by simp), n 20 (by simp)]
  have d12 : b 725 12 = nI (L + 1) := by rw [← eb]; simp [mBegZ, mEmp, up2, upC, upd]
  have d18 : b 725 18 = nI L := by rw [← eb]; simp [mBegZ, mEmp, up2, upC, upd]
  have d19 : b 725 19 = 0 := by rw [← eb]; simp [mBegZ, mEmp, up2, upC, upd]
  have k := wait_K b z 6 0 (42 * z + (0 + 0) % 42)
  obtain ⟨r0, r1, r2, r7⟩ := wait_742 b z 6 0 (42 * z + (0 + 0) % 42)
  have rr : ∀ j, j < 64 → mWaitS b z 6 0 (42 * z + (0 + 0) % 42) 739 (64 * (42 * z + (0 + 0) % 42) + j) = b 736 j := fun j hj => wait_row hj
  have ro : ∀ k, k < 64 * (42 * z + (0 + 0) % 42) ∨ 64 * (42 * z + (0 + 0) % 42) + 64 ≤ k → mWaitS b z 6 0 (42 * z + (0 + 0) % 42) 739 k = b 739 k := fun k hk => wait_other hk
  generalize mWaitS b z 6 0 (42 * z + (0 + 0) % 42) = t at k r0 r1 r2 r7 rr ro
  have esl : 42 * z + (0 + 0) % 42 = 42 * z := by omega
  rw [esl] at r0 r1 r2 rr ro
  have t0 : ∀ q, q ∉ [733, 734, 735, 736, 739, 740, 741, 742, 746, 747, 748, 749, 750, 751] → q ≠ 725 → t q = s q := fun q h1 h2 => by
    rw [k.1 q h2 (fun e => h1 (by simp at e ⊢; omega)), f0 q (fun e => h1 (by simp at e ⊢; omega)) h2]
  have e : hx T G L s t := by
    refine ⟨fun j _ => ⟨by rw [t0 727 (by simp) (by decide)], by rw [t0 728 (by simp) (by decide)]⟩, fun j _ => ⟨by rw [t0 729 (by simp) (by decide)], by rw [t0 730 (by simp) (by decide)], by rw [t0 731 (by simp) (by decide)], by rw [t0 732 (by simp) (by decide)]⟩, fun j hj => ⟨?_, ?_, ?_⟩⟩
    · rw [k.1 733 (by decide) (by simp), c33, if_neg (by omega)]
    · rw [k.1 734 (by decide) (by simp), c34, if_neg (by omega)]
    · rw [k.1 735 (by decide) (by simp), c35, if_neg (by omega)]
  have ht : hp t T G (L + 1) := ⟨by omega, ⟨by rw [k.2 10 (by simp), c25 10 (by simp)]; exact hh.2.1.1, by rw [k.2 11 (by simp), c25 11 (by simp)]; exact hh.2.1.2.1, by rw [k.2 12 (by simp)]; exact d12⟩, hh.2.2.1.ext e.1, hh.2.2.2.ext e.2.1 (Nat.le_refl _)⟩
  have t33 : t 733 L = nI g := by rw [k.1 733 (by decide) (by simp), c33, if_pos rfl]
  have t35 : t 735 L = nI 0 := by rw [k.1 735 (by decide) (by simp), c35, if_pos rfl]; rfl
  have hw : wX t T G (L + 1) (42 * z + (0 + 0) % 42) (L, [g], 0, [], 6) := by
    rw [esl]
    refine ⟨bRow_open b1.1 (by omega) ht.2.2.1 (fun j hj => by rw [rr j hj]; exact c36 j (by omega)), ?_, ?_, ?_, show 6 ≤ 60 by decide, ⟨by omega, by omega, t33, hg, 0, t35, by omega, rfl⟩, rfl, ?_⟩
    · rw [r0, show upd (b 740) (42 * z) (b 725 18) (42 * z) = b 725 18 from if_pos rfl]; exact d18
    · rw [r1, show upd (b 741) (42 * z) (b 725 19) (42 * z) = b 725 19 from if_pos rfl]; exact d19
    · rw [r2]; exact if_pos rfl
    · simp only [nhs_cons]
      rw [nh_ext hh.2.2.2 (by omega) e.2.1 hg]
      simp [nhs]
      exact hn
  have hwa : wXa tb R t T G (L + 1) (42 * z + (0 + 0) % 42) (L, [g], 0, [], 6) ([.inl q], [], 6, fun _ => True) := by
    refine ⟨hw, ⟨⟨Or.inl ⟨q, hR, rfl⟩, trivial⟩, ⟨[], List.Perm.refl _, trivial⟩, rfl⟩, fun r => ⟨fun _ => ?_, fun _ => trivial⟩⟩
    obtain ⟨⟨hw1, rk, hok⟩, _⟩ := hw.1
    obtain ⟨th, q1, q2, _⟩ := vSol_ex hok (fun c => r (c / 2))
    refine ⟨th, q1, fun v hv => ?_⟩
    rw [q2 (2 * v) ?_]
    · rw [show 2 * v / 2 = v by omega]
    · have e0 : opn (2 * v) = v := by unfold opn; omega
      unfold mV
      rw [if_pos (by omega), e0, upC_same]
      unfold ldF
      rw [if_pos hv, esl]
      show (if t 739 (64 * (42 * z) + v) < 0 then none else _) = none
      rw [rr v hv, c36 v (by omega)]
      exact if_pos (by decide)
  refine ⟨rfl, ⟨ht, ⟨by rw [k.2 21 (by simp), c25 21 (by simp)]; exact h21, hz⟩, ⟨⟨by rw [k.1 746 (by decide) (by simp), c46, if_pos rfl]; rfl, by omega⟩, ⟨by rw [r7]; exact if_pos rfl, by simp [bgn]⟩, ⟨by rw [k.1 748 (by decide) (by simp), c48, if_pos rfl]; rfl, by simp [bgn]⟩, by rw [k.1 749 (by decide) (by simp), c49, if_pos rfl]; rfl, by rw [k.1 750 (by decide) (by simp), c50, if_pos rfl]; rfl, by rw [k.1 751 (by decide) (by simp), c51, if_pos rfl]; rfl, fun i Y hi => ?_, fun i n Y hi => ?_⟩, mTab_ext e (Nat.le_refl _) (Nat.le_refl _) htab⟩, e, ⟨fun q h1 h2 => t0 q (fun e => h2 (by simp [kZ] at e ⊢; omega)) h1, fun j hj => by rw [k.2 j (by simp), c25 j (fun e => hj (by simp [jZ] at e ⊢; omega))]⟩, fun y hy hne => ⟨?_, fun j _ => by rw [t0 744 (by simp) (by decide), t0 745 (by simp) (by decide)]; exact ⟨rfl, rfl⟩, by rw [k.1 750 (by decide) (by simp), c50, if_neg hne], by rw [k.1 751 (by decide) (by simp), c51, if_neg hne]⟩⟩
  · cases i with
    | zero =>
      simp [bgn] at hi
      subst hi
      exact ⟨_, hwa⟩
    | succ i => simp [bgn] at hi
  · simp [bgn] at hi
  · refine ⟨fun j hj => ?_, fun j hj => ?_, fun j _ => by rw [t0 743 (by simp) (by decide)], by rw [k.1 746 (by decide) (by simp), c46, if_neg hne], ?_, by rw [k.1 748 (by decide) (by simp), c48, if_neg hne], by rw [k.1 749 (by decide) (by simp), c49, if_neg hne]⟩
    · have n0 : 42 * y + j ≠ 42 * z := by omega
      rw [r0, r1, r2, show upd (b 740) (42 * z) (b 725 18) (42 * y + j) = b 740 (42 * y + j) from if_neg n0, show upd (b 741) (42 * z) (b 725 19) (42 * y + j) = b 741 (42 * y + j) from if_neg n0, show upd (b 742) (42 * z) (nI 6) (42 * y + j) = b 742 (42 * y + j) from if_neg n0, f0 740 (by simp) (by decide), f0 741 (by simp) (by decide), f0 742 (by simp) (by decide)]
      exact ⟨rfl, rfl, rfl⟩
    · rw [ro _ (by omega), f0 739 (by simp) (by decide)]
    · rw [r7, show upd (b 747) z (nI (0 + 1)) y = b 747 y from if_neg hne, c47, if_neg hne]

