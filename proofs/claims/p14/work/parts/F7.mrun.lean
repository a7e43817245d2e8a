/-! THE REFERENCE: answers, steps, exactly -/
def RSa (tb : Tb) (R : Nat → Nat → Prop) (s : rSg) (z T G L h : Nat) (Q : Qx) : Prop := hp s T G L ∧ (s 725 21 = nI z ∧ z < 2) ∧ seaQ tb R s z T G L h Q ∧ mTab tb R s T G
section
variable {tb : Tb} {R : Nat → Nat → Prop} {s : rSg} {z T G L h : Nat} {Q : Qx}
theorem fs_141 {q : stP} {X : Sx} (hs : RSa tb R s z T G L h Q) (hc : cXa tb R s T G L q X) (ha : Q.2.1.length < 30) : EvS rSkel 2 141 [.inr (.inr (some 725))] s (fun v t => v = none ∧ RSa tb R t z T G L h (Q.1, Q.2.1 ++ [(Q.2.2.1, X)], Q.2.2) ∧ hx T G L s t ∧ fy z s t) := by
  obtain ⟨hh, ⟨h21, hz⟩, ⟨⟨a1, a2⟩, ⟨a3, a4⟩, ⟨a5, a6⟩, a9, a10, a11, a7, a8⟩, htab⟩ := id hs
  have b1 := hh.1
  have rz : rIn (nI z) 2 = true := rIn_nI hz (by decide)
  have hkl : q.2.2.2.1.length = X.2.1.length := by
    obtain ⟨_, ⟨ks, l2, l3⟩, _⟩ := hc.2.1
    rw [mK2_len l3, l2.length_eq]
  generalize ea : Q.2.1.length = a at ha a5 a6
  have ev : (30 * nI z) + nI a = nI (30 * z + a) := by rw [show (30 : Int32) = nI 30 from rfl, pk_mul, nI_add]
  generalize eA : 30 * z + a = A
  have hA : A < 60 := by omega
  refine w_141 s ?_
  rw [h21, nI_clamp (by omega), a5, ev, eA]
  refine ⟨rz, ms_141b hA (fun t h1 h2 h3 => ?_) 64 0 s rfl (fun _ _ => rfl) (fun j hj => absurd hj (by omega)) (fun _ _ => rfl)⟩
  have t21 : t 725 21 = nI z := by rw [h1 725 (by decide)]; exact h21
  have t19 : t 725 19 = nI q.2.2.1 := by rw [h1 725 (by decide)]; exact hc.1.2.2.1
  refine w_141_20 t _ _ ⟨fun _ => ?_, fun q => absurd (nI_le (a := 64) (b := 64) (by decide) (by decide)) q⟩
  rw [t21, nI_clamp (by omega), nI_clamp (by omega), t19]
  have rA : rIn (nI A) 60 = true := rIn_nI hA (by decide)
  refine ⟨rz, rA, (ev_m_lengthOf 0 _ (n := q.2.2.2.1.length) ?_ ?_).imp ?_⟩
  · rw [up2_nk _ _ _ (by decide), h1 735 (by decide)]
    exact kel_chn (by omega) hc.1.2.2.2.2.2.2.1
  · have := hc.1.2.2.2.2.2.2.2; omega
  rintro _ _ ⟨rfl, rfl⟩
  have u21 : ∀ x, up2 t 744 A x 725 21 = nI z := fun x => by rw [up2_nk _ _ _ (by decide)]; exact t21
  refine ⟨_, rfl, rA, by rw [u21]; exact rz, by rw [u21]; exact rz, rfl, ?_⟩
  rw [u21, nI_clamp (by omega)]
  have e48 : ∀ x, up2 t 744 A x 748 z = nI a := fun x => by rw [up2_nk _ _ _ (by decide), h1 748 (by decide)]; exact a5
  rw [e48, nI_1]
  have t49 : t 749 z = nI Q.2.2.1 := by rw [h1 749 (by decide)]; exact a9
  generalize eu : up2 (up2 (up2 t 744 A (t 749 z)) 745 A (nI q.2.2.2.1.length)) 748 z (nI (a + 1)) = u
  have u0 : ∀ k, k ≠ 743 → k ≠ 744 → k ≠ 745 → k ≠ 748 → u k = s k := fun k g1 g2 g3 g4 => by rw [← eu, up2_nk _ _ _ g4, up2_nk _ _ _ g3, up2_nk _ _ _ g2, h1 k g1]
  have u3 : u 743 = t 743 := by rw [← eu, up2_nk _ _ _ (by decide), up2_nk _ _ _ (by decide), up2_nk _ _ _ (by decide)]
  have u4 : ∀ j, u 744 j = if j = A then nI Q.2.2.1 else s 744 j := fun j => by
    rw [← eu, up2_nk _ _ _ (by decide), up2_nk _ _ _ (by decide)]
    by_cases e : j = A
    · subst e; rw [up2_same, if_pos rfl, t49]
    · rw [up2_nj _ _ _ e, if_neg e, h1 744 (by decide)]
  have u5 : ∀ j, u 745 j = if j = A then nI X.2.1.length else s 745 j := fun j => by
    rw [← eu, up2_nk _ _ _ (by decide)]
    by_cases e : j = A
    · subst e; rw [up2_same, if_pos rfl, hkl]
    · rw [up2_nj _ _ _ e, if_neg e, up2_nk _ _ _ (by decide), h1 745 (by decide)]
  have u8 : u 748 = upd (s 748) z (nI (a + 1)) := by
    rw [← eu]
    funext j
    simp [up2, h1 748 (by decide)]
  have e : hx T G L s u := hx.of (fun k g1 g2 => u0 k (by omega) (by omega) (by omega) (by omega))
  have hu : hp u T G L := hh.keep e ⟨by rw [u0 725 (by decide) (by decide) (by decide) (by decide)], by rw [u0 725 (by decide) (by decide) (by decide) (by decide)], by rw [u0 725 (by decide) (by decide) (by decide) (by decide)]⟩
  have k : mK kZ jZ s u := ⟨fun x g1 g2 => u0 x (fun e => g2 (by simp [kZ, e])) (fun e => g2 (by simp [kZ, e])) (fun e => g2 (by simp [kZ, e])) (fun e => g2 (by simp [kZ, e])), fun j _ => by rw [u0 725 (by decide) (by decide) (by decide) (by decide)]⟩
  have hbr : bRow s T (s 736) := bRow_of hc.1.1.1 hh.2.2.1 hc.1.1.2.1
  refine ⟨⟨hu, ⟨by rw [u0 725 (by decide) (by decide) (by decide) (by decide)]; exact h21, hz⟩, ⟨⟨by rw [u0 746 (by decide) (by decide) (by decide) (by decide)]; exact a1, a2⟩, ⟨by rw [u0 747 (by decide) (by decide) (by decide) (by decide)]; exact a3, a4⟩, ⟨by rw [u8, show upd (s 748) z (nI (a + 1)) z = nI (a + 1) from if_pos rfl]; simp [ea], by simp; omega⟩, by rw [u0 749 (by decide) (by decide) (by decide) (by decide)]; exact a9, by rw [u0 750 (by decide) (by decide) (by decide) (by decide)]; exact a10, by rw [u0 751 (by decide) (by decide) (by decide) (by decide)]; exact a11, fun i Y hi => ?_, fun i n Y hi => ?_⟩, mTab_ext e (Nat.le_refl _) (Nat.le_refl _) htab⟩, e, ⟨k, fun y hy hne => ⟨⟨fun j _ => ⟨by rw [u0 740 (by decide) (by decide) (by decide) (by decide)], by rw [u0 741 (by decide) (by decide) (by decide) (by decide)], by rw [u0 742 (by decide) (by decide) (by decide) (by decide)]⟩, fun j _ => by rw [u0 739 (by decide) (by decide) (by decide) (by decide)], fun j hj => ?_, by rw [u0 746 (by decide) (by decide) (by decide) (by decide)], by rw [u0 747 (by decide) (by decide) (by decide) (by decide)], by rw [u8]; exact if_neg hne, by rw [u0 749 (by decide) (by decide) (by decide) (by decide)]⟩, fun j hj => ⟨by rw [u4, if_neg (by omega)], by rw [u5, if_neg (by omega)]⟩, by rw [u0 750 (by decide) (by decide) (by decide) (by decide)], by rw [u0 751 (by decide) (by decide) (by decide) (by decide)]⟩⟩⟩
  · obtain ⟨p, h9⟩ := a7 i Y hi
    exact ⟨p, h9.ext hh hu e (Nat.le_refl _) (Nat.le_refl _) (Nat.le_refl _) ⟨by rw [u0 740 (by decide) (by decide) (by decide) (by decide)], by rw [u0 741 (by decide) (by decide) (by decide) (by decide)], by rw [u0 742 (by decide) (by decide) (by decide) (by decide)]⟩ (fun j _ => by rw [u0 739 (by decide) (by decide) (by decide) (by decide)])⟩
  · by_cases hil : i < Q.2.1.length
    · have hi2 : Q.2.1[i]? = some (n, Y) := by
        have := hi
        simp only at this
        rw [List.getElem?_append_left hil] at this
        exact this
      obtain ⟨c1, c2, c3, c4⟩ := a8 i n Y hi2
      have er : ∀ j, j < 64 → u 743 (64 * (30 * z + i) + j) = s 743 (64 * (30 * z + i) + j) := fun j hj => by
        rw [u3]
        exact h3 _ (by omega)
      exact ⟨bRow_ext c1 (Nat.le_refl _) (by omega) hu.2.2.1 e.1 er, mKv_row c1 (Nat.le_refl _) (by omega) hu.2.2.1 e.1 er c2, by rw [u4, if_neg (by omega)]; exact c3, by rw [u5, if_neg (by omega)]; exact c4⟩
    · simp only at hi
      rw [List.getElem?_append_right (by omega)] at hi
      have hi0 : i = Q.2.1.length := by
        obtain ⟨z, _⟩ := List.getElem?_eq_some_iff.mp hi
        simp at z
        omega
      subst hi0
      simp at hi
      obtain ⟨rfl, rfl⟩ := hi
      have er : ∀ j, j < 64 → u 743 (64 * (30 * z + Q.2.1.length) + j) = s 736 j := fun j hj => by
        rw [u3, ea, eA]
        exact h2 j hj
      exact ⟨bRow_ext hbr (Nat.le_refl _) (by omega) hu.2.2.1 e.1 er, mKv_row hbr (Nat.le_refl _) (by omega) hu.2.2.1 e.1 er (mKv_half hc.1.1 hbr hc.2.2), by rw [u4, if_pos (by omega)], by rw [u5, if_pos (by omega)]⟩
  · rw [u3]
    exact h3 _ (by omega)
/-- how a step ends -/
def goN (tb : Tb) (R : Nat → Nat → Prop) (z : Nat) (s : rSg) (T G L Tm Gm Lm : Nat) (Q2 : Qx) (t : rSg) : Prop := ∃ T2 G2 L2 h2, RSa tb R t z T2 G2 L2 h2 Q2 ∧ (T ≤ T2 ∧ T2 ≤ Tm) ∧ (G ≤ G2 ∧ G2 ≤ Gm) ∧ (L ≤ L2 ∧ L2 ≤ Lm) ∧ hx T G L s t ∧ fy z s t
theorem fy_z {k : Nat} {s : rSg} {x : Int32} (h1 : 746 ≤ k) (h2 : k ≤ 751) : fy z s (up2 s k z x) := ⟨mK.rfl'.up (by unfold kZ; simp; omega) (by omega), fun y _ hy => by
  refine ⟨sz.up h1 (fun e => hy e.symm), fun j _ => ?_, ?_, ?_⟩
  · rw [up2_nk _ _ _ (by omega), up2_nk _ _ _ (by omega)]; exact ⟨rfl, rfl⟩
  · by_cases e : 750 = k
    · subst e; exact up2_nj _ _ _ hy
    · rw [up2_nk _ _ _ e]
  · by_cases e : 751 = k
    · subst e; exact up2_nj _ _ _ hy
    · rw [up2_nk _ _ _ e]⟩
/-- goesStep -/
theorem fs_139 (hs : RSa tb R s z T G L h Q) (hw : ¬ Q.1 = []) (ha : Q.2.1.length < 30) (hm : Q.2.2.2.2 ≤ 40) (hT : T + 2 ≤ 1400) (hG : G + 1 ≤ 1000) (hL : L + 25 ≤ 18000) : EvS rSkel 13 139 [.inr (.inr (some 725))] s (fun v t => v = none ∧ ∃ Q2, st1 tb Q Q2 ∧ Q2.2.2.2.2 ≤ 40 ∧ goN tb R z s T G L (T + 2) (G + 1) (L + 25) Q2 t) := by
  obtain ⟨hh, ⟨h21, hz⟩, ⟨⟨a1, a2⟩, ⟨a3, a4⟩, ⟨a5, a6⟩, a9, a10, a11, a7, a8⟩, htab⟩ := id hs
  have b1 := hh.1
  have rz : rIn (nI z) 2 = true := rIn_nI hz (by decide)
  obtain ⟨Q1, Qa, st, lo, mo⟩ := Q
  cases Q1 with
  | nil => exact absurd rfl hw
  | cons X rest =>
    simp only at a3 a4 a5 a6 a7 a8 a9 a10 a11 ha hm
    refine w_139 s ?_
    rw [h21, nI_clamp (by omega), a9, nI_1]
    generalize es1 : up2 s 749 z (nI (st + 1)) = s1
    have i0 : ∀ k, k ≠ 749 → s1 k = s k := fun k hk => by rw [← es1, up2_nk _ _ _ hk]
    have i9 : s1 749 z = nI (st + 1) := by rw [← es1, up2_same]
    have fq1 : fy z s s1 := by rw [← es1]; exact fy_z (by decide) (by decide)
    refine ⟨rz, rz, (ev_m_slot 0 s1 (j := 0) (by rw [i0 725 (by decide)]; exact h21) hz (by rw [i0 746 (by decide)]; exact a1) (by omega)).imp ?_⟩
    rintro _ s1 ⟨rfl, rfl⟩
    have q21 : s1 725 21 = nI z := by rw [i0 725 (by decide)]; exact h21
    have q46 : s1 746 z = nI h := by rw [i0 746 (by decide)]; exact a1
    have q47 : s1 747 z = nI (rest.length + 1) := by rw [i0 747 (by decide)]; exact a3
    rw [q21, nI_clamp (by omega), q46, q47, nI_1, show irem (nI (h + 1)) 42 = nI ((h + 1) % 42) from pk_rem (by omega) (by decide) (by decide), show nI (rest.length + 1) - 1 = nI rest.length from nI_pred _]
    refine ⟨_, rfl, rz, rz, rz, rz, ?_⟩
    generalize es2 : up2 (up2 s1 746 z (nI ((h + 1) % 42))) 747 z (nI rest.length) = s2
    have j0 : ∀ k, k ≠ 746 → k ≠ 747 → k ≠ 749 → s2 k = s k := fun k g1 g2 g3 => by rw [← es2, up2_nk _ _ _ g2, up2_nk _ _ _ g1, i0 k g3]
    have j46 : s2 746 z = nI ((h + 1) % 42) := by rw [← es2, up2_nk _ _ _ (by decide), up2_same]
    have j47 : s2 747 z = nI rest.length := by rw [← es2, up2_same]
    have j49 : s2 749 z = nI (st + 1) := by rw [← es2, up2_nk _ _ _ (by decide), up2_nk _ _ _ (by decide)]; exact i9
    have fq2 : fy z s s2 := by rw [← es2]; exact (fq1.trans (fy_z (by decide) (by decide))).trans (fy_z (by decide) (by decide))
    have e2 : hx T G L s s2 := hx.of (fun k g1 g2 => j0 k (by omega) (by omega) (by omega))
    have h2 : hp s2 T G L := hh.keep e2 ⟨by rw [j0 725 (by decide) (by decide) (by decide)], by rw [j0 725 (by decide) (by decide) (by decide)], by rw [j0 725 (by decide) (by decide) (by decide)]⟩
    have mv : ∀ i p Y, wXa tb R s T G L i p Y → wXa tb R s2 T G L i p Y := fun i p Y h9 => h9.ext hh h2 e2 (Nat.le_refl _) (Nat.le_refl _) (Nat.le_refl _) ⟨by rw [j0 740 (by decide) (by decide) (by decide)], by rw [j0 741 (by decide) (by decide) (by decide)], by rw [j0 742 (by decide) (by decide) (by decide)]⟩ (fun j _ => by rw [j0 739 (by decide) (by decide) (by decide)])
    obtain ⟨p, hp0⟩ := a7 0 X rfl
    have hsl : 42 * z + (h + 0) % 42 = 42 * z + ((h + 1) % 42 + 41) % 42 := by omega
    have hSS : SSa tb R s2 z T G L ((h + 1) % 42) (rest, Qa, st + 1, lo, mo) p X := by
      refine ⟨h2, ⟨by rw [j0 725 (by decide) (by decide) (by decide)]; exact h21, hz⟩, ⟨⟨j46, Nat.mod_lt _ (by decide)⟩, ⟨j47, by simp only [List.length_cons] at a4; simp only; omega⟩, ⟨by rw [j0 748 (by decide) (by decide) (by decide)]; exact a5, a6⟩, j49, by rw [j0 750 (by decide) (by decide) (by decide)]; exact a10, by rw [j0 751 (by decide) (by decide) (by decide)]; exact a11, fun i Y hi => ?_, fun i n Y hi => ?_⟩, by rw [← hsl]; exact mv _ p X hp0, mTab_ext e2 (Nat.le_refl _) (Nat.le_refl _) htab⟩
      · obtain ⟨p1, h9⟩ := a7 (i + 1) Y hi
        rw [show (h + (i + 1)) % 42 = ((h + 1) % 42 + i) % 42 by omega] at h9
        exact ⟨p1, mv _ p1 Y h9⟩
      · obtain ⟨c1, c2, c3, c4⟩ := a8 i n Y hi
        have er : ∀ j, j < 64 → s2 743 (64 * (30 * z + i) + j) = s 743 (64 * (30 * z + i) + j) := fun j _ => by rw [j0 743 (by decide) (by decide) (by decide)]
        exact ⟨bRow_ext c1 (Nat.le_refl _) (by omega) h2.2.2.1 e2.1 er, mKv_row c1 (Nat.le_refl _) (by omega) h2.2.2.1 e2.1 er c2, by rw [j0 744 (by decide) (by decide) (by decide)]; exact c3, by rw [j0 745 (by decide) (by decide) (by decide)]; exact c4⟩
    rw [hsl]
    refine (fs_140 hSS).imp ?_
    rintro _ t ⟨rfl, s3, c3, e3, f3⟩
    refine ⟨rfl, ?_⟩
    have es3 : hx T G L s t := e2.trans e3 (Nat.le_refl _) (Nat.le_refl _) (Nat.le_refl _)
    have fs3 : fy z s t := fq2.trans f3
    -- the greatest so far
    have fin : ∀ u T2 G2 L2 Q4, stp tb (rest, Qa, st + 1, lo, mo) X Q4 → RSa tb R u z T2 G2 L2 ((h + 1) % 42) Q4 → (T ≤ T2 ∧ T2 ≤ T + 2) → (G ≤ G2 ∧ G2 ≤ G + 1) → (L ≤ L2 ∧ L2 ≤ L + 25) → hx T G L s u → fy z s u → (rIn (u 725 21) 2 = true ∧ rIn (u 725 21) 2 = true ∧ ((u 747 ((u 725 21).toNatClampNeg)) ≤ (u 751 ((u 725 21).toNatClampNeg)) → (none : Option rv) = none ∧ ∃ Q2, st1 tb (X :: rest, Qa, st, lo, mo) Q2 ∧ Q2.2.2.2.2 ≤ 40 ∧ goN tb R z s T G L (T + 2) (G + 1) (L + 25) Q2 u) ∧ (¬ ((u 747 ((u 725 21).toNatClampNeg)) ≤ (u 751 ((u 725 21).toNatClampNeg))) → (rIn (u 725 21) 2 = true ∧ rIn (u 725 21) 2 = true ∧ (none : Option rv) = none ∧ ∃ Q2, st1 tb (X :: rest, Qa, st, lo, mo) Q2 ∧ Q2.2.2.2.2 ≤ 40 ∧ goN tb R z s T G L (T + 2) (G + 1) (L + 25) Q2 (up2 u 751 ((u 725 21).toNatClampNeg) (u 747 ((u 725 21).toNatClampNeg)))))) := by
      intro u T2 G2 L2 Q4 hstp r1 r2 r3 r4 r5 r6
      obtain ⟨hu, ⟨u21, _⟩, ⟨v1, v2, v3, v4, v5, v6, v7, v8⟩, utab⟩ := id r1
      have hm4 : Q4.2.2.2.2 = mo := stp_most hstp
      have hst1 : st1 tb (X :: rest, Qa, st, lo, mo) (Q4.1, Q4.2.1, Q4.2.2.1, Q4.2.2.2.1, max Q4.2.2.2.2 Q4.1.length) := ⟨X, rest, Q4, rfl, ha, hstp, rfl⟩
      rw [u21, nI_clamp (by omega), v2.1, v6]
      refine ⟨rz, rz, fun q => ⟨rfl, _, hst1, by have := v2.2; simp only; omega, T2, G2, L2, _, ⟨hu, r1.2.1, ⟨v1, v2, v3, v4, v5, ?_, v7, v8⟩, utab⟩, r2, r3, r4, r5, r6⟩, fun q => ⟨rz, rz, rfl, _, hst1, by have := v2.2; simp only; omega, T2, G2, L2, (h + 1) % 42, ?_, r2, r3, r4, r5.trans (hx.of (T := T) (G := G) (L := L) (fun q g1 g2 => up2_nk _ _ _ (by omega))) (Nat.le_refl _) (Nat.le_refl _) (Nat.le_refl _), r6.trans (fy_z (by decide) (by decide))⟩⟩
      · have := (nI_leI (by have := v2.2; omega) (by omega)).mp q
        rw [v6]
        simp only
        rw [Nat.max_eq_left this]
      · have q9 : ¬ Q4.1.length ≤ Q4.2.2.2.2 := fun w => q ((nI_leI (by have := v2.2; omega) (by omega)).mpr w)
        have e9 : hx T2 G2 L2 u (up2 u 751 z (nI Q4.1.length)) := hx.of (fun q g1 g2 => up2_nk _ _ _ (by omega))
        have hu2 : hp (up2 u 751 z (nI Q4.1.length)) T2 G2 L2 := hu.keep e9 ⟨by rw [up2_nk _ _ _ (by decide)], by rw [up2_nk _ _ _ (by decide)], by rw [up2_nk _ _ _ (by decide)]⟩
        have m0 : ∀ k, k ≠ 751 → (up2 u 751 z (nI Q4.1.length)) k = u k := fun k hk => up2_nk _ _ _ hk
        have m1 : (up2 u 751 z (nI Q4.1.length)) 751 z = nI Q4.1.length := up2_same _ _ _ _
        generalize up2 u 751 z (nI Q4.1.length) = w at e9 hu2 m0 m1
        refine ⟨hu2, ⟨by rw [m0 725 (by decide)]; exact u21, hz⟩, ⟨by rw [m0 746 (by decide)]; exact v1, by rw [m0 747 (by decide)]; exact v2, by rw [m0 748 (by decide)]; exact v3, by rw [m0 749 (by decide)]; exact v4, by rw [m0 750 (by decide)]; exact v5, ?_, fun i Y hi => ?_, fun i n Y hi => ?_⟩, mTab_ext e9 (Nat.le_refl _) (Nat.le_refl _) utab⟩
        · simp only
          rw [m1, Nat.max_eq_right (by omega)]
        · obtain ⟨p1, h9⟩ := v7 i Y hi
          exact ⟨p1, h9.ext hu hu2 e9 (Nat.le_refl _) (Nat.le_refl _) (Nat.le_refl _) ⟨by rw [m0 740 (by decide)], by rw [m0 741 (by decide)], by rw [m0 742 (by decide)]⟩ (fun j _ => by rw [m0 739 (by decide)])⟩
        · obtain ⟨c1, c2, c3, c4⟩ := v8 i n Y hi
          have er : ∀ j, j < 64 → w 743 (64 * (30 * z + i) + j) = u 743 (64 * (30 * z + i) + j) := fun j _ => by rw [m0 743 (by decide)]
          exact ⟨bRow_ext c1 (Nat.le_refl _) (by have := hu2.1; omega) hu2.2.2.1 e9.1 er, mKv_row c1 (Nat.le_refl _) (by have := hu2.1; omega) hu2.2.2.1 e9.1 er c2, by rw [m0 744 (by decide)]; exact c3, by rw [m0 745 (by decide)]; exact c4⟩
    obtain ⟨d0, gF, k, ks, f⟩ := p
    obtain ⟨td, kx, nv, K⟩ := X
    have t18 : t 725 18 = nI d0 := c3.1.2.1
    have hd := c3.1.2.2.2.2.2.1
    have hits := c3.2.1.1
    simp only at hd hits
    cases gF with
    | nil =>
      obtain rfl : d0 = 0 := hd
      rw [t18]
      refine ⟨fun q => absurd rfl q, fun _ => (fs_141 ⟨s3.1, s3.2.1, s3.2.2.1, s3.2.2.2.2⟩ c3 ha).imp ?_⟩
      rintro _ u ⟨rfl, r1, r2, r3⟩
      have htd : td = [] := List.eq_nil_of_length_eq_zero (mIts_len hits).symm
      subst htd
      exact ⟨rfl, fin u T G L _ rfl r1 ⟨Nat.le_refl _, by omega⟩ ⟨Nat.le_refl _, by omega⟩ ⟨Nat.le_refl _, by omega⟩ (es3.trans r2 (Nat.le_refl _) (Nat.le_refl _) (Nat.le_refl _)) (fs3.trans r3)⟩
    | cons g gs =>
      cases td with
      | nil => exact hits.elim
      | cons it td =>
        obtain ⟨g1, g2, g3, g4, r, g5, g6, g7⟩ := id hd
        rw [t18, nI_clamp (by omega), g3, g5]
        have rd : rIn (nI d0) 20000 = true := rIn_nI (by omega) (by decide)
        refine ⟨fun _ => ⟨rd, rd, ?_⟩, fun q => absurd (fun w => by have := (nI_eq (b := 0) (by omega) (by decide)).mp w; omega) q⟩
        have hc4 : cXa tb R (up2 t 725 18 (nI r)) T G L (r, gs, k, ks, f) (td, kx, nv, K) := c3.do s3.1 g7 (by simp only [nhs_cons]; omega) hits.2
        have s4 := s3.up (j := 18) (x := nI r) (by omega)
        refine (fs_143 s4 hc4 hT hG hL).imp ?_
        rintro _ u ⟨rfl, Q4, w1, T2, G2, L2, w2, w3, w4, w5, w6, w7⟩
        refine ⟨rfl, fin u T2 G2 L2 Q4 w1 ⟨w2.1, w2.2.1, w2.2.2.1, w2.2.2.2.2⟩ w3 w4 w5 ((es3.trans (hx_up (T := T) (G := G) (L := L)) (Nat.le_refl _) (Nat.le_refl _) (Nat.le_refl _)).trans w6 (Nat.le_refl _) (Nat.le_refl _) (Nat.le_refl _)) ((fs3.trans (fy_up (by omega))).trans w7)⟩
end
