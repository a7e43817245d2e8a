/-! THE REFERENCE: an answer comes; a step; steps -/
theorem kel_chn {s : rSg} {T L : Nat} (hL : L ≤ 20000) : ∀ {ks : List (Nat × Nat)} {l : Nat}, kel s T L l ks → chn (s 735) ks.length l
  | [], _, h => h
  | _ :: ks, l, ⟨h1, h2, _, _, _, _, r, h7, _, h9⟩ => ⟨h1, by omega, r, h7, kel_chn hL h9⟩
theorem dol_chn {s : rSg} {G L : Nat} (hL : L ≤ 20000) : ∀ {gs : List Nat} {l : Nat}, dol s G L l gs → chn (s 735) gs.length l
  | [], _, h => h
  | _ :: gs, l, ⟨h1, h2, _, _, r, h7, _, h9⟩ => ⟨h1, by omega, r, h7, dol_chn hL h9⟩
theorem kel_len {s : rSg} {T L : Nat} : ∀ {ks : List (Nat × Nat)} {l : Nat}, kel s T L l ks → ks.length ≤ l
  | [], _, _ => Nat.zero_le _
  | _ :: ks, l, ⟨h1, h2, _, _, _, _, r, _, h8, h9⟩ => by have := kel_len h9; simp only [List.length_cons]; omega
theorem dol_len {s : rSg} {G L : Nat} : ∀ {gs : List Nat} {l : Nat}, dol s G L l gs → gs.length ≤ l
  | [], _, _ => Nat.zero_le _
  | _ :: gs, l, ⟨h1, h2, _, _, r, _, h8, h9⟩ => by have := dol_len h9; simp only [List.length_cons]; omega
/-- between steps -/
def RS (s : rSg) (z T G L h w a : Nat) : Prop := hp s T G L ∧ (s 725 21 = nI z ∧ z < 2) ∧ sea s z T G L h w a
/-- the frame of steps -/
def fq (z : Nat) (s t : rSg) : Prop := mK kZ jZ s t ∧ ∀ y, y < 2 → y ≠ z → sz y s t
theorem fq.rfl' {z : Nat} {s : rSg} : fq z s s := ⟨mK.rfl', fun _ _ _ => sz.rfl'⟩
theorem fq.trans {z : Nat} {s t u : rSg} (h1 : fq z s t) (h2 : fq z t u) : fq z s u := ⟨h1.1.trans h2.1, fun y a b => (h1.2 y a b).trans (h2.2 y a b)⟩
theorem fz.q {z : Nat} {s t : rSg} (h : fz z s t) : fq z s t := ⟨h.1, h.2.1⟩
theorem sz.up {y k j : Nat} {s : rSg} {x : Int32} (hk : 746 ≤ k) (hj : j ≠ y) : sz y s (up2 s k j x) := by
  have e : ∀ q, q < 746 → up2 s k j x q = s q := fun q hq => up2_nk _ _ _ (by omega)
  have e2 : ∀ q, up2 s k j x q y = s q y := fun q => by
    by_cases h : q = k
    · subst h; exact up2_nj _ _ _ (fun e => hj e.symm)
    · rw [up2_nk _ _ _ h]
  exact ⟨fun i _ => by rw [e 740 (by decide), e 741 (by decide), e 742 (by decide)]; exact ⟨rfl, rfl, rfl⟩, fun i _ => by rw [e 739 (by decide)], fun i _ => by rw [e 743 (by decide)], e2 746, e2 747, e2 748, e2 749⟩
theorem fq_up {z k : Nat} {s : rSg} {x : Int32} (h1 : 746 ≤ k) (h2 : k ≤ 751) : fq z s (up2 s k z x) := ⟨mK.rfl'.up (by unfold kZ; simp; omega) (by omega), fun y _ hy => sz.up h1 (fun e => hy e.symm)⟩
theorem ms_141b {s0 : rSg} {A : Nat} (hA : A < 60) {P : Option rv → rSg → Prop} (hP : ∀ t, (∀ q, q ≠ 743 → t q = s0 q) → (∀ j, j < 64 → t 743 (64 * A + j) = s0 736 j) → (∀ j, j < 64 * A ∨ 64 * A + 64 ≤ j → t 743 j = s0 743 j) → g_141_20 (nI A) (nI 64) t P) : ∀ (n y : Nat) (t : rSg), y + n = 64 → (∀ q, q ≠ 743 → t q = s0 q) → (∀ j, j < y → t 743 (64 * A + j) = s0 736 j) → (∀ j, j < 64 * A ∨ 64 * A + 64 ≤ j → t 743 j = s0 743 j) → g_141_20 (nI A) (nI y) t P := by
  intro n
  induction n with
  | zero =>
    intro y t hy h1 h2 h3
    obtain rfl : y = 64 := by omega
    exact hP t h1 h2 h3
  | succ n ih =>
    intro y t hy h1 h2 h3
    refine w_141_20 t _ _ ⟨fun q => absurd ((nI_leI (a := 64) (by decide) (by omega)).mp q) (by omega), fun _ => ?_⟩
    have e : 64 * nI A + nI y = nI (64 * A + y) := by rw [show (64 : Int32) = nI 64 from rfl, pk_mul, nI_add]
    rw [e, nI_clamp (by omega), nI_clamp (by omega), nI_1]
    refine ⟨rIn_nI (by omega) (by decide), rIn_nI (by omega) (by decide), ih (y + 1) _ (by omega) (fun q hq => ?_) (fun j hj => ?_) (fun j hj => ?_)⟩
    · rw [up2_nk _ _ _ hq]; exact h1 q hq
    · by_cases hjy : j = y
      · subst hjy
        rw [up2_same, h1 736 (by decide)]
      · rw [up2_nj _ _ _ (by omega)]; exact h2 j (by omega)
    · rw [up2_nj _ _ _ (by omega)]; exact h3 j hj
/-- comesAnswer -/
theorem ms_141 {s : rSg} {z T G L h w a : Nat} {q : stP} (hs : RS s z T G L h w a) (hc : cX s T G L q) (ha : a < 30) : EvS rSkel 2 141 [.inr (.inr (some 725))] s (fun v t => v = none ∧ RS t z T G L h w (a + 1) ∧ hx T G L s t ∧ fz z s t) := by
  obtain ⟨hh, ⟨h21, hz⟩, ⟨⟨a1, a2⟩, ⟨a3, a4⟩, ⟨a5, a6⟩, a7, a8⟩⟩ := id hs
  have b1 := hh.1
  have rz : rIn (nI z) 2 = true := rIn_nI hz (by decide)
  have ev : (30 * nI z) + nI a = nI (30 * z + a) := by rw [show (30 : Int32) = nI 30 from rfl, pk_mul, nI_add]
  generalize eA : 30 * z + a = A
  have hA : A < 60 := by omega
  refine w_141 s ?_
  rw [h21, nI_clamp (by omega), a5, ev, eA]
  refine ⟨rz, ms_141b hA (fun t h1 h2 h3 => ?_) 64 0 s rfl (fun _ _ => rfl) (fun j hj => absurd hj (by omega)) (fun _ _ => rfl)⟩
  have t21 : t 725 21 = nI z := by rw [h1 725 (by decide)]; exact h21
  have t19 : t 725 19 = nI q.2.2.1 := by rw [h1 725 (by decide)]; exact hc.2.2.1
  refine w_141_20 t _ _ ⟨fun _ => ?_, fun q => absurd (nI_le (a := 64) (b := 64) (by decide) (by decide)) q⟩
  rw [t21, nI_clamp (by omega), nI_clamp (by omega), t19]
  have rA : rIn (nI A) 60 = true := rIn_nI hA (by decide)
  refine ⟨rz, rA, (ev_m_lengthOf 0 _ (n := q.2.2.2.1.length) ?_ ?_).imp ?_⟩
  · rw [up2_nk _ _ _ (by decide), h1 735 (by decide)]
    exact kel_chn (by omega) hc.2.2.2.2.2.2.1
  · have := hc.2.2.2.2.2.2.2; omega
  rintro _ _ ⟨rfl, rfl⟩
  have u21 : ∀ x, up2 t 744 A x 725 21 = nI z := fun x => by rw [up2_nk _ _ _ (by decide)]; exact t21
  refine ⟨_, rfl, rA, by rw [u21]; exact rz, by rw [u21]; exact rz, rfl, ?_⟩
  rw [u21, nI_clamp (by omega)]
  have e48 : ∀ x, up2 t 744 A x 748 z = nI a := fun x => by rw [up2_nk _ _ _ (by decide), h1 748 (by decide)]; exact a5
  rw [e48, nI_1]
  generalize eu : up2 (up2 (up2 t 744 A (t 749 z)) 745 A (nI q.2.2.2.1.length)) 748 z (nI (a + 1)) = u
  have u0 : ∀ k, k ≠ 743 → k ≠ 744 → k ≠ 745 → k ≠ 748 → u k = s k := fun k g1 g2 g3 g4 => by rw [← eu, up2_nk _ _ _ g4, up2_nk _ _ _ g3, up2_nk _ _ _ g2, h1 k g1]
  have u3 : u 743 = t 743 := by rw [← eu, up2_nk _ _ _ (by decide), up2_nk _ _ _ (by decide), up2_nk _ _ _ (by decide)]
  have u8 : u 748 = upd (s 748) z (nI (a + 1)) := by
    rw [← eu]
    funext j
    simp [up2, h1 748 (by decide)]
  have e : hx T G L s u := hx.of (fun k g1 g2 => u0 k (by omega) (by omega) (by omega) (by omega))
  have hu : hp u T G L := hh.keep e ⟨by rw [u0 725 (by decide) (by decide) (by decide) (by decide)], by rw [u0 725 (by decide) (by decide) (by decide) (by decide)], by rw [u0 725 (by decide) (by decide) (by decide) (by decide)]⟩
  have k : mK kZ jZ s u := ⟨fun x g1 g2 => u0 x (fun e => g2 (by simp [kZ, e])) (fun e => g2 (by simp [kZ, e])) (fun e => g2 (by simp [kZ, e])) (fun e => g2 (by simp [kZ, e])), fun j _ => by rw [u0 725 (by decide) (by decide) (by decide) (by decide)]⟩
  refine ⟨⟨hu, ⟨by rw [u0 725 (by decide) (by decide) (by decide) (by decide)]; exact h21, hz⟩, ⟨⟨by rw [u0 746 (by decide) (by decide) (by decide) (by decide)]; exact a1, a2⟩, ⟨by rw [u0 747 (by decide) (by decide) (by decide) (by decide)]; exact a3, a4⟩, ⟨by rw [u8]; exact if_pos rfl, by omega⟩, fun i hi => ?_, fun i hi => ?_⟩⟩, e, ⟨k, fun y hy hne => ?_, by rw [u0 749 (by decide) (by decide) (by decide) (by decide)]⟩⟩
  · obtain ⟨p, h9⟩ := a7 i hi
    exact ⟨p, h9.ext hh hu e (Nat.le_refl _) (Nat.le_refl _) (Nat.le_refl _) ⟨by rw [u0 740 (by decide) (by decide) (by decide) (by decide)], by rw [u0 741 (by decide) (by decide) (by decide) (by decide)], by rw [u0 742 (by decide) (by decide) (by decide) (by decide)]⟩ (fun j _ => by rw [u0 739 (by decide) (by decide) (by decide) (by decide)])⟩
  · by_cases hia : i = a
    · subst hia
      refine bRow_ext (bRow_of hc.1.1 hh.2.2.1 hc.1.2.1) (Nat.le_refl _) (by omega) hu.2.2.1 e.1 (fun j hj => ?_)
      rw [u3, eA]
      exact h2 j hj
    · refine bRow_ext (a8 i (by omega)) (Nat.le_refl _) (by omega) hu.2.2.1 e.1 (fun j hj => ?_)
      rw [u3]
      exact h3 _ (by omega)
  · refine ⟨fun j _ => ⟨by rw [u0 740 (by decide) (by decide) (by decide) (by decide)], by rw [u0 741 (by decide) (by decide) (by decide) (by decide)], by rw [u0 742 (by decide) (by decide) (by decide) (by decide)]⟩, fun j _ => by rw [u0 739 (by decide) (by decide) (by decide) (by decide)], fun j hj => ?_, by rw [u0 746 (by decide) (by decide) (by decide) (by decide)], by rw [u0 747 (by decide) (by decide) (by decide) (by decide)], by rw [u8]; exact if_neg hne, by rw [u0 749 (by decide) (by decide) (by decide) (by decide)]⟩
    rw [u3]
    exact h3 _ (by omega)
/-- how steps end -/
def go3 (z : Nat) (s : rSg) (T G L Tm Gm Lm : Nat) (t : rSg) : Prop := ∃ T2 G2 L2 h2 w2 a2, RS t z T2 G2 L2 h2 w2 a2 ∧ (T ≤ T2 ∧ T2 ≤ Tm) ∧ (G ≤ G2 ∧ G2 ≤ Gm) ∧ (L ≤ L2 ∧ L2 ≤ Lm) ∧ hx T G L s t ∧ fq z s t
theorem RS.up751 {s : rSg} {z T G L h w a : Nat} {x : Int32} (hs : RS s z T G L h w a) (k : Nat) (hk : k = 750 ∨ k = 751) : RS (up2 s k z x) z T G L h w a := by
  have e : hx T G L s (up2 s k z x) := hx.of (fun q g1 g2 => up2_nk _ _ _ (by omega))
  have ht := hs.1.keep e ⟨by rw [up2_nk _ _ _ (by omega)], by rw [up2_nk _ _ _ (by omega)], by rw [up2_nk _ _ _ (by omega)]⟩
  exact ⟨ht, ⟨by rw [up2_nk _ _ _ (by omega)]; exact hs.2.1.1, hs.2.1.2⟩, hs.2.2.ext hs.1 ht e (Nat.le_refl _) (Nat.le_refl _) (Nat.le_refl _) (sz.of (fun q g1 g2 => up2_nk _ _ _ (by omega)))⟩
/-- goesStep -/
theorem ms_139 {s : rSg} {z T G L h w a : Nat} (hs : RS s z T G L h w a) (hw : 0 < w) (ha : a < 30) (hT : T + 2 ≤ 1400) (hG : G + 1 ≤ 1000) (hL : L + 25 ≤ 18000) : EvS rSkel 13 139 [.inr (.inr (some 725))] s (fun v t => v = none ∧ go3 z s T G L (T + 2) (G + 1) (L + 25) t ∧ t 749 z = s 749 z + 1) := by
  obtain ⟨hh, ⟨h21, hz⟩, ⟨⟨a1, a2⟩, ⟨a3, a4⟩, ⟨a5, a6⟩, a7, a8⟩⟩ := id hs
  have b1 := hh.1
  have rz : rIn (nI z) 2 = true := rIn_nI hz (by decide)
  refine w_139 s ?_
  rw [h21, nI_clamp (by omega)]
  generalize es1 : up2 s 749 z (s 749 z + 1) = s1
  have i0 : ∀ k, k ≠ 749 → s1 k = s k := fun k hk => by rw [← es1, up2_nk _ _ _ hk]
  have i9 : s1 749 z = s 749 z + 1 := by rw [← es1, up2_same]
  have fq1 : fq z s s1 := by rw [← es1]; exact fq_up (by decide) (by decide)
  refine ⟨rz, rz, (ev_m_slot 0 s1 (j := 0) (by rw [i0 725 (by decide)]; exact h21) hz (by rw [i0 746 (by decide)]; exact a1) (by omega)).imp ?_⟩
  rintro _ s1 ⟨rfl, rfl⟩
  have q21 : s1 725 21 = nI z := by rw [i0 725 (by decide)]; exact h21
  have q46 : s1 746 z = nI h := by rw [i0 746 (by decide)]; exact a1
  have q47 : s1 747 z = nI w := by rw [i0 747 (by decide)]; exact a3
  rw [q21, nI_clamp (by omega), q46, q47, nI_1, show irem (nI (h + 1)) 42 = nI ((h + 1) % 42) from pk_rem (by omega) (by decide) (by decide), show nI w - 1 = nI (w - 1) from by obtain ⟨v, rfl⟩ : ∃ v, w = v + 1 := ⟨w - 1, by omega⟩; exact nI_pred v]
  refine ⟨_, rfl, rz, rz, rz, rz, ?_⟩
  generalize es2 : up2 (up2 s1 746 z (nI ((h + 1) % 42))) 747 z (nI (w - 1)) = s2
  have j0 : ∀ k, k ≠ 746 → k ≠ 747 → k ≠ 749 → s2 k = s k := fun k g1 g2 g3 => by rw [← es2, up2_nk _ _ _ g2, up2_nk _ _ _ g1, i0 k g3]
  have j46 : s2 746 z = nI ((h + 1) % 42) := by rw [← es2, up2_nk _ _ _ (by decide), up2_same]
  have j47 : s2 747 z = nI (w - 1) := by rw [← es2, up2_same]
  have j49 : s2 749 z = s 749 z + 1 := by rw [← es2, up2_nk _ _ _ (by decide), up2_nk _ _ _ (by decide)]; exact i9
  have fq2 : fq z s s2 := by rw [← es2]; exact (fq1.trans (fq_up (by decide) (by decide))).trans (fq_up (by decide) (by decide))
  have e2 : hx T G L s s2 := hx.of (fun k g1 g2 => j0 k (by omega) (by omega) (by omega))
  have h2 : hp s2 T G L := hh.keep e2 ⟨by rw [j0 725 (by decide) (by decide) (by decide)], by rw [j0 725 (by decide) (by decide) (by decide)], by rw [j0 725 (by decide) (by decide) (by decide)]⟩
  have mv : ∀ i p, wX s T G L i p → wX s2 T G L i p := fun i p h9 => h9.ext hh h2 e2 (Nat.le_refl _) (Nat.le_refl _) (Nat.le_refl _) ⟨by rw [j0 740 (by decide) (by decide) (by decide)], by rw [j0 741 (by decide) (by decide) (by decide)], by rw [j0 742 (by decide) (by decide) (by decide)]⟩ (fun j _ => by rw [j0 739 (by decide) (by decide) (by decide)])
  obtain ⟨p, hp0⟩ := a7 0 hw
  have hsl : 42 * z + (h + 0) % 42 = 42 * z + ((h + 1) % 42 + 41) % 42 := by omega
  have hSS : SS s2 z T G L ((h + 1) % 42) (w - 1) a p := by
    refine ⟨h2, ⟨by rw [j0 725 (by decide) (by decide) (by decide)]; exact h21, hz⟩, ⟨⟨j46, Nat.mod_lt _ (by decide)⟩, ⟨j47, by omega⟩, ⟨by rw [j0 748 (by decide) (by decide) (by decide)]; exact a5, a6⟩, fun i hi => ?_, fun i hi => ?_⟩, by rw [← hsl]; exact mv _ p hp0⟩
    · obtain ⟨p1, h9⟩ := a7 (i + 1) (by omega)
      rw [show (h + (i + 1)) % 42 = ((h + 1) % 42 + i) % 42 by omega] at h9
      exact ⟨p1, mv _ p1 h9⟩
    · exact bRow_ext (a8 i hi) (Nat.le_refl _) (by omega) h2.2.2.1 e2.1 (fun j _ => by rw [j0 743 (by decide) (by decide) (by decide)])
  rw [hsl]
  refine (ms_140 hSS).imp ?_
  rintro _ t ⟨rfl, s3, c3, e3, f3⟩
  refine ⟨rfl, ?_⟩
  have es3 : hx T G L s t := e2.trans e3 (Nat.le_refl _) (Nat.le_refl _) (Nat.le_refl _)
  have fs3 : fq z s t := fq2.trans f3.q
  have t49 : t 749 z = s 749 z + 1 := by rw [f3.2.2]; exact j49
  have fin : ∀ u, go3 z s T G L (T + 2) (G + 1) (L + 25) u → u 749 z = s 749 z + 1 → (rIn (u 725 21) 2 = true ∧ rIn (u 725 21) 2 = true ∧ ((u 747 ((u 725 21).toNatClampNeg)) ≤ (u 751 ((u 725 21).toNatClampNeg)) → (none : Option rv) = none ∧ go3 z s T G L (T + 2) (G + 1) (L + 25) u ∧ u 749 z = s 749 z + 1) ∧ (¬ ((u 747 ((u 725 21).toNatClampNeg)) ≤ (u 751 ((u 725 21).toNatClampNeg))) → (rIn (u 725 21) 2 = true ∧ rIn (u 725 21) 2 = true ∧ (none : Option rv) = none ∧ go3 z s T G L (T + 2) (G + 1) (L + 25) (up2 u 751 ((u 725 21).toNatClampNeg) (u 747 ((u 725 21).toNatClampNeg))) ∧ (up2 u 751 ((u 725 21).toNatClampNeg) (u 747 ((u 725 21).toNatClampNeg))) 749 z = s 749 z + 1))) := by
    intro u hg h49
    obtain ⟨T2, G2, L2, h2, w2, a2, r1, r2, r3, r4, r5, r6⟩ := id hg
    rw [r1.2.1.1, nI_clamp (by omega)]
    refine ⟨rz, rz, fun _ => ⟨rfl, hg, h49⟩, fun _ => ⟨rz, rz, rfl, ⟨T2, G2, L2, h2, w2, a2, r1.up751 751 (Or.inr rfl), r2, r3, r4, r5.trans (hx.of (T := T) (G := G) (L := L) (fun q g1 g2 => up2_nk _ _ _ (by omega))) (Nat.le_refl _) (Nat.le_refl _) (Nat.le_refl _), r6.trans (fq_up (by decide) (by decide))⟩, by rw [up2_nk _ _ _ (by decide)]; exact h49⟩⟩
  obtain ⟨d0, gF, k, ks, f⟩ := p
  have t18 : t 725 18 = nI d0 := c3.2.1
  have hd := c3.2.2.2.2.2.1
  simp only at hd
  cases gF with
  | nil =>
    obtain rfl : d0 = 0 := hd
    rw [t18]
    refine ⟨fun q => absurd rfl q, fun _ => (ms_141 (h := (h + 1) % 42) (w := w - 1) ⟨s3.1, s3.2.1, s3.2.2.1⟩ c3 ha).imp ?_⟩
    rintro _ u ⟨rfl, r1, r2, r3⟩
    exact ⟨rfl, fin u ⟨T, G, L, _, _, _, r1, ⟨Nat.le_refl _, by omega⟩, ⟨Nat.le_refl _, by omega⟩, ⟨Nat.le_refl _, by omega⟩, es3.trans r2 (Nat.le_refl _) (Nat.le_refl _) (Nat.le_refl _), fs3.trans r3.q⟩ (by rw [r3.2.2]; exact t49)⟩
  | cons g gs =>
    obtain ⟨g1, g2, g3, g4, r, g5, g6, g7⟩ := hd
    have rd0 : rIn (nI d0) 20000 = true := rIn_nI (by omega) (by decide)
    rw [t18, nI_clamp (by omega), g3, g5]
    refine ⟨fun _ => ⟨rd0, rd0, ?_⟩, fun q => absurd (fun e => absurd ((nI_eq (b := 0) (by omega) (by decide)).mp e) (by omega)) q⟩
    have c4 := c3.do s3.1 (d := r) (gs := gs) g7 (by simp only [nhs_cons]; omega)
    refine (ms_143 (s3.up (by omega)) c4 hT hG hL).imp ?_
    rintro _ u ⟨rfl, T2, G2, L2, w2, r1, r2, r3, r4, r5, r6⟩
    refine ⟨rfl, fin u ⟨T2, G2, L2, _, _, _, ⟨r1.1, r1.2.1, r1.2.2.1⟩, r2, r3, r4, (es3.trans (hx_up (T := T) (G := G) (L := L)) (Nat.le_refl _) (Nat.le_refl _) (Nat.le_refl _)).trans r5 (Nat.le_refl _) (Nat.le_refl _) (Nat.le_refl _), (fs3.trans (fz_up (by omega)).q).trans r6.q⟩ ?_⟩
    rw [r6.2.2, up2_nk _ _ _ (by decide)]
    exact t49
