/-! THE CLASS's READER, with what it writes: one sign -/
theorem up2_row (s : rSg) (k j : Nat) (x : Int32) : up2 s k j x k = upd (s k) j x := if_pos rfl
theorem cro.of {s t : rSg} {sl : List Slt} (h : cro s sl) (e4 : t 678 4 = s 678 4) (e : ∀ k, 679 ≤ k → k ≤ 681 → t k = s k) : cro t sl := ⟨by rw [e4]; exact h.1, csl_ext (fun j _ => by rw [e 679 (by omega) (by omega), e 680 (by omega) (by omega), e 681 (by omega) (by omega)]; exact ⟨rfl, rfl, rfl⟩) h.2⟩
theorem slA_ad {ng np : Nat} {x : Slt} (h : slA ng np x) {k j : Nat} (he : x.2.2.2 = some (k, j)) : k = 233 ∨ k = 234 := by
  rcases h with ⟨_, h2⟩ | ⟨o, p, _, _, _, _, h5⟩ | ⟨q, p, _, _, _, _, _, h5⟩
  · rw [h2] at he; cases he
  · rw [h5] at he; cases he; exact Or.inl rfl
  · rw [h5] at he; cases he; exact Or.inr rfl
theorem pu_ne {ng np : Nat} {x : Slt} (h : slA ng np x) (s : rSg) (e : Int32) {q : Nat} (h1 : q ≠ 233) (h2 : q ≠ 234) : pu s x.2.2.2 e q = s q := by
  cases ha : x.2.2.2 with
  | none => rfl
  | some a =>
    obtain ⟨k, j⟩ := a
    have := slA_ad h ha
    exact up2_nk _ _ _ (by omega)
theorem pu_cong {s t : rSg} {ad : Option (Nat × Nat)} {e : Int32} {q : Nat} (h : s q = t q) : pu s ad e q = pu t ad e q := by
  cases ad with
  | none => exact h
  | some a =>
    obtain ⟨k, j⟩ := a
    simp only [pu, up2]
    by_cases hq : q = k
    · subst hq; rw [if_pos rfl, if_pos rfl, h]
    · rw [if_neg hq, if_neg hq, h]
/-- the script's rows are so -/
def arr (t u : rSg) : Prop := t 232 = u 232 ∧ t 233 = u 233 ∧ t 234 = u 234
theorem ct_9 {s : rSg} {x : Slt} {sl : List Slt} {ng nt np : Nat} (hs : crd s sl ng nt np) (hg : ng < 24) (hl : sl.length < 192) (hx : slA ng np x) (hw : x.1 = 103) {c : Int32} (hc : gSg c) (i : Int32) : EvS rSkel 2 9 [.inr (.inr (some 678)), .inl c, .inl i, .inl x.2.1, .inl x.2.2.1] s (fun v t => v = some (.inl 1) ∧ crd t (gsl (if c = 38 ∨ c = 124 then 103 else 116) ng (gAw c).length 0 ++ sl) (ng + 1) nt np ∧ rd s t ∧ arr t (pu (up2 s 232 ng c) x.2.2.2 (nI ng))) := by
  obtain ⟨a0, a5, a6, a7, b3, b4⟩ := hs
  have hlen := gAw_len c
  refine w_9 s c _ _ _ ((cs_10 s c).imp ?_)
  rintro v s' ⟨⟨_, rfl⟩ | ⟨q, _⟩, rfl⟩
  · refine ⟨_, rfl, fun _ => ⟨fun _ => ?_, fun q => absurd (by rw [a5, nI_1]; exact (nI_leI (b := 24) (by omega) (by decide)).mpr (by omega)) q⟩, fun q => absurd (Int32.not_lt.mp (nI_pos (by omega))) q⟩
    rw [a5, nI_1]
    generalize eu : up2 s' 678 5 (nI (ng + 1)) = u
    have u0 : ∀ q, q ≠ 678 → u q = s' q := fun q hq => by rw [← eu, up2_nk _ _ _ hq]
    have uj : ∀ j, j ≠ 5 → u 678 j = s' 678 j := fun j hj => by rw [← eu, up2_nj _ _ _ hj]
    have u5 : u 678 5 = nI (ng + 1) := by rw [← eu, up2_same]
    refine w_9_45 u c _ _ _ ⟨fun q => absurd (by rw [uj 7 (by decide)]; exact a7) q, fun _ => (ce_21 scr231 u (g := ng) (by rw [u0 231 (by decide)]; exact b3) (by omega) c).imp ?_⟩
    rintro _ _ ⟨rfl, rfl⟩
    generalize e1 : up2 (up2 u (231 + 1) ng c) 231 3 (nI (ng + 1)) = t1
    have p0 : ∀ q, q ≠ 231 → q ≠ 232 → t1 q = u q := fun q h1 h2 => by rw [← e1, up2_nk _ _ _ h1, up2_nk _ _ _ h2]
    have p2 : t1 232 = up2 s' 232 ng c 232 := by
      rw [← e1, up2_nk _ _ _ (by decide)]
      show upd (u 232) ng c = upd (s' 232) ng c
      rw [u0 232 (by decide)]
    have p3 : t1 231 3 = nI (ng + 1) := by rw [← e1, up2_same]
    have p4 : t1 231 4 = nI np := by rw [← e1, up2_nj _ _ _ (by decide), up2_nk _ _ _ (by decide), u0 231 (by decide)]; exact b4
    refine ⟨_, rfl, (ct_22 (by omega) hx hw t1 (nI ng)).imp ?_⟩
    rintro _ _ ⟨rfl, rfl⟩
    have hx1 : ∀ q, q ≠ 233 → q ≠ 234 → pu t1 x.2.2.2 (nI ng) q = t1 q := fun q h1 h2 => pu_ne hx t1 (nI ng) h1 h2
    have g3 : ∀ q, q = 233 ∨ q = 234 → pu t1 x.2.2.2 (nI ng) q = pu (up2 s' 232 ng c) x.2.2.2 (nI ng) q := fun q hq => pu_cong (by rw [p0 q (by omega) (by omega), u0 q (by omega), up2_nk _ _ _ (by omega)])
    have g2 : pu (up2 s' 232 ng c) x.2.2.2 (nI ng) 232 = up2 s' 232 ng c 232 := pu_ne hx _ (nI ng) (by decide) (by decide)
    generalize pu t1 x.2.2.2 (nI ng) = t2 at hx1 g3
    have c2 : cro t2 sl := a0.of (by rw [hx1 678 (by decide) (by decide), p0 678 (by decide) (by decide), uj 4 (by decide)]) (fun k h1 h2 => by rw [hx1 k (by omega) (by omega), p0 k (by omega) (by omega), u0 k (by omega)])
    have go : ∀ w : Int32, w = (if c = 38 ∨ c = 124 then 103 else 116) → g_9_104 (nI ng) (kdI w) (nI (gAw c).length - 1) t2 (fun v t => v = some (.inl 1) ∧ crd t (gsl (if c = 38 ∨ c = 124 then 103 else 116) ng (gAw c).length 0 ++ sl) (ng + 1) nt np ∧ rd s' t ∧ arr t (pu (up2 s' 232 ng c) x.2.2.2 (nI ng))) := by
      intro w hw9
      refine ct_9c (s0 := t2) (sl := sl) w (gAw c).length 0 t2 (by omega) c2 sc3.rfl' rfl (fun t ht kt => ⟨rfl, ⟨?_, ?_, ?_, ?_, ?_, ?_⟩, fun q hq => ?_, ?_, ?_, ?_⟩)
      · rw [Nat.zero_add] at ht
        rw [← hw9]
        exact ht
      · rw [kt.2.2.2.2.2 5 (by decide), hx1 678 (by decide) (by decide), p0 678 (by decide) (by decide), u5]
      · rw [kt.2.2.2.2.2 6 (by decide), hx1 678 (by decide) (by decide), p0 678 (by decide) (by decide), uj 6 (by decide)]; exact a6
      · rw [kt.2.2.2.2.2 7 (by decide), hx1 678 (by decide) (by decide), p0 678 (by decide) (by decide), uj 7 (by decide)]; exact a7
      · rw [kt.1, hx1 231 (by decide) (by decide)]; exact p3
      · rw [kt.1, hx1 231 (by decide) (by decide)]; exact p4
      · rw [kt.2.2.2.2.1 q hq, hx1 q (by omega) (by omega), p0 q (by omega) (by omega), u0 q (by omega)]
      · rw [kt.2.1, hx1 232 (by decide) (by decide), p2, g2]
      · rw [kt.2.2.1, g3 233 (Or.inl rfl)]
      · rw [kt.2.2.2.1, g3 234 (Or.inr rfl)]
    refine ⟨rfl, fun h => go 103 (by rw [if_pos (Or.inl h)]), fun h => ⟨fun h2 => go 116 (by rw [if_neg (fun q => q.elim h h2)]), fun h2 => go 103 (by rw [if_pos (Or.inr (Classical.not_not.mp h2))])⟩⟩
  · exact absurd hc q
theorem ct_11 {s : rSg} {x : Slt} {sl : List Slt} {ng nt np : Nat} (hs : crd s sl ng nt np) (hg : ng ≤ 24) (ht : nt < 40) (hnp : np ≤ 40) (hl : sl.length < 192) (hx : slA ng np x) {c : Int32} {e : Nat} (hc : lfC c e) (i : Int32) : EvS rSkel 2 11 [.inr (.inr (some 678)), .inl c, .inl i, .inl x.2.1, .inl x.2.2.1] s (fun v t => v = some (.inl 1) ∧ crd t sl ng (nt + 1) np ∧ rd s t ∧ arr t (pu s x.2.2.2 (nI e))) := by
  obtain ⟨a0, a5, a6, a7, b3, b4⟩ := hs
  have he := lfC_lt hc
  refine w_11 s c _ _ _ ((ct_12 s hc).imp ?_)
  rintro _ s' ⟨rfl, rfl⟩
  refine ⟨_, rfl, fun _ => ⟨fun _ => ?_, fun q => absurd (by rw [a6, nI_1]; exact (nI_leI (b := 40) (by omega) (by decide)).mpr (by omega)) q⟩, fun q => absurd (fun z => ?_) q⟩
  · rw [a6, nI_1]
    refine w_11_52 _ c _ _ _ ⟨fun _ => ct_put (P := fun v t => v = some (.inl 1) ∧ crd t sl ng (nt + 1) np ∧ rd s' t ∧ arr t (pu s' x.2.2.2 (nI e))) hg (by omega) hx _ (nI e) ?_, fun q => absurd he.2 q⟩
    have h0 : ∀ q, q ≠ 233 → q ≠ 234 → pu (up2 s' 678 6 (nI (nt + 1))) x.2.2.2 (nI e) q = up2 s' 678 6 (nI (nt + 1)) q := fun q h1 h2 => pu_ne hx _ _ h1 h2
    refine ⟨rfl, ⟨a0.of ?_ (fun k h1 h2 => ?_), ?_, ?_, ?_, ?_, ?_⟩, fun q hq => ?_, ?_, ?_, ?_⟩
    · rw [h0 678 (by decide) (by decide), up2_nj _ _ _ (by decide)]
    · rw [h0 k (by omega) (by omega), up2_nk _ _ _ (by omega)]
    · rw [h0 678 (by decide) (by decide), up2_nj _ _ _ (by decide)]; exact a5
    · rw [h0 678 (by decide) (by decide), up2_same]
    · rw [h0 678 (by decide) (by decide), up2_nj _ _ _ (by decide)]; exact a7
    · rw [h0 231 (by decide) (by decide), up2_nk _ _ _ (by decide)]; exact b3
    · rw [h0 231 (by decide) (by decide), up2_nk _ _ _ (by decide)]; exact b4
    · rw [h0 q (by omega) (by omega), up2_nk _ _ _ (by omega)]
    · exact pu_cong (up2_nk _ _ _ (by decide))
    · exact pu_cong (up2_nk _ _ _ (by decide))
    · exact pu_cong (up2_nk _ _ _ (by decide))
  · exact nI_pos (n := e) (by omega) (by rw [z]; decide)
theorem slA_mono {ng np ng2 np2 : Nat} {x : Slt} (h : slA ng np x) (h1 : ng ≤ ng2) (h2 : np ≤ np2) : slA ng2 np2 x := by
  rcases h with h | ⟨o, p, g1, g⟩ | ⟨q, p, g0, g1, g⟩
  · exact Or.inl h
  · exact Or.inr (Or.inl ⟨o, p, by omega, g⟩)
  · exact Or.inr (Or.inr ⟨q, p, g0, by omega, g⟩)
/-- a pair's slots -/
def psl (np : Nat) : List Slt := [(116, nI (256 + np), 0, some (234, 2 * np)), (116, nI (256 + np), 1, some (234, 2 * np + 1)), (41, -1, 0, none)]
theorem ct_11p {s : rSg} {x : Slt} {sl : List Slt} {ng nt np : Nat} (hs : crd s sl ng nt np) (hg : ng ≤ 24) (ht : nt < 40) (hnp : np ≤ 40) (hl : sl.length < 192) (hx : slA ng np x) (i : Int32) : EvS rSkel 2 11 [.inr (.inr (some 678)), .inl 40, .inl i, .inl x.2.1, .inl x.2.2.1] s (fun v t => v = some (.inl 1) ∧ crd t (psl np ++ sl) ng (nt + 1) (np + 1) ∧ rd s t ∧ arr t (pu (up2 (up2 s 234 (2 * np) 138) 234 (2 * np + 1) 138) x.2.2.2 (nI (256 + np)))) := by
  obtain ⟨a0, a5, a6, a7, b3, b4⟩ := hs
  refine w_11 s 40 _ _ _ ((cs_12 s 40).imp ?_)
  rintro _ s' ⟨⟨n, rfl, hn⟩, rfl⟩
  rcases hn with ⟨_, _, q⟩ | ⟨rfl, _⟩
  · exact absurd rfl q
  refine ⟨_, rfl, fun q => absurd rfl q, fun _ => ⟨fun _ => ⟨fun _ => ?_, fun q => absurd (by rw [a6, nI_1]; exact (nI_leI (b := 40) (by omega) (by decide)).mpr (by omega)) q⟩, fun q => absurd rfl q⟩⟩
  rw [a6, nI_1]
  generalize eu : up2 s' 678 6 (nI (nt + 1)) = u
  have u0 : ∀ q, q ≠ 678 → u q = s' q := fun q hq => by rw [← eu, up2_nk _ _ _ hq]
  have uj : ∀ j, j ≠ 6 → u 678 j = s' 678 j := fun j hj => by rw [← eu, up2_nj _ _ _ hj]
  have u6 : u 678 6 = nI (nt + 1) := by rw [← eu, up2_same]
  refine w_11_52 u 40 _ _ _ ⟨fun q => absurd rfl q, fun _ => ⟨fun q => absurd (by rw [uj 7 (by decide)]; exact a7) q, fun _ => (ce_23 scr231 u (n := np) (by rw [u0 231 (by decide)]; exact b4) (by omega) 138 138).imp ?_⟩⟩
  rintro _ _ ⟨rfl, rfl⟩
  generalize e1 : up2 (up2 (up2 u (231 + 3) (2 * np) 138) (231 + 3) (2 * np + 1) 138) 231 4 (nI (np + 1)) = t1
  have p0 : ∀ q, q ≠ 231 → q ≠ 234 → t1 q = u q := fun q h1 h2 => by rw [← e1, up2_nk _ _ _ h1, up2_nk _ _ _ h2, up2_nk _ _ _ h2]
  have p4 : t1 234 = up2 (up2 s' 234 (2 * np) 138) 234 (2 * np + 1) 138 234 := by
    rw [← e1, up2_nk _ _ _ (by decide), up2_row, up2_row, up2_row, up2_row, u0 234 (by decide)]
  have p13 : t1 231 3 = nI ng := by rw [← e1, up2_nj _ _ _ (by decide), up2_nk _ _ _ (by decide), up2_nk _ _ _ (by decide), u0 231 (by decide)]; exact b3
  have p14 : t1 231 4 = nI (np + 1) := by rw [← e1, up2_same]
  have c1 : cro t1 sl := a0.of (by rw [p0 678 (by decide) (by decide), uj 4 (by decide)]) (fun k h1 h2 => by rw [p0 k (by omega) (by omega), u0 k (by omega)])
  refine ⟨_, rfl, (ct_7 c1 (by omega) (41, -1, 0, none)).imp ?_⟩
  rintro _ t2 ⟨rfl, c2, k2⟩
  refine ⟨rfl, (ct_7 c2 (by simp; omega) (116, nI (256 + np), 1, some (234, 2 * np + 1))).imp ?_⟩
  rintro _ t3 ⟨rfl, c3, k3⟩
  refine ⟨rfl, (ct_7 c3 (by simp; omega) (116, nI (256 + np), 0, some (234, 2 * np))).imp ?_⟩
  rintro _ t4 ⟨rfl, c4, k4⟩
  have kk := (k2.trans k3).trans k4
  refine ⟨rfl, ct_put (P := fun v t => v = some (.inl 1) ∧ crd t (psl np ++ sl) ng (nt + 1) (np + 1) ∧ rd s' t ∧ arr t (pu (up2 (up2 s' 234 (2 * np) 138) 234 (2 * np + 1) 138) x.2.2.2 (nI (256 + np)))) (np := np + 1) hg (by omega) (slA_mono hx (Nat.le_refl _) (Nat.le_succ _)) t4 (nI (256 + np)) ?_⟩
  have h0 : ∀ q, q ≠ 233 → q ≠ 234 → pu t4 x.2.2.2 (nI (256 + np)) q = t4 q := fun q h1 h2 => pu_ne hx _ _ h1 h2
  refine ⟨rfl, ⟨c4.of ?_ (fun k h1 h2 => ?_), ?_, ?_, ?_, ?_, ?_⟩, fun q hq => ?_, ?_, ?_, ?_⟩
  · rw [h0 678 (by decide) (by decide)]
  · rw [h0 k (by omega) (by omega)]
  · rw [h0 678 (by decide) (by decide), kk.2.2.2.2.2 5 (by decide), p0 678 (by decide) (by decide), uj 5 (by decide)]; exact a5
  · rw [h0 678 (by decide) (by decide), kk.2.2.2.2.2 6 (by decide), p0 678 (by decide) (by decide)]; exact u6
  · rw [h0 678 (by decide) (by decide), kk.2.2.2.2.2 7 (by decide), p0 678 (by decide) (by decide), uj 7 (by decide)]; exact a7
  · rw [h0 231 (by decide) (by decide), kk.1]; exact p13
  · rw [h0 231 (by decide) (by decide), kk.1]; exact p14
  · rw [h0 q (by omega) (by omega), kk.2.2.2.2.1 q hq, p0 q (by omega) (by omega), u0 q (by omega)]
  · exact pu_cong (by rw [kk.2.1, p0 232 (by decide) (by decide), u0 232 (by decide), up2_nk _ _ _ (by decide), up2_nk _ _ _ (by decide)])
  · exact pu_cong (by rw [kk.2.2.1, p0 233 (by decide) (by decide), u0 233 (by decide), up2_nk _ _ _ (by decide), up2_nk _ _ _ (by decide)])
  · exact pu_cong (by rw [kk.2.2.2.1, p4])
