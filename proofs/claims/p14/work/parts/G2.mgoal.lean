/-! THE REFERENCE: builds, exactly -/
theorem MR_txc {tx ty : Nat → Int32} {tb : Tb} {n : Nat} (e : ∀ i, i < n → ty i = tx i) : ∀ {f i : Nat} {S : rdS} {M : List Mn}, i + f ≤ n → MR tx tb f i S M → MR ty tb f i S M
  | 0, i, ([], ng, nt, bad), M, _, h => h
  | 0, i, (_ :: _, ng, nt, bad), M, _, h => h
  | f + 1, i, ([], ng, nt, bad), M, _, h => h
  | f + 1, i, (w :: l, ng, nt, bad), M, hi, ⟨S2, M2, h1, h2, h3⟩ => by
    refine ⟨S2, M2, ?_, MR_txc e (by omega) h2, ?_⟩
    · rw [e i (by omega)]; exact h1
    · rw [e i (by omega)]; exact h3
/-- the text's table -/
def MRt (tx : Nat → Int32) (tb : Tb) (n : Nat) : Prop := MR tx tb n 0 ([103], 0, 0, none) [.inr 0]
theorem MRt.congr {tx ty : Nat → Int32} {tb : Tb} {n : Nat} (h : MRt tx tb n) (e : ∀ i, i < n → ty i = tx i) : MRt ty tb n := MR_txc e (by omega) h
theorem MRt_ex {tx : Nat → Int32} {n : Nat} {r : Nat × Nat × Option Nat} (h : RRun tx n n 0 ([103], 0, 0, none) (.inr r)) : ∃ tb, MRt tx tb n := by
  obtain ⟨tb, M, h1, h2⟩ := MR_ex n 0 ([103], 0, 0, none) r rd0.2 h
  refine ⟨tb, ?_⟩
  have e : M = [.inr 0] := by
    rcases h2 with ⟨q, _⟩ | ⟨q, _⟩ | ⟨_, q, r, rfl, h2⟩
    · exact absurd q (by decide)
    · exact absurd q (by decide)
    · obtain rfl : r = [] := by
        cases r with
        | nil => rfl
        | cons _ _ => cases h2
      cases n with
      | zero => exact h1.elim
      | succ n =>
        obtain ⟨S2, M2, _, _, h3⟩ := h1
        rcases h3 with ⟨q, _⟩ | ⟨q, _⟩ | ⟨_, k, _, _, h3⟩
        · exact absurd q (by decide)
        · exact absurd q (by decide)
        · rcases h3 with ⟨_, r, _, e⟩ | ⟨_, r, _, e⟩ | ⟨_, r, _, e⟩ | ⟨_, e⟩
          · cases e; rfl
          · cases e; rfl
          · cases e; rfl
          · cases e; rfl
  rw [e] at h1
  exact h1
theorem fs_115 {tb : Tb} {s0 s : rSg} {n k : Nat} {w c : Int32} {l : List Int32} {ng nt : Nat} {bad : Option Nat} {S2 : rdS} {nG nT : Nat} (hn : n ≤ 96) (hnG : nG ≤ 96) (hnT : nT ≤ 96) (hk1 : k + 1 ≤ n) (hR : RStep k c w (l, ng, nt, bad) S2) {M M2 : List Mn} (hE : (w = 41 ∧ M = M2) ∨ (w = 116 ∧ ((∃ g, lfM c g ∧ M = .inl g :: M2) ∨ (c = 40 ∧ ∃ g1 g2 r, M2 = .inl g1 :: .inl g2 :: r ∧ M = .inl (prf g1 g2) :: r))) ∨ (w = 103 ∧ gEn tb ng c M M2)) (hB : BJ tb s0 s n (k + 1) S2 nG nT M2) : EvS rSkel 2 115 [.inr (.inr (some 725)), .inl c] s (fun v t => v = none ∧ BJ tb s0 t n k (w :: l, ng, nt, bad) nG nT M) := by
  rcases hR with ⟨rfl, rfl, rfl⟩ | ⟨_, rfl, hc, rfl⟩ | ⟨h1, h2, hc, rfl⟩
  · rcases hE with ⟨_, rfl⟩ | ⟨q, _⟩ | ⟨q, _⟩
    · obtain ⟨T, G, its, hh, hT, hG, h17, hl, hm, hs, hb, hk⟩ := hB
      refine w_115 s 41 ⟨fun q => absurd rfl q, fun _ => ⟨rfl, T, G, its, hh, hT, hG, h17, by omega, ?_, hs, hb, hk⟩⟩
      simp only
      rw [hm, List.filter_cons_of_neg (by decide)]
    · exact absurd q (by decide)
    · exact absurd q (by decide)
  · rcases hE with ⟨q, _⟩ | ⟨_, hE⟩ | ⟨q, _⟩
    · exact absurd q (by decide)
    · exact fs_115t hn hnT hk1 hE hB
    · exact absurd q (by decide)
  · rcases hE with ⟨q, _⟩ | ⟨q, _⟩ | ⟨_, hE⟩
    · exact absurd q h1
    · exact absurd q h2
    · exact fs_115g hn hnG hk1 h2 h1 hE hB
theorem fs_114b {tb : Tb} {tx : Nat → Int32} {n nG nT : Nat} {bd : Option Nat} (hn : n ≤ 96) (hnG : nG ≤ 96) (hnT : nT ≤ 96) {s0 s : rSg} (htx : ∀ i, i < n → s0 753 i = tx i) {P : Option rv → rSg → Prop} (hB : BJ tb s0 s n n ([], nG, nT, bd) nG nT []) : ∀ (f k : Nat) (S : rdS) (M : List Mn), k + f = n → RRun tx n f k S (.inr (nG, nT, bd)) → MR tx tb f k S M → (∀ t, BJ tb s0 t n k S nG nT M → g_114_28 (nI k - 1) t P) → g_114_28 (nI n - 1) s P := by
  intro f
  induction f with
  | zero =>
    intro k S M hk hR hM hP
    obtain ⟨l, ng, nt, bad⟩ := S
    obtain rfl : k = n := by omega
    cases l with
    | nil =>
      rcases hR with ⟨_, b⟩ | ⟨a, _⟩
      · cases b
        have hM : M = [] := hM
        subst hM
        exact hP s hB
      · exact absurd rfl a
    | cons w l => cases hR
  | succ f ih =>
    intro k S M hk hR hM hP
    obtain ⟨l, ng, nt, bad⟩ := S
    cases l with
    | nil =>
      rcases hR with ⟨a, _⟩ | ⟨_, b⟩
      · omega
      · cases b
    | cons w l =>
      rcases hR with ⟨S2, a, b⟩ | ⟨_, b⟩
      · obtain ⟨S3, M2, m1, m2, m3⟩ := hM
        have e := RStep_det a m1
        subst e
        refine ih (k + 1) S2 M2 (by omega) b m2 (fun t ht => ?_)
        rw [show nI (k + 1) - 1 = nI k from nI_pred k]
        refine w_114_28 t _ ⟨fun q => absurd q (nI_pos (by omega)), fun _ => ⟨rIn_nI (by omega) (by decide), ?_⟩⟩
        have e : t 753 k = tx k := by
          obtain ⟨T, G, its, _, _, _, _, _, _, _, _, hK, _, _⟩ := ht
          rw [hK.1 753 (by decide) (by simp), htx k (by omega)]
        rw [nI_clamp (by omega), e]
        refine (fs_115 hn hnG hnT (by omega) a m3 ht).imp ?_
        rintro _ u ⟨rfl, hu⟩
        refine ⟨rfl, ?_⟩
        rw [show nI k + (-1) = nI k - 1 from (Int32.sub_eq_add_neg _ _).symm]
        exact hP u hu
      · cases b
/-- builds: the goal of the text is begun -/
theorem fs_114 {tb : Tb} {s : rSg} {n ng nt : Nat} (h40 : s 725 40 = nI n) (hn : n ≤ 96) (b1 : ng ≤ 24) (b2 : nt ≤ 40) (hR : RRun (s 753) n n 0 ([103], 0, 0, none) (.inr (ng, nt, none))) (hM : MRt (s 753) tb n) : EvS rSkel 4 114 [.inr (.inr (some 725))] s (fun v t => v = none ∧ ∃ T g, RSa tb (Rb ng ng) t 0 T ng 2 0 (bgn 0) ∧ T ≤ 115 ∧ t 725 47 = nI g ∧ g + 1 = ng ∧ nh t g ≤ 12 ∧ mK kZ (jZ ++ [21, 47]) s t) := by
  refine w_114 s ?_
  rw [h40]
  generalize eu : up2 (up2 (up2 (up2 s 725 10 75) 725 11 0) 725 12 1) 725 17 0 = u
  have ku : mK kZ (jZ ++ [21, 47]) s u := by rw [← eu]; exact (((mK.rfl'.upF (by simp [jZ])).upF (by simp [jZ])).upF (by simp [jZ])).upF (by simp [jZ])
  have u10 : u 725 10 = nI 75 := by rw [← eu, up2_nj _ _ _ (by decide), up2_nj _ _ _ (by decide), up2_nj _ _ _ (by decide), up2_same]; rfl
  have u11 : u 725 11 = nI 0 := by rw [← eu, up2_nj _ _ _ (by decide), up2_nj _ _ _ (by decide), up2_same]; rfl
  have u12 : u 725 12 = nI 1 := by rw [← eu, up2_nj _ _ _ (by decide), up2_same]; rfl
  have u17 : u 725 17 = nI 0 := by rw [← eu, up2_same]; rfl
  have hu : hp u 75 0 1 := ⟨by omega, ⟨u10, u11, u12⟩, fun t h1 h2 => by omega, fun g hg => by omega⟩
  refine fs_114b (nG := ng) (nT := nt) (bd := none) (tx := s 753) hn (by omega) (by omega) (s0 := u) (fun i _ => by rw [ku.1 753 (by decide) (by simp [kZ])]) ⟨75, 0, [], hu, by simp only; omega, by simp only; omega, u17, by simp, rfl, trivial, by simp [bal], mK.rfl', trivial, fun g q h => absurd h.2 (by omega)⟩ n 0 ([103], 0, 0, none) _ (by omega) hR hM ?_
  rintro t ⟨T, G, its, hh, hT, hG, h17, hl, hm, hs, hb, hk, hM9, htab⟩
  simp only at hT hG hm
  have e : [103].filter (fun w : Int32 => !decide (w = 41)) = [103] := by decide
  rw [e] at hm
  obtain ⟨g, r, rfl, hm2⟩ := its_cons hm
  obtain rfl : r = [] := by cases r with
    | nil => rfl
    | cons _ _ => cases hm2
  obtain ⟨p1, _, p3, _⟩ := hs
  have hg : g < G := p3 (show (103 : Int32) ≠ 116 by decide)
  have hg1 : g + 0 + 1 = ng := hM9.2.1
  obtain rfl : G = ng := by omega
  simp only [List.length_nil, List.length_cons] at h17 p1
  simp only [bal, cnt] at hb
  rw [if_neg (by decide), if_neg (by decide)] at hb
  refine w_114_28 t _ ⟨fun _ => ?_, fun q => absurd (by decide) q⟩
  refine ms_116 h17 (by omega) p1 ⟨_, rfl, ?_⟩
  have e2 : hx T G 1 t (up2 (up2 (up2 t 725 17 (nI 0)) 725 47 (nI g)) 725 21 0) := hx.of (fun k a b => by rw [up2_nk _ _ _ (by omega), up2_nk _ _ _ (by omega), up2_nk _ _ _ (by omega)])
  have h2 : hp (up2 (up2 (up2 t 725 17 (nI 0)) 725 47 (nI g)) 725 21 0) T G 1 := hh.keep e2 ⟨by rw [up2_nj _ _ _ (by decide), up2_nj _ _ _ (by decide), up2_nj _ _ _ (by decide)], by rw [up2_nj _ _ _ (by decide), up2_nj _ _ _ (by decide), up2_nj _ _ _ (by decide)], by rw [up2_nj _ _ _ (by decide), up2_nj _ _ _ (by decide), up2_nj _ _ _ (by decide)]⟩
  have n12 : nh t g ≤ 12 := by omega
  refine (fs_121 (z := 0) (q := 0) h2 (mTab_ext e2 (Nat.le_refl _) (Nat.le_refl _) htab) ⟨hg1, hg⟩ (up2_same _ _ _ _) (by decide) (by decide) hg (by rw [nh_ext hh.2.2.2 (by omega) e2.2.1 hg]; exact n12)).imp ?_
  rintro _ v ⟨rfl, r1, r3, r4⟩
  refine ⟨rfl, rfl, T, g, r1, by omega, ?_, by omega, ?_, ?_⟩
  · rw [r4.1.2 47 (by simp [jZ]), up2_nj _ _ _ (by decide), up2_same]
  · rw [nh_ext h2.2.2.2 (by omega) r3.2.1 hg, nh_ext hh.2.2.2 (by omega) e2.2.1 hg]; exact n12
  · refine (ku.trans (hk.mono (by simp [kZ]) (by simp [jZ]))).trans (mK.trans ?_ (r4.1.mono (fun _ h => h) (fun q h => List.mem_append_left _ h)))
    exact ((mK.rfl'.upF (by simp [jZ])).upF (by simp)).upF (by simp)
