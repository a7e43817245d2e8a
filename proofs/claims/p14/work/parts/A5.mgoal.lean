/-! THE PURE READER: of one text one outcome; what it bounds -/
theorem aNo_RStep {i : Nat} {c w : Int32} {S S2 : rdS} (h : aNo c w) (g : RStep i c w S S2) : False := by
  rcases g with ⟨a, b, _⟩ | ⟨a, b, d, _⟩ | ⟨a, b, d, _⟩ <;> rcases h with ⟨x, y⟩ | ⟨x, y, z⟩ | ⟨x, y, z⟩
  · exact y b
  · exact x a
  · exact x a
  · exact a x
  · exact z d
  · exact y b
  · exact a x
  · exact b y
  · exact z d
theorem RStep_det {i : Nat} {c w : Int32} {S S2 S3 : rdS} (h : RStep i c w S S2) (g : RStep i c w S S3) : S2 = S3 := by
  rcases g with ⟨a, b, d⟩ | ⟨a, b, e, d⟩ | ⟨a, b, e, d⟩ <;> rcases h with ⟨x, y, u⟩ | ⟨x, y, z, u⟩ | ⟨x, y, z, u⟩
  · rw [d, u]
  · exact absurd a x
  · exact absurd a x
  · exact absurd x a
  · rw [d, u]
  · exact absurd b y
  · exact absurd x a
  · exact absurd y b
  · rw [d, u]
theorem RRun_det {tx : Nat → Int32} {n : Nat} : ∀ (f i : Nat) (S : rdS) (r r2 : Nat ⊕ (Nat × Nat × Option Nat)), RRun tx n f i S r → RRun tx n f i S r2 → r = r2 := by
  intro f
  induction f with
  | zero =>
    intro i S r r2 h g
    obtain ⟨l, ng, nt, bad⟩ := S
    cases l with
    | nil =>
      rcases h with ⟨a, b⟩ | ⟨a, b⟩ <;> rcases g with ⟨c, d⟩ | ⟨c, d⟩
      · rw [b, d]
      · exact absurd a c
      · exact absurd c a
      · rw [b, d]
    | cons w l =>
      have h : r = .inl i := h
      have g : r2 = .inl i := g
      rw [h, g]
  | succ f ih =>
    intro i S r r2 h g
    obtain ⟨l, ng, nt, bad⟩ := S
    cases l with
    | nil =>
      rcases h with ⟨a, b⟩ | ⟨a, b⟩ <;> rcases g with ⟨c, d⟩ | ⟨c, d⟩
      · rw [b, d]
      · exact absurd a c
      · exact absurd c a
      · rw [b, d]
    | cons w l =>
      rcases h with ⟨S2, a, b⟩ | ⟨a, b⟩ <;> rcases g with ⟨S3, c, d⟩ | ⟨c, d⟩
      · have e := RStep_det a c
        subst e
        exact ih (i + 1) S2 r r2 b d
      · exact (aNo_RStep c a).elim
      · exact (aNo_RStep a c).elim
      · rw [b, d]
theorem RRun_congr {tx ty : Nat → Int32} {n : Nat} (e : ∀ i, i < n → ty i = tx i) : ∀ (f i : Nat) (S : rdS) (r : Nat ⊕ (Nat × Nat × Option Nat)), i + f = n → RRun tx n f i S r → RRun ty n f i S r := by
  intro f
  induction f with
  | zero =>
    intro i S r _ h
    obtain ⟨l, ng, nt, bad⟩ := S
    cases l with
    | nil => exact h
    | cons w l => exact h
  | succ f ih =>
    intro i S r hi h
    obtain ⟨l, ng, nt, bad⟩ := S
    cases l with
    | nil => exact h
    | cons w l =>
      have e0 := e i (by omega)
      rcases h with ⟨S2, a, b⟩ | ⟨a, b⟩
      · exact Or.inl ⟨S2, by rw [e0]; exact a, ih (i + 1) S2 r (by omega) b⟩
      · exact Or.inr ⟨by rw [e0]; exact a, b⟩
theorem RRun_ok {tx : Nat → Int32} {n : Nat} : ∀ (f i : Nat) (S : rdS) (ng nt : Nat) (bad : Option Nat), rdOK i S → stOK S.1 → RRun tx n f i S (.inr (ng, nt, bad)) → rdOK n ([], ng, nt, bad) := by
  intro f
  induction f with
  | zero =>
    intro i S ng nt bad ok st h
    obtain ⟨l, g1, t1, b1⟩ := S
    cases l with
    | nil =>
      rcases h with ⟨a, b⟩ | ⟨a, b⟩
      · cases b; rw [← a]; exact ok
      · cases b
    | cons w l => cases h
  | succ f ih =>
    intro i S ng nt bad ok st h
    obtain ⟨l, g1, t1, b1⟩ := S
    cases l with
    | nil =>
      rcases h with ⟨a, b⟩ | ⟨a, b⟩
      · cases b; rw [← a]; exact ok
      · cases b
    | cons w l =>
      rcases h with ⟨S2, a, b⟩ | ⟨a, b⟩
      · have o := rdOK_step ok (fun x hx => st x (List.mem_cons_of_mem _ hx)) a
        exact ih (i + 1) S2 ng nt bad o.1 o.2 b
      · cases b
theorem rd0 : rdOK 0 ([103], 0, 0, none) ∧ stOK [103] := ⟨⟨by decide, by decide, by decide, fun b hb => (by cases hb), fun _ => ⟨by decide, by decide⟩⟩, fun w hw => by simp at hw; exact Or.inl hw⟩
/-- a text is a goal -/
def txOK (tx : Nat → Int32) (n : Nat) : Prop := n ≤ 96 ∧ ∃ ng nt, (ng ≤ 24 ∧ nt ≤ 40) ∧ RRun tx n n 0 ([103], 0, 0, none) (.inr (ng, nt, none))
theorem txOK.congr {tx ty : Nat → Int32} {n : Nat} (h : txOK tx n) (e : ∀ i, i < n → ty i = tx i) : txOK ty n := by
  obtain ⟨h1, ng, nt, h2, h3⟩ := h
  exact ⟨h1, ng, nt, h2, RRun_congr e n 0 _ _ (by omega) h3⟩
/-! THE REFERENCE: builds -/
theorem ms_114b {tx : Nat → Int32} {n nG nT : Nat} {bd : Option Nat} (hn : n ≤ 96) (hnG : nG ≤ 96) (hnT : nT ≤ 96) {s0 s : rSg} (htx : ∀ i, i < n → s0 753 i = tx i) {P : Option rv → rSg → Prop} (hB : BI s0 s n n ([], nG, nT, bd) nG nT) : ∀ (f k : Nat) (S : rdS), k + f = n → RRun tx n f k S (.inr (nG, nT, bd)) → (∀ t, BI s0 t n k S nG nT → g_114_28 (nI k - 1) t P) → g_114_28 (nI n - 1) s P := by
  intro f
  induction f with
  | zero =>
    intro k S hk hR hP
    obtain ⟨l, ng, nt, bad⟩ := S
    obtain rfl : k = n := by omega
    cases l with
    | nil =>
      rcases hR with ⟨_, b⟩ | ⟨a, _⟩
      · cases b; exact hP s hB
      · exact absurd rfl a
    | cons w l => cases hR
  | succ f ih =>
    intro k S hk hR hP
    obtain ⟨l, ng, nt, bad⟩ := S
    cases l with
    | nil =>
      rcases hR with ⟨a, _⟩ | ⟨_, b⟩
      · omega
      · cases b
    | cons w l =>
      rcases hR with ⟨S2, a, b⟩ | ⟨_, b⟩
      · refine ih (k + 1) S2 (by omega) b (fun t ht => ?_)
        rw [show nI (k + 1) - 1 = nI k from nI_pred k]
        refine w_114_28 t _ ⟨fun q => absurd q (nI_pos (by omega)), fun _ => ⟨rIn_nI (by omega) (by decide), ?_⟩⟩
        have e : t 753 k = tx k := by
          obtain ⟨T, G, its, _, _, _, _, _, _, _, _, hK⟩ := ht
          rw [hK.1 753 (by decide) (by simp), htx k (by omega)]
        rw [nI_clamp (by omega), e]
        refine (ms_115 hn hnG hnT (by omega) a ht).imp ?_
        rintro _ u ⟨rfl, hu⟩
        refine ⟨rfl, ?_⟩
        rw [show nI k + (-1) = nI k - 1 from (Int32.sub_eq_add_neg _ _).symm]
        exact hP u hu
      · cases b
/-- builds: the goal of the text is begun -/
theorem ms_114 {s : rSg} {n : Nat} (h40 : s 725 40 = nI n) (htx : txOK (s 753) n) : EvS rSkel 4 114 [.inr (.inr (some 725))] s (fun v t => v = none ∧ ∃ T G g, RS t 0 T G 2 0 1 0 ∧ T ≤ 115 ∧ G ≤ 24 ∧ t 749 0 = nI 0 ∧ t 725 47 = nI g ∧ g < G ∧ nh t g ≤ 12 ∧ mK kZ (jZ ++ [21, 47]) s t) := by
  obtain ⟨hn, ng, nt, ⟨b1, b2⟩, hR⟩ := htx
  refine w_114 s ?_
  rw [h40]
  generalize eu : up2 (up2 (up2 (up2 s 725 10 75) 725 11 0) 725 12 1) 725 17 0 = u
  have ku : mK kZ (jZ ++ [21, 47]) s u := by rw [← eu]; exact (((mK.rfl'.upF (by simp [jZ])).upF (by simp [jZ])).upF (by simp [jZ])).upF (by simp [jZ])
  have u10 : u 725 10 = nI 75 := by rw [← eu, up2_nj _ _ _ (by decide), up2_nj _ _ _ (by decide), up2_nj _ _ _ (by decide), up2_same]; rfl
  have u11 : u 725 11 = nI 0 := by rw [← eu, up2_nj _ _ _ (by decide), up2_nj _ _ _ (by decide), up2_same]; rfl
  have u12 : u 725 12 = nI 1 := by rw [← eu, up2_nj _ _ _ (by decide), up2_same]; rfl
  have u17 : u 725 17 = nI 0 := by rw [← eu, up2_same]; rfl
  have hu : hp u 75 0 1 := ⟨by omega, ⟨u10, u11, u12⟩, fun t h1 h2 => by omega, fun g hg => by omega⟩
  refine ms_114b (nG := ng) (nT := nt) (bd := none) (tx := s 753) hn (by omega) (by omega) (s0 := u) (fun i _ => by rw [ku.1 753 (by decide) (by simp [kZ])]) ⟨75, 0, [], hu, by simp only; omega, by simp only; omega, u17, by simp, rfl, trivial, by simp [bal], mK.rfl'⟩ n 0 ([103], 0, 0, none) (by omega) hR ?_
  rintro t ⟨T, G, its, hh, hT, hG, h17, hl, hm, hs, hb, hk⟩
  simp only at hT hG hm
  have e : [103].filter (fun w : Int32 => !decide (w = 41)) = [103] := by decide
  rw [e] at hm
  obtain ⟨g, r, rfl, hm2⟩ := its_cons hm
  obtain rfl : r = [] := by cases r with
    | nil => rfl
    | cons _ _ => cases hm2
  obtain ⟨p1, _, p3, _⟩ := hs
  have hg : g < G := p3 (show (103 : Int32) ≠ 116 by decide)
  simp only [List.length_nil, List.length_cons] at h17 p1
  simp only [bal, cnt] at hb
  rw [if_neg (by decide), if_neg (by decide)] at hb
  refine w_114_28 t _ ⟨fun _ => ?_, fun q => absurd (by decide) q⟩
  refine ms_116 h17 (by omega) p1 ⟨_, rfl, ?_⟩
  have e2 : hx T G 1 t (up2 (up2 (up2 t 725 17 (nI 0)) 725 47 (nI g)) 725 21 0) := hx.of (fun k a b => by rw [up2_nk _ _ _ (by omega), up2_nk _ _ _ (by omega), up2_nk _ _ _ (by omega)])
  have h2 : hp (up2 (up2 (up2 t 725 17 (nI 0)) 725 47 (nI g)) 725 21 0) T G 1 := hh.keep e2 ⟨by rw [up2_nj _ _ _ (by decide), up2_nj _ _ _ (by decide), up2_nj _ _ _ (by decide)], by rw [up2_nj _ _ _ (by decide), up2_nj _ _ _ (by decide), up2_nj _ _ _ (by decide)], by rw [up2_nj _ _ _ (by decide), up2_nj _ _ _ (by decide), up2_nj _ _ _ (by decide)]⟩
  have n12 : nh t g ≤ 12 := by omega
  refine (ms_121 (z := 0) h2 (up2_same _ _ _ _) (by decide) (by decide) hg (by rw [nh_ext hh.2.2.2 (by omega) e2.2.1 hg]; exact n12)).imp ?_
  rintro _ v ⟨rfl, r1, r2, r3, r4⟩
  refine ⟨rfl, rfl, T, G, g, r1, by omega, by omega, r2, ?_, hg, ?_, ?_⟩
  · rw [r4.1.2 47 (by simp [jZ]), up2_nj _ _ _ (by decide), up2_same]
  · rw [nh_ext h2.2.2.2 (by omega) r3.2.1 hg, nh_ext hh.2.2.2 (by omega) e2.2.1 hg]; exact n12
  · refine (ku.trans (hk.mono (by simp [kZ]) (by simp [jZ]))).trans (mK.trans ?_ (r4.1.mono (fun _ h => h) (fun q h => List.mem_append_left _ h)))
    exact ((mK.rfl'.upF (by simp [jZ])).upF (by simp)).upF (by simp)
/-! THE REFERENCE between calls -/
def MI (s : rSg) : Prop := ∃ T G L h w a st g, RS s 0 T G L h w a ∧ (s 749 0 = nI st ∧ st ≤ 300) ∧ (T ≤ 115 + 2 * st ∧ G ≤ 24 + st ∧ L ≤ 2 + 25 * st) ∧ (s 725 47 = nI g ∧ g < G ∧ nh s g ≤ 12) ∧ (∃ n, s 725 39 = nI n ∧ n ≤ 96) ∧ (∃ m, s 725 58 = nI m ∧ m ≤ 32) ∧ (∃ n, s 725 40 = nI n ∧ txOK (s 753) n) ∧ (s 725 48 = 0 ∨ ∃ n si, s 725 41 = nI n ∧ txOK (s 754) n ∧ s 725 42 = nI si ∧ si ≤ 300)
