/-! THE READER, pure; the reference's loop is it -/
/-- what is awaited, goals, terms, the place of one too many -/
abbrev rdS : Type := List Int32 × Nat × Nat × Option Nat
def tBad (nt : Nat) (bad : Option Nat) (i : Nat) : Option Nat := if nt = 40 ∧ bad = none then some i else bad
def gBad (ng : Nat) (bad : Option Nat) (i : Nat) : Option Nat := if ng = 24 ∧ bad = none then some i else bad
def RStep (i : Nat) (c w : Int32) (S S2 : rdS) : Prop := (w = 41 ∧ c = 41 ∧ S2 = S) ∨ (w ≠ 41 ∧ w = 116 ∧ tSg c ∧ S2 = (tAw c ++ S.1, S.2.1, S.2.2.1 + 1, tBad S.2.2.1 S.2.2.2 i)) ∨ (w ≠ 41 ∧ w ≠ 116 ∧ gSg c ∧ S2 = (gAw c ++ S.1, S.2.1 + 1, S.2.2.1, gBad S.2.1 S.2.2.2 i))
/-- .inl: it can't go on at that place; .inr: all was read -/
def RRun (tx : Nat → Int32) (n : Nat) : Nat → Nat → rdS → (Nat ⊕ (Nat × Nat × Option Nat)) → Prop
  | _, i, ([], ng, nt, bad), r => (i = n ∧ r = .inr (ng, nt, bad)) ∨ (i ≠ n ∧ r = .inl i)
  | 0, i, (_ :: _, _, _, _), r => r = .inl i
  | f + 1, i, (w :: l, ng, nt, bad), r => (∃ S2, RStep i (tx i) w (l, ng, nt, bad) S2 ∧ RRun tx n f (i + 1) S2 r) ∨ (aNo (tx i) w ∧ r = .inl i)
def badI : Option Nat → Int32
  | none => -1
  | some b => nI b
def mRd (s : rSg) (i : Nat) (S : rdS) : Prop := s 725 43 = nI i ∧ aw s S.1 ∧ s 725 45 = nI S.2.1 ∧ s 725 46 = nI S.2.2.1 ∧ s 725 44 = badI S.2.2.2 ∧ S.1.length ≤ 1 + 2 * i ∧ S.2.1 ≤ i ∧ S.2.2.1 ≤ i ∧ ∀ b, S.2.2.2 = some b → b ≤ i
def mOut (t : rSg) (n : Nat) (v : Option rv) : (Nat ⊕ (Nat × Nat × Option Nat)) → Prop
  | .inl j => v = some (.inl 0) ∧ t 725 43 = nI j
  | .inr (ng, nt, bad) => v = some (.inl 1) ∧ t 725 43 = nI n ∧ t 725 45 = nI ng ∧ t 725 46 = nI nt ∧ t 725 44 = badI bad
theorem badI_neg {b : Option Nat} (h : ∀ x, b = some x → x < 1000) : ¬ 0 ≤ badI b ↔ b = none := by
  cases b with
  | none => exact ⟨fun _ => rfl, fun _ => by decide⟩
  | some x =>
    refine ⟨fun q => absurd ?_ q, fun q => by cases q⟩
    exact Int32.not_lt.mp (nI_pos (by have := h x rfl; omega))
theorem tAw_len (c : Int32) : (tAw c).length ≤ 3 := by unfold tAw; split <;> simp
theorem gAw_len (c : Int32) : (gAw c).length ≤ 3 := by unfold gAw; split; simp; split; simp; split <;> simp
theorem aRd_m1 {s t : rSg} {w : Int32} {l : List Int32} : ¬ aRd s t (-1) w l := by
  rintro (⟨_, h, _⟩ | ⟨_, _, h, _⟩ | ⟨_, _, h, _⟩)
  · exact absurd h (by decide)
  · exact absurd h (by unfold tSg; decide)
  · exact absurd h (by unfold gSg; decide)
theorem ms_130b {tx : Nat → Int32} {n : Nat} (hn : n ≤ 96) {s0 : rSg} (h39 : s0 725 39 = nI n) (htx : ∀ i, i < n → s0 752 i = tx i) : ∀ (f i : Nat) (S : rdS) (s : rSg), i + f = n → mRd s i S → mK [755] [17, 43, 44, 45, 46] s0 s → g_130_32 s (fun v t => ∃ r, RRun tx n f i S r ∧ mOut t n v r ∧ mK [755] [17, 43, 44, 45, 46] s0 t) := by
  intro f
  induction f with
  | zero =>
    intro i S s hi hs hk
    obtain ⟨l, ng, nt, bad⟩ := S
    obtain ⟨a1, a2, a3, a4, a5, a6, a7, a8, a9⟩ := hs
    have s39 : s 725 39 = nI n := by rw [hk.2 39 (by simp), h39]
    cases l with
    | nil =>
      have e17 : s 725 17 = 0 := a2.1
      refine w_130_32 s ⟨fun _ => ⟨fun q => absurd (by rw [a1, s39]; congr 1) q, fun _ => ⟨_, Or.inl ⟨by omega, rfl⟩, ⟨rfl, by rw [a1]; congr 1, a3, a4, a5⟩, hk⟩⟩, fun q => absurd (by rw [e17]; decide) q⟩
    | cons w l =>
      have e17 : s 725 17 = nI (l.length + 1) := a2.1
      have hl : l.length < 300 := by simp at a6; omega
      refine w_130_32 s ⟨fun q => absurd ((nI_leI (a := l.length + 1) (b := 0) (by omega) (by decide)).mp (by rw [← e17]; exact q)) (by omega), fun _ => ⟨fun _ => ?_, fun q => absurd (by rw [s39, a1]; exact nI_le (by omega) (by omega)) q⟩⟩
      rw [e17, show nI (l.length + 1) - 1 = nI l.length from nI_pred _]
      refine ⟨rIn_nI (by omega) (by decide), (ms_132 (l := l) ⟨up2_same _ _ _ _, awl_ext (fun j _ => by rw [up2_nk _ _ _ (by decide)]) a2.2.2⟩ hl _ _).imp ?_⟩
      rintro _ t (⟨rfl, h⟩ | ⟨rfl, _, rfl⟩)
      · exact absurd h aRd_m1
      · exact ⟨_, rfl, fun q => absurd rfl q, fun _ => ⟨_, rfl, ⟨rfl, by rw [up2_nj _ _ _ (by decide)]; exact a1⟩, hk.upF (by simp)⟩⟩
  | succ f ih =>
    intro i S s hi hs hk
    obtain ⟨l, ng, nt, bad⟩ := S
    obtain ⟨a1, a2, a3, a4, a5, a6, a7, a8, a9⟩ := hs
    have s39 : s 725 39 = nI n := by rw [hk.2 39 (by simp), h39]
    cases l with
    | nil =>
      have e17 : s 725 17 = 0 := a2.1
      refine w_130_32 s ⟨fun _ => ⟨fun _ => ⟨_, Or.inr ⟨by omega, rfl⟩, ⟨rfl, a1⟩, hk⟩, fun q => ?_⟩, fun q => absurd (by rw [e17]; decide) q⟩
      have e := Classical.not_not.mp q
      rw [a1, s39] at e
      exact absurd ((nI_eq (by omega) (by omega)).mp e) (by omega)
    | cons w l =>
      have e17 : s 725 17 = nI (l.length + 1) := a2.1
      have hl : l.length < 300 := by simp at a6; omega
      refine w_130_32 s ⟨fun q => absurd ((nI_leI (a := l.length + 1) (b := 0) (by omega) (by decide)).mp (by rw [← e17]; exact q)) (by omega), fun _ => ⟨fun q => ?_, fun _ => ?_⟩⟩
      · rw [s39, a1] at q
        exact absurd ((nI_leI (by omega) (by omega)).mp q) (by omega)
      rw [e17, show nI (l.length + 1) - 1 = nI l.length from nI_pred _, a1, nI_clamp (by omega), nI_clamp (by omega), a2.2.1, hk.1 752 (by decide) (by simp), htx i (by omega)]
      have hu : aw (up2 s 725 17 (nI l.length)) l := ⟨up2_same _ _ _ _, awl_ext (fun j _ => by rw [up2_nk _ _ _ (by decide)]) a2.2.2⟩
      generalize eu : up2 s 725 17 (nI l.length) = u at hu
      have u0 : ∀ j, j ≠ 17 → u 725 j = s 725 j := fun j hj => by rw [← eu, up2_nj _ _ _ hj]
      have ku : mK [755] [17, 43, 44, 45, 46] s0 u := by rw [← eu]; exact hk.upF (by simp)
      refine ⟨rIn_nI (by omega) (by decide), rIn_nI (by omega) (by decide), (ms_132 hu hl _ _).imp ?_⟩
      rintro _ t (⟨rfl, h⟩ | ⟨rfl, h, rfl⟩)
      · refine ⟨_, rfl, fun _ => ?_, fun q => absurd (by decide) q⟩
        have hb9 : ∀ x, bad = some x → x < 1000 := fun x hx => by have := a9 x hx; omega
        have key : ∃ S2, RStep i (tx i) w (l, ng, nt, bad) S2 ∧ mRd (up2 t 725 43 (t 725 43 + 1)) (i + 1) S2 ∧ mK [755] [17, 43, 44, 45, 46] s0 t := by
          rcases h with ⟨h1, h2, rfl⟩ | ⟨h1, h2, h3, g1, g2, g3, g4⟩ | ⟨h1, h2, h3, g1, g2, g3, g4⟩
          · refine ⟨_, Or.inl ⟨h1, h2, rfl⟩, ⟨by rw [up2_same, u0 43 (by decide), a1, nI_1], ⟨by rw [up2_nj _ _ _ (by decide)]; exact hu.1, awl_ext (fun j _ => by rw [up2_nk _ _ _ (by decide)]) hu.2⟩, by rw [up2_nj _ _ _ (by decide), u0 45 (by decide)]; exact a3, by rw [up2_nj _ _ _ (by decide), u0 46 (by decide)]; exact a4, by rw [up2_nj _ _ _ (by decide), u0 44 (by decide)]; exact a5, by simp at a6 ⊢; omega, by simp only; simp only at a7; omega, by simp only; simp only at a8; omega, fun b hb => by have := a9 b hb; omega⟩, ku⟩
          · refine ⟨_, Or.inr (Or.inl ⟨h1, h2, h3, rfl⟩), ⟨by rw [up2_same, g4.2 43 (by simp), u0 43 (by decide), a1, nI_1], ⟨by rw [up2_nj _ _ _ (by decide)]; exact g1.1, awl_ext (fun j _ => by rw [up2_nk _ _ _ (by decide)]) g1.2⟩, by rw [up2_nj _ _ _ (by decide), g4.2 45 (by simp), u0 45 (by decide)]; exact a3, by rw [up2_nj _ _ _ (by decide), g2, u0 46 (by decide), a4, nI_1], ?_, ?_, by simp only; simp only at a7; omega, by simp only; simp only at a8; omega, ?_⟩, ku.trans (g4.mono (by simp) (by simp))⟩
            · rw [up2_nj _ _ _ (by decide), g3, u0 46 (by decide), u0 44 (by decide), u0 43 (by decide), a4, a5, a1]
              simp only at a8
              by_cases q : nt = 40 ∧ bad = none
              · rw [if_pos ⟨by rw [q.1]; rfl, (badI_neg hb9).mpr q.2⟩]
                simp only [tBad, if_pos q, badI]
              · rw [if_neg (fun z => q ⟨(nI_eq (b := 40) (by omega) (by decide)).mp z.1, (badI_neg hb9).mp z.2⟩)]
                simp only [tBad, if_neg q]
            · have := tAw_len (tx i)
              simp only [List.length_append]
              simp at a6
              omega
            · intro b hb
              simp only [tBad] at hb
              split at hb
              · cases hb; omega
              · have := a9 b hb; omega
          · refine ⟨_, Or.inr (Or.inr ⟨h1, h2, h3, rfl⟩), ⟨by rw [up2_same, g4.2 43 (by simp), u0 43 (by decide), a1, nI_1], ⟨by rw [up2_nj _ _ _ (by decide)]; exact g1.1, awl_ext (fun j _ => by rw [up2_nk _ _ _ (by decide)]) g1.2⟩, by rw [up2_nj _ _ _ (by decide), g2, u0 45 (by decide), a3, nI_1], by rw [up2_nj _ _ _ (by decide), g4.2 46 (by simp), u0 46 (by decide)]; exact a4, ?_, ?_, by simp only; simp only at a7; omega, by simp only; simp only at a8; omega, ?_⟩, ku.trans (g4.mono (by simp) (by simp))⟩
            · rw [up2_nj _ _ _ (by decide), g3, u0 45 (by decide), u0 44 (by decide), u0 43 (by decide), a3, a5, a1]
              simp only at a7
              by_cases q : ng = 24 ∧ bad = none
              · rw [if_pos ⟨by rw [q.1]; rfl, (badI_neg hb9).mpr q.2⟩]
                simp only [gBad, if_pos q, badI]
              · rw [if_neg (fun z => q ⟨(nI_eq (b := 24) (by omega) (by decide)).mp z.1, (badI_neg hb9).mp z.2⟩)]
                simp only [gBad, if_neg q]
            · have := gAw_len (tx i)
              simp only [List.length_append]
              simp at a6
              omega
            · intro b hb
              simp only [gBad] at hb
              split at hb
              · cases hb; omega
              · have := a9 b hb; omega
        obtain ⟨S2, k1, k2, k3⟩ := key
        refine (ih (i + 1) S2 _ (by omega) k2 (k3.upF (by simp))).imp ?_
        rintro v t2 ⟨r, r1, r2, r3⟩
        exact ⟨r, Or.inl ⟨S2, k1, r1⟩, r2, r3⟩
      · exact ⟨_, rfl, fun q => absurd rfl q, fun _ => ⟨_, Or.inr ⟨h, rfl⟩, ⟨rfl, by rw [u0 43 (by decide)]; exact a1⟩, ku⟩⟩
/-- reads: the pure reader of the letters -/
theorem ms_130 {s : rSg} {tx : Nat → Int32} {n : Nat} (hn : n ≤ 96) (h39 : s 725 39 = nI n) (htx : ∀ i, i < n → s 752 i = tx i) : EvS rSkel 4 130 [.inr (.inr (some 725))] s (fun v t => ∃ r, RRun tx n n 0 ([103], 0, 0, none) r ∧ mOut t n v r ∧ mK [755] [17, 43, 44, 45, 46] s t) := by
  refine w_130 s ?_
  generalize eu : up2 (up2 (up2 (up2 (up2 s 725 43 0) 725 44 (-1)) 725 45 0) 725 46 0) 725 17 0 = u
  have ku : mK [755] [17, 43, 44, 45, 46] s u := by
    rw [← eu]
    exact ((((mK.rfl'.upF (by simp)).upF (by simp)).upF (by simp)).upF (by simp)).upF (by simp)
  have e17 : u 725 17 = 0 := by rw [← eu, up2_same]
  have e43 : u 725 43 = 0 := by rw [← eu, up2_nj _ _ _ (by decide), up2_nj _ _ _ (by decide), up2_nj _ _ _ (by decide), up2_nj _ _ _ (by decide), up2_same]
  have e44 : u 725 44 = -1 := by rw [← eu, up2_nj _ _ _ (by decide), up2_nj _ _ _ (by decide), up2_nj _ _ _ (by decide), up2_same]
  have e45 : u 725 45 = 0 := by rw [← eu, up2_nj _ _ _ (by decide), up2_nj _ _ _ (by decide), up2_same]
  have e46 : u 725 46 = 0 := by rw [← eu, up2_nj _ _ _ (by decide), up2_same]
  refine (ms_131 (s := u) (l := []) ⟨e17, trivial⟩ (N := 1) (by decide) (by decide) 103).imp ?_
  rintro _ t ⟨rfl, ht, kt⟩
  refine ⟨rfl, ms_130b hn h39 htx n 0 ([103], 0, 0, none) t (by omega) ⟨by rw [kt.2 43 (by simp), e43]; rfl, ht, by rw [kt.2 45 (by simp), e45]; rfl, by rw [kt.2 46 (by simp), e46]; rfl, by rw [kt.2 44 (by simp), e44]; rfl, by decide, by decide, by decide, fun b hb => by cases hb⟩ (ku.trans (kt.mono (by simp) (by simp)))⟩
