/-! WHAT A TEXT TELLS: the meaning of what is awaited, and the table of its goals -/
abbrev Mn : Type := Tf ⊕ Nat
/-- a letter that is a term by itself -/
def lfM (c : Int32) (f : Tf) : Prop := (∃ v, v < 6 ∧ c = nI (97 + v) ∧ f = vr v) ∨ (∃ a, a < 10 ∧ c = nI (48 + a) ∧ f = atm a) ∨ (c = 110 ∧ f = atm 10)
/-- a goal's entry -/
def gEn (tb : Tb) (ng : Nat) (c : Int32) (M M2 : List Mn) : Prop := ∃ k, c = nI k ∧ (tb ng).1 = k ∧
  (((k = 61 ∨ k = 35 ∨ k = 77) ∧ ∃ r, M2 = .inl (tb1 tb ng) :: .inl (tb2 tb ng) :: r ∧ M = .inr ng :: r) ∨
   (k = 65 ∧ ∃ r, M2 = .inl (tb1 tb ng) :: .inl (tb2 tb ng) :: .inl (tb3 tb ng) :: r ∧ M = .inr ng :: r) ∨
   ((k = 38 ∨ k = 124) ∧ ∃ r, M2 = .inr (tbA tb ng) :: .inr (tbB tb ng) :: r ∧ M = .inr ng :: r) ∨
   ((k = 42 ∨ k = 33) ∧ M = .inr ng :: M2))
def MR (tx : Nat → Int32) (tb : Tb) : Nat → Nat → rdS → List Mn → Prop
  | _, _, ([], _, _, _), M => M = []
  | 0, _, (_ :: _, _, _, _), _ => False
  | f + 1, i, (w :: l, ng, nt, bad), M => ∃ S2 M2, RStep i (tx i) w (l, ng, nt, bad) S2 ∧ MR tx tb f (i + 1) S2 M2 ∧ ((w = 41 ∧ M = M2) ∨ (w = 116 ∧ ((∃ g, lfM (tx i) g ∧ M = .inl g :: M2) ∨ (tx i = 40 ∧ ∃ g1 g2 r, M2 = .inl g1 :: .inl g2 :: r ∧ M = .inl (prf g1 g2) :: r))) ∨ (w = 103 ∧ gEn tb ng (tx i) M M2))
def shp : List Int32 → List Mn → Prop
  | [], [] => True
  | w :: l, M => (w = 41 ∧ shp l M) ∨ (w = 116 ∧ ∃ g r, M = .inl g :: r ∧ shp l r) ∨ (w = 103 ∧ ∃ q r, M = .inr q :: r ∧ shp l r)
  | [], _ :: _ => False
theorem MR_congr {tx : Nat → Int32} {tb tc : Tb} : ∀ {f i : Nat} {S : rdS} {M : List Mn}, (∀ q, S.2.1 ≤ q → tc q = tb q) → MR tx tb f i S M → MR tx tc f i S M
  | 0, i, ([], ng, nt, bad), M, _, h => h
  | 0, i, (_ :: _, ng, nt, bad), M, _, h => h
  | f + 1, i, ([], ng, nt, bad), M, _, h => h
  | f + 1, i, (w :: l, ng, nt, bad), M, e, ⟨S2, M2, h1, h2, h3⟩ => by
    have hng : ng ≤ S2.2.1 := by
      rcases h1 with ⟨_, _, rfl⟩ | ⟨_, _, _, rfl⟩ | ⟨_, _, _, rfl⟩
      · exact Nat.le_refl _
      · exact Nat.le_refl _
      · exact Nat.le_succ _
    refine ⟨S2, M2, h1, MR_congr (fun q hq => e q (Nat.le_trans hng hq)) h2, ?_⟩
    rcases h3 with h3 | h3 | ⟨hw, k, k1, k2, h3⟩
    · exact Or.inl h3
    · exact Or.inr (Or.inl h3)
    · refine Or.inr (Or.inr ⟨hw, k, k1, ?_, ?_⟩)
      · rw [e ng (Nat.le_refl _)]; exact k2
      · unfold tb1 tb2 tb3 tbA tbB at *
        rw [e ng (Nat.le_refl _)]
        exact h3
theorem tSg_cases {c : Int32} (h : tSg c) : (∃ g, lfM c g) ∨ c = 40 := by
  have rng : ∀ (lo hi : Nat), hi < 1000 → lo ≤ hi → nI lo ≤ c → c ≤ nI hi → ∃ k, lo ≤ k ∧ k ≤ hi ∧ c = nI k := by
    intro lo hi h1 h2 h3 h4
    have a1 : ¬ c < 0 := fun q => by
      have b1 := i_le.mp h3
      have b2 := i_lt.mp q
      have b3 : (nI lo).toInt = lo := Int32.toInt_ofNat_of_lt (by omega)
      have b4 : (0 : Int32).toInt = 0 := rfl
      omega
    obtain ⟨k, hk, rfl⟩ := nn_of a1
    have b1 := (nI_leI (by omega) hk).mp h3
    have b2 := (nI_leI hk (by omega)).mp h4
    exact ⟨k, b1, b2, rfl⟩
  rcases h with ⟨h1, h2⟩ | ⟨h1, h2⟩ | h | h
  · obtain ⟨k, k1, k2, rfl⟩ := rng 97 102 (by decide) (by decide) h1 h2
    exact Or.inl ⟨vr (k - 97), Or.inl ⟨k - 97, by omega, by rw [show 97 + (k - 97) = k by omega], rfl⟩⟩
  · obtain ⟨k, k1, k2, rfl⟩ := rng 48 57 (by decide) (by decide) h1 h2
    exact Or.inl ⟨atm (k - 48), Or.inr (Or.inl ⟨k - 48, by omega, by rw [show 48 + (k - 48) = k by omega], rfl⟩)⟩
  · exact Or.inl ⟨atm 10, Or.inr (Or.inr ⟨h, rfl⟩)⟩
  · exact Or.inr h
theorem lfM_ne {c : Int32} {g : Tf} (h : lfM c g) : c ≠ 40 := by
  rcases h with ⟨v, h1, rfl, _⟩ | ⟨a, h1, rfl, _⟩ | ⟨rfl, _⟩
  · exact fun q => absurd ((nI_eq (b := 40) (by omega) (by decide)).mp q) (by omega)
  · exact fun q => absurd ((nI_eq (b := 40) (by omega) (by decide)).mp q) (by omega)
  · decide
/-- each text that is read has a table and meanings -/
theorem MR_ex {tx : Nat → Int32} {n : Nat} : ∀ (f i : Nat) (S : rdS) (r : Nat × Nat × Option Nat), stOK S.1 → RRun tx n f i S (.inr r) → ∃ tb M, MR tx tb f i S M ∧ shp S.1 M := by
  intro f
  induction f with
  | zero =>
    rintro i ⟨l, ng, nt, bad⟩ r hst h
    cases l with
    | nil => exact ⟨fun _ => (0, vr 0, vr 0, vr 0, 0, 0), [], rfl, trivial⟩
    | cons w l => cases h
  | succ f ih =>
    rintro i ⟨l, ng, nt, bad⟩ r hst h
    cases l with
    | nil => exact ⟨fun _ => (0, vr 0, vr 0, vr 0, 0, 0), [], rfl, trivial⟩
    | cons w l =>
      rcases h with ⟨S2, h1, h2⟩ | ⟨_, h⟩
      · have hstl : stOK l := fun x hx => hst x (List.mem_cons_of_mem _ hx)
        have hst2 : stOK S2.1 := by
          rcases h1 with ⟨_, _, rfl⟩ | ⟨_, _, _, rfl⟩ | ⟨_, _, _, rfl⟩
          · exact hstl
          · exact stOK_app (tAw_ok _) hstl
          · exact stOK_app (gAw_ok _) hstl
        obtain ⟨tb, M2, m1, m2⟩ := ih (i + 1) S2 r hst2 h2
        rcases id h1 with ⟨hw, hc, rfl⟩ | ⟨hw1, hw, hc, rfl⟩ | ⟨hw1, hw2, hc, rfl⟩
        · exact ⟨tb, M2, ⟨_, M2, h1, m1, Or.inl ⟨hw, rfl⟩⟩, Or.inl ⟨hw, m2⟩⟩
        · rcases tSg_cases hc with ⟨g, hg⟩ | hc40
          · have e : tAw (tx i) = [] := by unfold tAw; rw [if_neg (lfM_ne hg)]
            simp only [e, List.nil_append] at m2
            exact ⟨tb, .inl g :: M2, ⟨_, M2, h1, m1, Or.inr (Or.inl ⟨hw, Or.inl ⟨g, hg, rfl⟩⟩)⟩, Or.inr (Or.inl ⟨hw, g, M2, rfl, m2⟩)⟩
          · have e : tAw (tx i) = [116, 116, 41] := by unfold tAw; rw [if_pos hc40]
            simp only [e, List.cons_append, List.nil_append] at m2
            rcases m2 with ⟨q, _⟩ | ⟨_, g1, r1, rfl, m2⟩ | ⟨q, _⟩
            · exact absurd q (by decide)
            · rcases m2 with ⟨q, _⟩ | ⟨_, g2, r2, rfl, m2⟩ | ⟨q, _⟩
              · exact absurd q (by decide)
              · rcases m2 with ⟨_, m2⟩ | ⟨q, _⟩ | ⟨q, _⟩
                · exact ⟨tb, .inl (prf g1 g2) :: r2, ⟨_, _, h1, m1, Or.inr (Or.inl ⟨hw, Or.inr ⟨hc40, g1, g2, r2, rfl, rfl⟩⟩)⟩, Or.inr (Or.inl ⟨hw, _, r2, rfl, m2⟩)⟩
                · exact absurd q (by decide)
                · exact absurd q (by decide)
              · exact absurd q (by decide)
            · exact absurd q (by decide)
        · have hw : w = 103 := by
            rcases hst w List.mem_cons_self with q | q | q
            · exact q
            · exact absurd q hw2
            · exact absurd q hw1
          -- the entry of this goal
          have put : ∀ (en : Nat × Tf × Tf × Tf × Nat × Nat) (M : List Mn), gEn (fun q => if q = ng then en else tb q) ng (tx i) M M2 → shp (w :: l) M → ∃ tb M, MR tx tb (f + 1) i (w :: l, ng, nt, bad) M ∧ shp (w :: l) M := fun en M hen hsh => ⟨fun q => if q = ng then en else tb q, M, ⟨_, M2, h1, MR_congr (fun q hq => if_neg (by have : ng + 1 ≤ q := hq; omega)) m1, Or.inr (Or.inr ⟨hw, hen⟩)⟩, hsh⟩
          have two : ∀ k : Nat, tx i = nI k → (k = 61 ∨ k = 35 ∨ k = 77) → ∃ tb M, MR tx tb (f + 1) i (w :: l, ng, nt, bad) M ∧ shp (w :: l) M := by
            intro k hk hk3
            have e : gAw (tx i) = [116, 116] := by
              rw [hk]
              rcases hk3 with rfl | rfl | rfl <;> decide
            simp only [e, List.cons_append, List.nil_append] at m2
            rcases m2 with ⟨q, _⟩ | ⟨_, g1, r1, rfl, m2⟩ | ⟨q, _⟩
            · exact absurd q (by decide)
            · rcases m2 with ⟨q, _⟩ | ⟨_, g2, r2, rfl, m2⟩ | ⟨q, _⟩
              · exact absurd q (by decide)
              · refine put (k, g1, g2, g2, 0, 0) (.inr ng :: r2) ⟨k, hk, by simp, Or.inl ⟨hk3, r2, by simp [tb1, tb2], rfl⟩⟩ (Or.inr (Or.inr ⟨hw, ng, r2, rfl, m2⟩))
              · exact absurd q (by decide)
            · exact absurd q (by decide)
          have gg : ∀ k : Nat, tx i = nI k → (k = 38 ∨ k = 124) → ∃ tb M, MR tx tb (f + 1) i (w :: l, ng, nt, bad) M ∧ shp (w :: l) M := by
            intro k hk hk3
            have e : gAw (tx i) = [103, 103] := by
              rw [hk]
              rcases hk3 with rfl | rfl <;> decide
            simp only [e, List.cons_append, List.nil_append] at m2
            rcases m2 with ⟨q, _⟩ | ⟨q, _⟩ | ⟨_, g1, r1, rfl, m2⟩
            · exact absurd q (by decide)
            · exact absurd q (by decide)
            · rcases m2 with ⟨q, _⟩ | ⟨q, _⟩ | ⟨_, g2, r2, rfl, m2⟩
              · exact absurd q (by decide)
              · exact absurd q (by decide)
              · exact put (k, vr 0, vr 0, vr 0, g1, g2) (.inr ng :: r2) ⟨k, hk, by simp, Or.inr (Or.inr (Or.inl ⟨hk3, r2, by simp [tbA, tbB], rfl⟩))⟩ (Or.inr (Or.inr ⟨hw, ng, r2, rfl, m2⟩))
          have zz : ∀ k : Nat, tx i = nI k → (k = 42 ∨ k = 33) → ∃ tb M, MR tx tb (f + 1) i (w :: l, ng, nt, bad) M ∧ shp (w :: l) M := by
            intro k hk hk3
            have e : gAw (tx i) = [] := by
              rw [hk]
              rcases hk3 with rfl | rfl <;> decide
            simp only [e, List.nil_append] at m2
            exact put (k, vr 0, vr 0, vr 0, 0, 0) (.inr ng :: M2) ⟨k, hk, by simp, Or.inr (Or.inr (Or.inr ⟨hk3, rfl⟩))⟩ (Or.inr (Or.inr ⟨hw, ng, M2, rfl, m2⟩))
          rcases id hc with q | q | q | q | q | q | q | q
          · exact two 61 q (Or.inl rfl)
          · exact two 35 q (Or.inr (Or.inl rfl))
          · exact gg 38 q (Or.inl rfl)
          · exact gg 124 q (Or.inr rfl)
          · have e : gAw (tx i) = [116, 116, 116] := by
              rw [q]
              decide
            simp only [e, List.cons_append, List.nil_append] at m2
            rcases m2 with ⟨q, _⟩ | ⟨_, g1, r1, rfl, m2⟩ | ⟨q, _⟩
            · exact absurd q (by decide)
            · rcases m2 with ⟨q, _⟩ | ⟨_, g2, r2, rfl, m2⟩ | ⟨q, _⟩
              · exact absurd q (by decide)
              · rcases m2 with ⟨q, _⟩ | ⟨_, g3, r3, rfl, m2⟩ | ⟨q, _⟩
                · exact absurd q (by decide)
                · exact put (65, g1, g2, g3, 0, 0) (.inr ng :: r3) ⟨65, q, by simp, Or.inr (Or.inl ⟨rfl, r3, by simp [tb1, tb2, tb3], rfl⟩)⟩ (Or.inr (Or.inr ⟨hw, ng, r3, rfl, m2⟩))
                · exact absurd q (by decide)
              · exact absurd q (by decide)
            · exact absurd q (by decide)
          · exact two 77 q (Or.inr (Or.inr rfl))
          · exact zz 42 q (Or.inl rfl)
          · exact zz 33 q (Or.inr rfl)
      · cases h
