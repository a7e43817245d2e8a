/-! WHAT WAS TOLD: its numbers are those that a search wants -/
theorem sR_le {h1 h2 : Nat → Nat} : ∀ {a k : Nat}, (∀ g, h1 g ≤ h2 g) → sR h1 a k ≤ sR h2 a k
  | a, 0, _ => Nat.le_refl _
  | a, k + 1, h => Nat.add_le_add (h a) (sR_le h)
theorem sR_add (h1 h2 : Nat → Nat) : ∀ (a k : Nat), sR (fun g => h1 g + h2 g) a k = sR h1 a k + sR h2 a k
  | a, 0 => rfl
  | a, k + 1 => by simp only [sR, sR_add h1 h2 (a + 1) k]; omega
theorem sR_mem {h : Nat → Nat} : ∀ {a k g : Nat}, a ≤ g → g < a + k → h g ≤ sR h a k
  | a, 0, g, h1, h2 => by omega
  | a, k + 1, g, h1, h2 => by
    simp only [sR]
    by_cases e : a = g
    · subst e; omega
    · have := sR_mem (h := h) (a := a + 1) (k := k) (g := g) (by omega) (by omega); omega
theorem arK_1 (x : Nat) : (((if x = 77 then 1 else 0) + (if x = 77 then 1 else 0)) + (if x = 65 then 3 else 0)) + (if x = 35 then 2 else 0) ≤ arK x := by
  unfold arK
  by_cases h1 : x = 77
  · subst h1; decide
  · by_cases h2 : x = 65
    · subst h2; decide
    · by_cases h3 : x = 35
      · subst h3; decide
      · simp [h1, h2, h3]
/-- the numbers of what was told, and its whole goal -/
def cfT (C : Cf) (top : Nat) : Prop := cfOK C ∧ top < C.ng ∧ C.wt top ≤ 26 ∧ C.wm top ≤ C.mu ∧ ∀ q, C.oc top q ≤ 1
/-- the sizes of all parts, and which codes are parts where a list is told -/
def lpt (C : Cf) (g c : Nat) : Prop := (((C.tb g).1 = 61 ∨ (C.tb g).1 = 35) ∧ (C.p (5000 + 3 * g) = c ∨ C.p (5000 + 3 * g + 1) = c)) ∨ ((C.tb g).1 = 77 ∧ C.p (5000 + 3 * g + 1) = c) ∨ ((C.tb g).1 = 65 ∧ (C.p (5000 + 3 * g) = c ∨ C.p (5000 + 3 * g + 1) = c ∨ C.p (5000 + 3 * g + 2) = c))
def tSz (C : Cf) (nT : Nat) : Prop := (∀ c, 256 ≤ c → c < 256 + C.tp → C.p c % 2 = 1 → ∃ g, g < C.ng ∧ lpt C g c) ∧ ∃ sz gs : Nat → Nat, (∀ c, c < 256 → sz c = 1) ∧ (∀ c, 256 ≤ c → c < 256 + C.tp → sz (C.p (3000 + 2 * (c - 256))) + sz (C.p (3000 + 2 * (c - 256) + 1)) + 1 = sz c) ∧ sR gs 0 C.ng ≤ nT ∧ ∀ g, g < C.ng → ((C.tb g).1 = 61 ∨ (C.tb g).1 = 35 ∨ (C.tb g).1 = 77 → sz (C.p (5000 + 3 * g)) + sz (C.p (5000 + 3 * g + 1)) = gs g) ∧ ((C.tb g).1 = 65 → sz (C.p (5000 + 3 * g)) + sz (C.p (5000 + 3 * g + 1)) + sz (C.p (5000 + 3 * g + 2)) = gs g)
/-- what lies in a script as told -/
def scT (C : Cf) (t : rSg) (s top nT : Nat) : Prop := t s 5 = nI top ∧ t s 6 = nI C.ng ∧ t s 7 = nI C.tp ∧ t s 8 = nI nT ∧ cTo t s C.tp C.p ∧ cTab C t s ∧ (top = 0 → tSz C nT)
/-- the same, while it is read -/
def lpT (tb : Tb) (t : rSg) (g c : Nat) : Prop := (((tb g).1 = 61 ∨ (tb g).1 = 35) ∧ (t 233 (3 * g) = nI c ∨ t 233 (3 * g + 1) = nI c)) ∨ ((tb g).1 = 77 ∧ t 233 (3 * g + 1) = nI c) ∨ ((tb g).1 = 65 ∧ (t 233 (3 * g) = nI c ∨ t 233 (3 * g + 1) = nI c ∨ t 233 (3 * g + 2) = nI c))
theorem told_of {t : rSg} {tx : Nat → Int32} {tb : Tb} {n nG nT tp : Nat} (hn : n ≤ 96) (b1 : nG ≤ 24) (b2 : nT ≤ 40) (hR : RRun tx n n 0 ([103], 0, 0, none) (.inr (nG, nT, none))) (hM : MRt tx tb n) (hC : CD t tx nG tp n 0 ([103], 0, 0, none) 0 [0]) (hse : seld t nG tp nT) : ∃ C : Cf, C.tb = tb ∧ C.ng = nG ∧ C.tp = tp ∧ C.wt 0 ≤ 24 ∧ cfT C 0 ∧ scT C t 231 0 nT := by
  obtain ⟨kc, kc1, kc2⟩ := CD_cnt n 0 _ 0 _ _ hC hM hR
  have htp : tp ≤ 640 := by simp only [c116] at kc2; omega
  obtain ⟨⟨_, _⟩, m3, m4, p, p1, p2, p3, p4⟩ := CD_M (tb := tb) htp (by omega) n 0 _ 0 _ _ hn hC hM
  obtain ⟨k, wt, wm, oc, w0, w1, w2, w3, w4, w5⟩ := MR_w n 0 _ _ hM hR
  simp only at kc1 kc2 w0 w1 w3 w4 m4
  obtain rfl : kc = nG := by omega
  obtain rfl : k = kc := by omega
  have e116 : c116 [103] = 0 := by decide
  rw [e116] at kc2
  simp only [sumG] at w2 w3 w4
  have hpos : 0 < k := by have := m3.1.2; exact this
  have hp2 : ∀ q, q < tp → ∃ a b, t 234 (2 * q) = nI a ∧ t 234 (2 * q + 1) = nI b ∧ (a < 2 ^ 31 ∧ b < 2 ^ 31) ∧ p a + p b + 1 = p (256 + q) := fun q hq => by
    obtain ⟨a, b, y1, y2, y3, y4, _⟩ := p2 q (Nat.zero_le _) hq
    have l9 : ∀ {c}, cTd tp c → c < 2 ^ 31 := fun h => by unfold cTd at h; omega
    exact ⟨a, b, y1, y2, ⟨l9 y3.1, l9 y3.2⟩, y4⟩
  obtain ⟨_, kz, gs, z1, z2, z3, z4⟩ := CD_sz (n := n) (nT := nT) htp (by omega) p1 hp2 n 0 _ 0 _ hC hR
  simp only at z1 z2 z3
  obtain rfl : kz = k := by omega
  have z5 : sR gs 0 kz = nT := by
    rw [sumS_103] at z2
    simp only [sumS] at z2
    omega
  have hp' : ∀ c, ∃ v, ((∃ g, g < kz ∧ lpT tb t g c) → v = 2 * p c - 1) ∧ (¬ (∃ g, g < kz ∧ lpT tb t g c) → v = 2 * p c) := fun c => by
    rcases Classical.em (∃ g, g < kz ∧ lpT tb t g c) with h | h
    · exact ⟨_, fun _ => rfl, fun q => absurd h q⟩
    · exact ⟨_, fun q => absurd q h, fun _ => rfl⟩
  obtain ⟨p0, hpp0⟩ := Classical.axiomOfChoice hp'
  have ex : ∃ pp : Nat → Nat, (∀ c, c < 1000 → pp c = p0 c) ∧ (∀ j, j < 1500 → pp (3000 + j) = (t 234 j).toNatClampNeg) ∧ ∀ j, pp (5000 + j) = (t 233 j).toNatClampNeg := by
    refine ⟨fun c => if c < 1000 then p0 c else if c < 5000 then (t 234 (c - 3000)).toNatClampNeg else (t 233 (c - 5000)).toNatClampNeg, fun c hc => if_pos hc, fun j hj => ?_, fun j => ?_⟩
    · show (if 3000 + j < 1000 then _ else if 3000 + j < 5000 then _ else _) = _
      rw [if_neg (by omega), if_pos (by omega), Nat.add_sub_cancel_left]
    · show (if 5000 + j < 1000 then _ else if 5000 + j < 5000 then _ else _) = _
      rw [if_neg (by omega), if_neg (by omega), Nat.add_sub_cancel_left]
  obtain ⟨pp, pp0, pp3, pp5⟩ := ex
  have l9 : ∀ {c}, cTd tp c → c < 2 ^ 31 ∧ c < 1000 := fun h => by unfold cTd at h; omega
  have hpp : ∀ c, c < 1000 → ((∃ g, g < kz ∧ lpT tb t g c) → pp c = 2 * p c - 1) ∧ (¬ (∃ g, g < kz ∧ lpT tb t g c) → pp c = 2 * p c) := fun c hc => by
    rw [pp0 c hc]
    exact hpp0 c
  have r3 : ∀ j a, j < 1500 → t 234 j = nI a → a < 2 ^ 31 → pp (3000 + j) = a := fun j a h1 h2 h3 => by rw [pp3 j h1, h2, nI_clamp h3]
  have r5 : ∀ j a, t 233 j = nI a → a < 2 ^ 31 → pp (5000 + j) = a := fun j a h2 h3 => by rw [pp5 j, h2, nI_clamp h3]
  have pb : ∀ c, c < 1000 → pp c ≤ 2 * p c ∧ 2 * p c - 1 ≤ pp c := fun c hc => by
    rcases Classical.em (∃ g, g < kz ∧ lpT tb t g c) with h | h
    · have := (hpp c hc).1 h; omega
    · have := (hpp c hc).2 h; omega
  have po : ∀ c, cTd tp c → 1 ≤ p c ∧ p c ≤ 40 := fun c hc => by
    by_cases q : c < 256
    · rw [p1 c q]; omega
    · have hc3 : 256 ≤ c ∧ c < 256 + tp := by
        rcases hc with h | h | h
        · omega
        · omega
        · exact h
      obtain ⟨a, b, _, _, _, y4⟩ := hp2 (c - 256) (by omega)
      have := z4 (c - 256) (Nat.zero_le _) (by omega)
      rw [show 256 + (c - 256) = c by omega] at y4 this
      omega
  have rt : ∀ c, cTd tp c → (∃ g, g < kz ∧ lpT tb t g c) → c < 256 ∨ pp c % 2 = 1 := fun c hc h => by
    have := (hpp c (l9 hc).2).1 h
    have := po c hc
    exact Or.inr (by omega)
  refine ⟨(tp, kz, sR (fun g => if (tb g).1 = 77 then 1 else 0) 0 kz, (∃ g, g < kz ∧ (tb g).1 = 65), pp, tb, wt, wm, oc), rfl, rfl, rfl, by show wt 0 ≤ 24; omega, ⟨⟨?_, ?_, ?_, ?_⟩, hpos, by show wt 0 ≤ 26; omega, by show wm 0 ≤ sR (fun g => if (tb g).1 = 77 then 1 else 0) 0 kz; omega, fun q => by show oc 0 q ≤ 1; have := (w4 q).1; omega⟩, hse.2.2.1, hse.2.2.2.1, hse.2.2.2.2.1, hse.2.2.2.2.2, ⟨?_, ?_⟩, ?_, fun _ => ⟨?_, p, gs, p1, ?_, ?_, ?_⟩⟩
  · show kz ≤ 26; omega
  · rintro ⟨g, g1, g2⟩
    show tp + sR (fun g => if (tb g).1 = 77 then 1 else 0) 0 kz ≤ 18 ∧ ((∃ g, g < kz ∧ (tb g).1 = 35) → tp + sR (fun g => if (tb g).1 = 77 then 1 else 0) 0 kz ≤ 17)
    have a1 : sR (fun g => (((if (tb g).1 = 77 then 1 else 0) + (if (tb g).1 = 77 then 1 else 0)) + (if (tb g).1 = 65 then 3 else 0)) + (if (tb g).1 = 35 then 2 else 0)) 0 kz ≤ sR (fun g => arK (tb g).1) 0 kz := sR_le (fun g => arK_1 _)
    rw [sR_add, sR_add, sR_add] at a1
    have a2 := sR_mem (h := fun g => if (tb g).1 = 65 then 3 else 0) (a := 0) (k := kz) (g := g) (by omega) (by omega)
    simp only [if_pos g2] at a2
    refine ⟨by omega, ?_⟩
    rintro ⟨g', g3, g4⟩
    have a3 := sR_mem (h := fun g => if (tb g).1 = 35 then 2 else 0) (a := 0) (k := kz) (g := g') (by omega) (by omega)
    simp only [if_pos g4] at a3
    omega
  · show tp + sR (fun g => if (tb g).1 = 77 then 1 else 0) 0 kz ≤ 20
    have a1 : sR (fun g => ((if (tb g).1 = 77 then 1 else 0) + (if (tb g).1 = 77 then 1 else 0))) 0 kz ≤ sR (fun g => arK (tb g).1) 0 kz := sR_le (fun g => by have := arK_1 (tb g).1; omega)
    rw [sR_add] at a1
    omega
  · intro g hg
    obtain ⟨x1, x2, x3, x4⟩ := w1 g (Nat.zero_le _) hg
    exact ⟨x1, fun hk => ⟨(x2 hk).2.1, (x2 hk).2.2.1, (x2 hk).2.2.2⟩, x3, x4⟩
  · intro c hc
    show 0 < pp c ∧ pp c ≤ 100
    have := pb c (l9 hc).2
    have := po c hc
    omega
  · intro c c1 c2
    have c2 : c < 256 + tp := c2
    obtain ⟨a, b, y1, y2, y3, y4, y5, _, _⟩ := p2 (c - 256) (by omega) (by omega)
    rw [show 256 + (c - 256) = c by omega] at y4 y5
    refine ⟨a, b, y1, y2, y3.1, y3.2, ?_, r3 _ a (by omega) y1 (l9 y3.1).1, by rw [Nat.add_assoc]; exact r3 _ b (by omega) y2 (l9 y3.2).1⟩
    show pp a + pp b < pp c
    have := pb a (l9 y3.1).2
    have := pb b (l9 y3.2).2
    have := pb c (by omega)
    omega
  · intro g hg
    have hg : g < kz := hg
    obtain ⟨kk, y1, y2, y3⟩ := m4 g (Nat.zero_le _) hg
    refine ⟨kk, y1, y2, ?_⟩
    rcases y3 with ⟨q, x, y, g1, g2, g3, g4, g5⟩ | ⟨q, x, y, z, g1, g2, g3, g4, g5⟩ | q | q
    · refine Or.inl ⟨q, x, y, g1, g2, g3, g4, g5, ?_, ?_, r5 _ x g1 (l9 g3.1).1, by rw [Nat.add_assoc]; exact r5 _ y g2 (l9 g3.2).1⟩
      · by_cases k7 : kk = 77
        · exact Or.inl k7
        · exact Or.inr (rt x g3.1 ⟨g, hg, Or.inl ⟨by omega, Or.inl g1⟩⟩)
      · by_cases k7 : kk = 77
        · exact rt y g3.2 ⟨g, hg, Or.inr (Or.inl ⟨by omega, g2⟩)⟩
        · exact rt y g3.2 ⟨g, hg, Or.inl ⟨by omega, Or.inr g2⟩⟩
    · refine Or.inr (Or.inl ⟨⟨q, ⟨g, hg, by rw [y2]; exact q⟩⟩, x, y, z, g1, g2, g3, g4, g5.1, g5.2.1, g5.2.2, ?_, ?_, ?_, r5 _ x g1 (l9 g4.1).1, by rw [Nat.add_assoc]; exact r5 _ y g2 (l9 g4.2.1).1, by rw [Nat.add_assoc]; exact r5 _ z g3 (l9 g4.2.2).1⟩)
      · exact rt x g4.1 ⟨g, hg, Or.inr (Or.inr ⟨by omega, Or.inl g1⟩)⟩
      · exact rt y g4.2.1 ⟨g, hg, Or.inr (Or.inr ⟨by omega, Or.inr (Or.inl g2)⟩)⟩
      · exact rt z g4.2.2 ⟨g, hg, Or.inr (Or.inr ⟨by omega, Or.inr (Or.inr g3)⟩)⟩
    · exact Or.inr (Or.inr (Or.inl q))
    · exact Or.inr (Or.inr (Or.inr q))
  · intro c c1 c2 c3
    have c2 : c < 256 + tp := c2
    have c3 : pp c % 2 = 1 := c3
    rcases Classical.em (∃ g, g < kz ∧ lpT tb t g c) with h | h
    · obtain ⟨g, hg, h⟩ := h
      have w : ∀ j, t 233 j = nI c → pp (5000 + j) = c := fun j hj => r5 j c hj (by omega)
      refine ⟨g, hg, ?_⟩
      rcases h with ⟨k1, k2 | k2⟩ | ⟨k1, k2⟩ | ⟨k1, k2 | k2 | k2⟩
      · exact Or.inl ⟨k1, Or.inl (w _ k2)⟩
      · exact Or.inl ⟨k1, Or.inr (by rw [Nat.add_assoc]; exact w _ k2)⟩
      · exact Or.inr (Or.inl ⟨k1, by rw [Nat.add_assoc]; exact w _ k2⟩)
      · exact Or.inr (Or.inr ⟨k1, Or.inl (w _ k2)⟩)
      · exact Or.inr (Or.inr ⟨k1, Or.inr (Or.inl (by rw [Nat.add_assoc]; exact w _ k2))⟩)
      · exact Or.inr (Or.inr ⟨k1, Or.inr (Or.inr (by rw [Nat.add_assoc]; exact w _ k2))⟩)
    · have := (hpp c (by omega)).2 h; omega
  · intro c c1 c2
    have c2 : c < 256 + tp := c2
    obtain ⟨a, b, y1, y2, y3, y4⟩ := hp2 (c - 256) (by omega)
    rw [show 256 + (c - 256) = c by omega] at y4
    show p (pp (3000 + 2 * (c - 256))) + p (pp (3000 + 2 * (c - 256) + 1)) + 1 = p c
    rw [r3 _ a (by omega) y1 y3.1, Nat.add_assoc 3000 (2 * (c - 256)) 1, r3 _ b (by omega) y2 y3.2]
    exact y4
  · show sR gs 0 kz ≤ nT
    omega
  · intro g hg
    have hg : g < kz := hg
    obtain ⟨kk, y1, y2, _⟩ := m4 g (Nat.zero_le _) hg
    have kE : ∀ k, t 232 g = nI k → k < 256 → (tb g).1 = k := fun k e1 e2 => by
      have y9 : kk < 256 := by
        obtain ⟨k5, z5, z6, z7⟩ := m4 g (Nat.zero_le _) hg
        rcases z7 with ⟨q, _⟩ | ⟨q, _⟩ | ⟨q, _⟩ | q <;> omega
      rw [y1] at e1
      have := (nI_eq (by omega) (by omega)).mp e1
      omega
    show ((tb g).1 = 61 ∨ (tb g).1 = 35 ∨ (tb g).1 = 77 → p (pp (5000 + 3 * g)) + p (pp (5000 + 3 * g + 1)) = gs g) ∧ ((tb g).1 = 65 → p (pp (5000 + 3 * g)) + p (pp (5000 + 3 * g + 1)) + p (pp (5000 + 3 * g + 2)) = gs g)
    rcases z3 g (Nat.zero_le _) hg with ⟨k, k1, k2, k3, k4⟩ | ⟨k, k1, k2, k3⟩
    · have e := kE k k1 k2
      rw [e]
      refine ⟨fun q => ?_, fun q => ?_⟩
      · obtain ⟨x, y, x1, x2, x3, x4⟩ := k3 q
        rw [r5 _ x x1 x3.1, Nat.add_assoc 5000 (3 * g) 1, r5 _ y x2 x3.2]
        exact x4
      · obtain ⟨x, y, z, x1, x2, x5, x3, x4⟩ := k4 q
        rw [r5 _ x x1 x3.1, Nat.add_assoc 5000 (3 * g) 1, r5 _ y x2 x3.2.1, Nat.add_assoc 5000 (3 * g) 2, r5 _ z x5 x3.2.2]
        exact x4
    · have e := kE k k1 k2
      exact ⟨fun q => by omega, fun q => by omega⟩
