/-! WHAT WAS TOLD: its numbers are those that a search wants -/
theorem sR_le {h1 h2 : Nat → Nat} : ∀ {a k : Nat}, (∀ g, h1 g ≤ h2 g) → sR h1 a k ≤ sR h2 a k
  | a, 0, _ => Nat.le_refl _
  | a, k + 1, h => Nat.add_le_add (h a) (sR_le h)
theorem sR_add (h1 h2 : Nat → Nat) : ∀ (a k : Nat), sR (fun g => h1 g + h2 g) a k = sR h1 a k + sR h2 a k
  | a, 0 => rfl
  | a, k + 1 => by simp only [sR, sR_add h1 h2 (a + 1) k]; omega
theorem sR_mem {h : Nat → Nat} : ∀ {a k g : Nat}, a ≤ g → g < a + k → h g ≤ sR h a k
  | a, 0, g, h1, h2 => by omega
  | a, k + 1, g, h1, h2 => by
    simp only [sR]
    by_cases e : a = g
    · subst e; omega
    · have := sR_mem (h := h) (a := a + 1) (k := k) (g := g) (by omega) (by omega); omega
theorem arK_1 (x : Nat) : (((if x = 77 then 1 else 0) + (if x = 77 then 1 else 0)) + (if x = 65 then 3 else 0)) + (if x = 35 then 2 else 0) ≤ arK x := by
  unfold arK
  by_cases h1 : x = 77
  · subst h1; decide
  · by_cases h2 : x = 65
    · subst h2; decide
    · by_cases h3 : x = 35
      · subst h3; decide
      · simp [h1, h2, h3]
/-- the numbers of what was told, and its whole goal -/
def cfT (C : Cf) (top : Nat) : Prop := cfOK C ∧ top < C.ng ∧ C.wt top ≤ 26 ∧ C.wm top ≤ C.mu ∧ ∀ q, C.oc top q ≤ 1
/-- what lies in a script as told -/
def scT (C : Cf) (t : rSg) (s top nT : Nat) : Prop := t s 5 = nI top ∧ t s 6 = nI C.ng ∧ t s 7 = nI C.tp ∧ t s 8 = nI nT ∧ cTo t s C.tp C.p ∧ cTab C t s
theorem told_of {t : rSg} {tx : Nat → Int32} {tb : Tb} {n nG nT tp : Nat} (hn : n ≤ 96) (b1 : nG ≤ 24) (b2 : nT ≤ 40) (hR : RRun tx n n 0 ([103], 0, 0, none) (.inr (nG, nT, none))) (hM : MRt tx tb n) (hC : CD t tx nG tp n 0 ([103], 0, 0, none) 0 [0]) (hse : seld t nG tp nT) : ∃ C : Cf, C.tb = tb ∧ C.ng = nG ∧ C.tp = tp ∧ C.wt 0 ≤ 24 ∧ cfT C 0 ∧ scT C t 231 0 nT := by
  obtain ⟨kc, kc1, kc2⟩ := CD_cnt n 0 _ 0 _ _ hC hM hR
  have htp : tp ≤ 640 := by simp only [c116] at kc2; omega
  obtain ⟨⟨_, _⟩, m3, m4, p, p1, p2, p3, p4⟩ := CD_M (tb := tb) htp (by omega) n 0 _ 0 _ _ hn hC hM
  obtain ⟨k, wt, wm, oc, w0, w1, w2, w3, w4, w5⟩ := MR_w n 0 _ _ hM hR
  simp only at kc1 kc2 w0 w1 w3 w4 m4
  obtain rfl : kc = nG := by omega
  obtain rfl : k = kc := by omega
  have e116 : c116 [103] = 0 := by decide
  rw [e116] at kc2
  simp only [sumG] at w2 w3 w4
  have hpos : 0 < k := by have := m3.1.2; exact this
  refine ⟨(tp, k, sR (fun g => if (tb g).1 = 77 then 1 else 0) 0 k, (∃ g, g < k ∧ (tb g).1 = 65), p, tb, wt, wm, oc), rfl, rfl, rfl, by show wt 0 ≤ 24; omega, ⟨⟨?_, ?_, ?_, ?_⟩, hpos, by show wt 0 ≤ 26; omega, by show wm 0 ≤ sR (fun g => if (tb g).1 = 77 then 1 else 0) 0 k; omega, fun q => by show oc 0 q ≤ 1; have := (w4 q).1; omega⟩, hse.2.2.1, hse.2.2.2.1, hse.2.2.2.2.1, hse.2.2.2.2.2, ⟨?_, ?_⟩, ?_⟩
  · show k ≤ 26; omega
  · rintro ⟨g, g1, g2⟩
    show tp + sR (fun g => if (tb g).1 = 77 then 1 else 0) 0 k ≤ 18 ∧ ((∃ g, g < k ∧ (tb g).1 = 35) → tp + sR (fun g => if (tb g).1 = 77 then 1 else 0) 0 k ≤ 17)
    have a1 : sR (fun g => (((if (tb g).1 = 77 then 1 else 0) + (if (tb g).1 = 77 then 1 else 0)) + (if (tb g).1 = 65 then 3 else 0)) + (if (tb g).1 = 35 then 2 else 0)) 0 k ≤ sR (fun g => arK (tb g).1) 0 k := sR_le (fun g => arK_1 _)
    rw [sR_add, sR_add, sR_add] at a1
    have a2 := sR_mem (h := fun g => if (tb g).1 = 65 then 3 else 0) (a := 0) (k := k) (g := g) (by omega) (by omega)
    simp only [if_pos g2] at a2
    refine ⟨by omega, ?_⟩
    rintro ⟨g', g3, g4⟩
    have a3 := sR_mem (h := fun g => if (tb g).1 = 35 then 2 else 0) (a := 0) (k := k) (g := g') (by omega) (by omega)
    simp only [if_pos g4] at a3
    omega
  · show tp + sR (fun g => if (tb g).1 = 77 then 1 else 0) 0 k ≤ 20
    have a1 : sR (fun g => ((if (tb g).1 = 77 then 1 else 0) + (if (tb g).1 = 77 then 1 else 0))) 0 k ≤ sR (fun g => arK (tb g).1) 0 k := sR_le (fun g => by have := arK_1 (tb g).1; omega)
    rw [sR_add] at a1
    omega
  · intro g hg
    obtain ⟨x1, x2, x3, x4⟩ := w1 g (Nat.zero_le _) hg
    exact ⟨x1, fun hk => ⟨(x2 hk).2.1, (x2 hk).2.2.1, (x2 hk).2.2.2⟩, x3, x4⟩
  · intro c hc
    show 0 < p c ∧ p c ≤ 100
    by_cases q : c < 256
    · rw [p1 c q]; omega
    · have hc3 : 256 ≤ c ∧ c < 256 + tp := by
        rcases hc with h | h | h
        · omega
        · omega
        · exact h
      obtain ⟨a, b, _, _, _, y4, y5, _, _⟩ := p2 (c - 256) (by omega) (by omega)
      rw [show 256 + (c - 256) = c by omega] at y4 y5
      omega
  · intro c c1 c2
    have c2 : c < 256 + tp := c2
    obtain ⟨a, b, y1, y2, y3, y4, y5, _, _⟩ := p2 (c - 256) (by omega) (by omega)
    rw [show 256 + (c - 256) = c by omega] at y4 y5
    exact ⟨a, b, y1, y2, y3.1, y3.2, y4⟩
  · intro g hg
    have hg : g < k := hg
    obtain ⟨kk, y1, y2, y3⟩ := m4 g (Nat.zero_le _) hg
    refine ⟨kk, y1, y2, ?_⟩
    rcases y3 with q | ⟨q, q2⟩ | q | q
    · exact Or.inl q
    · exact Or.inr (Or.inl ⟨⟨q, ⟨g, hg, by rw [y2]; exact q⟩⟩, q2⟩)
    · exact Or.inr (Or.inr (Or.inl q))
    · exact Or.inr (Or.inr (Or.inr q))
