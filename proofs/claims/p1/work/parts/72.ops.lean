/-! CALLS ON NEW OBJECTS: goal, queue, count, image -/
theorem c_scopy {s s2 : Nat} (hs : isScr s) (hs2 : isScr s2) (hss : s + 3 < s2 ∨ s2 + 3 < s) (sg : rSg) {g p : Nat} (hg : g ≤ 326) (hp : p ≤ 640) : EvS rSkel 1 27 [.inr (.inr (some s)), .inr (.inr (some s2)), .inl (nI g), .inl (nI p)] sg (fun r t => r = none ∧ (∀ q, q ≠ s → q ≠ s + 1 → q ≠ s + 2 → q ≠ s + 3 → t q = sg q) ∧ t s 3 = nI g ∧ t s 4 = nI p ∧ t s 5 = sg s2 5 ∧ t s 6 = sg s2 6 ∧ t s 7 = sg s2 7 ∧ t s 8 = sg s2 8 ∧ (∀ j, j < g → t (s + 1) j = sg (s2 + 1) j) ∧ (∀ j, j < 3 * g → t (s + 2) j = sg (s2 + 2) j) ∧ (∀ j, j < 2 * p → t (s + 3) j = sg (s2 + 3) j)) := by
  refine w_27 sg s hs s2 hs2 hss _ _ ?_
  have e1 : imin (imax (nI g) 0) 326 = nI g := imin_nI (m := 326) hg (by decide)
  have e2 : imin (imax (nI p) 0) 640 = nI p := imin_nI (m := 640) hp (by decide)
  have e3 : (3 : Int32) * nI g = nI (3 * g) := by rw [show (3 : Int32) = nI 3 from rfl, pk_mul]
  have e4 : (2 : Int32) * nI p = nI (2 * p) := by rw [show (2 : Int32) = nI 2 from rfl, pk_mul]
  rw [e1, e2, e3, e4, nI_clamp (by omega), nI_clamp (by omega), nI_clamp (by omega), cl0]
  refine ⟨⟨by decide, by decide, nI_pos (by omega), by omega, by omega⟩, ⟨by decide, by decide, nI_pos (by omega), by omega, by omega⟩, ⟨by decide, by decide, nI_pos (by omega), by omega, by omega⟩, ?_⟩
  generalize eA : up2 (up2 sg s 3 (nI g)) s 4 (nI p) = Z
  have a1 : ∀ q, q ≠ s → Z q = sg q := fun q h => by rw [← eA, up2_nk _ _ _ h, up2_nk _ _ _ h]
  have a3 : Z s 3 = nI g := by rw [← eA, up2_nj _ _ _ (by decide), up2_same]
  have a4 : Z s 4 = nI p := by rw [← eA, up2_same]
  generalize eB : upC Z (s + 1) (va_cpy (Z (s2 + 1)) (Z (s + 1)) 0 0 g) = B
  have b1 : ∀ q, q ≠ s + 1 → B q = Z q := fun q h => by rw [← eB, upC_ne _ _ h]
  have b2 : ∀ j, j < g → B (s + 1) j = sg (s2 + 1) j := fun j h => by rw [← eB, upC_same, cpy_lt h, a1 _ (by omega)]
  generalize eC : upC B (s + 2) (va_cpy (B (s2 + 2)) (B (s + 2)) 0 0 (3 * g)) = C
  have c1 : ∀ q, q ≠ s + 2 → C q = B q := fun q h => by rw [← eC, upC_ne _ _ h]
  have c2 : ∀ j, j < 3 * g → C (s + 2) j = sg (s2 + 2) j := fun j h => by rw [← eC, upC_same, cpy_lt h, b1 _ (by omega), a1 _ (by omega)]
  generalize eD : upC C (s + 3) (va_cpy (C (s2 + 3)) (C (s + 3)) 0 0 (2 * p)) = D
  have d1 : ∀ q, q ≠ s + 3 → D q = C q := fun q h => by rw [← eD, upC_ne _ _ h]
  have d2 : ∀ j, j < 2 * p → D (s + 3) j = sg (s2 + 3) j := fun j h => by rw [← eD, upC_same, cpy_lt h, c1 _ (by omega), b1 _ (by omega), a1 _ (by omega)]
  refine ⟨rfl, fun q h0 h1 h2 h3 => ?_, ?_, ?_, ?_, ?_, ?_, ?_, fun j hj => ?_, fun j hj => ?_, fun j hj => ?_⟩
  · rw [up2_nk _ _ _ h0, up2_nk _ _ _ h0, up2_nk _ _ _ h0, up2_nk _ _ _ h0, d1 q h3, c1 q h2, b1 q h1, a1 q h0]
  · rw [up2_nj _ _ _ (by decide), up2_nj _ _ _ (by decide), up2_nj _ _ _ (by decide), up2_nj _ _ _ (by decide), d1 s (by omega), c1 s (by omega), b1 s (by omega), a3]
  · rw [up2_nj _ _ _ (by decide), up2_nj _ _ _ (by decide), up2_nj _ _ _ (by decide), up2_nj _ _ _ (by decide), d1 s (by omega), c1 s (by omega), b1 s (by omega), a4]
  · rw [up2_nj _ _ _ (by decide), up2_nj _ _ _ (by decide), up2_nj _ _ _ (by decide), up2_same]
  · rw [up2_nj _ _ _ (by decide), up2_nj _ _ _ (by decide), up2_same]
  · rw [up2_nj _ _ _ (by decide), up2_same]
  · rw [up2_same]
  · rw [up2_nk _ _ _ (by omega), up2_nk _ _ _ (by omega), up2_nk _ _ _ (by omega), up2_nk _ _ _ (by omega), d1 _ (by omega), c1 _ (by omega), b2 j hj]
  · rw [up2_nk _ _ _ (by omega), up2_nk _ _ _ (by omega), up2_nk _ _ _ (by omega), up2_nk _ _ _ (by omega), d1 _ (by omega), c2 j hj]
  · rw [up2_nk _ _ _ (by omega), up2_nk _ _ _ (by omega), up2_nk _ _ _ (by omega), up2_nk _ _ _ (by omega), d2 j hj]
theorem scr231 : isScr 231 := ⟨by decide, sk_231, sk_232, sk_233, sk_234⟩
theorem scr455 : isScr 455 := ⟨by decide, sk_455, sk_456, sk_457, sk_458⟩
theorem o_goal {s : rSg} (hc : clF s) (hm : mdF s) : opI s 73 129 [] := by
  refine op2 hm (d := 5) (d2 := 5) (r := -1000 - 0) (by decide) (by decide) ?_ (fun s2 h => ?_)
  · refine w_73 s (w_5 s 687 96 row687 (w_6 s (w_20 s 231 scr231 ⟨rfl, ?_⟩)))
    generalize eZ : up2 (up2 (up2 (up2 (up2 (up2 s 231 3 0) 231 4 0) 678 4 0) 678 5 0) 678 6 0) 678 7 (-1) = Z
    have z4 : Z 678 4 = 0 := by rw [← eZ, up2_nj _ _ _ (by decide), up2_nj _ _ _ (by decide), up2_nj _ _ _ (by decide), up2_same]
    have z0 : ∀ q, q ≠ 231 → q ≠ 678 → Z q = s q := fun q h1 h2 => by rw [← eZ, up2_nk _ _ _ h2, up2_nk _ _ _ h2, up2_nk _ _ _ h2, up2_nk _ _ _ h2, up2_nk _ _ _ h1, up2_nk _ _ _ h1]
    refine w_7 Z 0 (-1) 0 ⟨fun q => absurd q (by rw [z4]; decide), fun _ => ⟨fun q => absurd q (by rw [z4]; decide), fun _ => ⟨by rw [z4]; decide, by rw [z4]; decide, by rw [z4]; decide, rfl, rfl, ?_⟩⟩⟩
    generalize eY : up2 (up2 (up2 (up2 Z 679 (Z 678 4).toNatClampNeg 0) 680 (Z 678 4).toNatClampNeg (-1)) 681 (Z 678 4).toNatClampNeg 0) 678 4 (Z 678 4 + 1) = Y
    have y4 : Y 678 4 = 1 := by rw [← eY, up2_same, z4]; rfl
    have y0 : ∀ q, q ≠ 231 → (q < 678 ∨ 681 < q) → Y q = s q := fun q h1 h2 => by rw [← eY, up2_nk _ _ _ (by omega), up2_nk _ _ _ (by omega), up2_nk _ _ _ (by omega), up2_nk _ _ _ (by omega), z0 q h1 (by omega)]
    refine w_16 Y 687 96 row687 ⟨_, rfl, ?_⟩
    rw [y0 687 (by decide) (by decide), hc.2.2.2.2.2.1]
    refine w_5_11 Y 687 96 row687 0 0 ⟨fun _ => ⟨fun q => absurd q (by rw [y4]; decide), fun _ => ⟨_, rfl, w_18 Y 687 96 row687 ⟨rfl, fun q => absurd q (by decide), fun _ => ⟨rfl, fun q hq => ?_⟩⟩⟩⟩, fun q => absurd (by decide) q⟩
    rw [up2_nk _ _ _ (by omega), y0 q (by omega) (by omega)]
  · refine w_129 s2 (w_130 s2 (w_131 _ 1 103 ?_))
    generalize eZ : up2 (up2 (up2 (up2 (up2 s2 725 43 0) 725 44 (-1)) 725 45 0) 725 46 0) 725 17 0 = Z
    have z17 : Z 725 17 = 0 := by rw [← eZ, up2_same]
    have z43 : Z 725 43 = 0 := by rw [← eZ, up2_nj _ _ _ (by decide), up2_nj _ _ _ (by decide), up2_nj _ _ _ (by decide), up2_nj _ _ _ (by decide), up2_same]
    have z39 : Z 725 39 = 0 := by rw [← eZ, up2_nj _ _ _ (by decide), up2_nj _ _ _ (by decide), up2_nj _ _ _ (by decide), up2_nj _ _ _ (by decide), up2_nj _ _ _ (by decide), (md_all h).1]
    refine w_131_2 Z 1 103 0 ⟨fun q => absurd q (by decide), fun _ => ⟨by rw [z17]; decide, ?_⟩⟩
    generalize eY : up2 (up2 Z 755 (Z 725 17).toNatClampNeg 103) 725 17 (Z 725 17 + 1) = Y
    have y17 : Y 725 17 = 1 := by rw [← eY, up2_same, z17]; rfl
    have y43 : Y 725 43 = 0 := by rw [← eY, up2_nj _ _ _ (by decide), up2_nk _ _ _ (by decide), z43]
    have y39 : Y 725 39 = 0 := by rw [← eY, up2_nj _ _ _ (by decide), up2_nk _ _ _ (by decide), z39]
    have y55 : Y 755 0 = 103 := by rw [← eY, up2_nk _ _ _ (by decide), z17]; exact up2_same _ _ _ _
    refine w_131_2 Y 1 103 (0 + 1) ⟨fun _ => ⟨rfl, ?_⟩, fun q => absurd (by decide) q⟩
    refine w_130_32 Y ⟨fun q => absurd q (by rw [y17]; decide), fun _ => ⟨fun _ => ⟨by rw [y17]; decide, ?_⟩, fun q => absurd (by rw [y39, y43]; decide) q⟩⟩
    rw [y17, show (1 - 1 : Int32).toNatClampNeg = 0 from rfl, y55]
    refine w_132 _ (-1) 103 ⟨fun _ => ⟨fun _ => w_134 _ (-1) ?_, fun q => absurd (by decide) q⟩, fun q => absurd (by decide) q⟩
    refine ⟨fun q => absurd q (by decide), fun _ => ⟨fun q => absurd q (by decide), fun _ => ⟨fun q => absurd q (by decide), fun _ => ⟨fun q => absurd q (by decide), fun _ => ⟨fun q => absurd q (by decide), fun _ => ⟨fun q => absurd q (by decide), fun _ => ⟨fun q => absurd q (by decide), fun _ => ⟨fun q => absurd q (by decide), fun _ => ?_⟩⟩⟩⟩⟩⟩⟩⟩
    refine ⟨_, rfl, bN0, _, rfl, fun q => absurd rfl q, fun _ => ⟨_, rfl, fun q => absurd rfl q, fun _ => ?_⟩⟩
    rw [up2_nj _ _ _ (by decide), y43]
theorem c_first {s : rSg} {b h : Nat} (hb : isSeaA rSkel b) (hh : s b 7 = nI h) (h9 : h < 40) {P : Option rv → rSg → Prop} (hP : isSt (b + 6 + 3 * h) → P (some (.inr (.inr (some (b + 6 + 3 * h))))) s) : EvS rSkel 2 38 [.inr (.inr (some b))] s P := by
  refine w_38 s b hb.1 ((c_waitingAt hb s (h := h) (i := 0) hh (by omega)).imp ?_)
  rintro _ s ⟨rfl, rfl⟩
  have e : (h + 0) % 40 = h := by omega
  rw [e]
  exact ⟨_, rfl, hb.2.1 h h9, hP (hb.2.1 h h9)⟩
theorem c_bits0 (s : rSg) {P : Option rv → rSg → Prop} (h : P (some (.inl 0)) s) : EvS rSkel 1 208 [.inl 0] s P := w_208 s 0 h
theorem m_len0 {s : rSg} {P : Option rv → rSg → Prop} (h : P (some (.inl 0)) s) : EvS rSkel 1 142 [.inr (.inr (some 725)), .inl 0] s P := w_142 s 0 (w_142_4 s 0 0 ⟨fun _ => h, fun q => absurd (by decide) q⟩)
theorem m_len1 {s : rSg} (e : s 735 1 = 0) {P : Option rv → rSg → Prop} (h : P (some (.inl 1)) s) : EvS rSkel 1 142 [.inr (.inr (some 725)), .inl 1] s P := by
  refine w_142 s 1 (w_142_4 s 0 1 ⟨fun q => absurd q (by decide), fun _ => ⟨by decide, ?_⟩⟩)
  rw [show (1 : Int32).toNatClampNeg = 1 from rfl, e]
  exact w_142_4 s (0 + 1) 0 ⟨fun _ => h, fun q => absurd (by decide) q⟩
theorem o_queue {s : rSg} (hc : clF s) (hm : mdF s) (a : Int32) : opI s 86 175 [.inl a] := by
  obtain ⟨c7, c8, c9, c10, c11, c12, d2, d3, d4, d5⟩ := se_all hc.1
  have ms : ∀ s2, mdF s2 → ∀ Q : Option rv → rSg → Prop, Q (some (.inl 0)) s2 → EvS rSkel 1 125 [.inr (.inr (some 725)), .inl 0] s2 Q := by
    intro s2 h Q hQ
    obtain ⟨_, _, _, _, m21, m46, _⟩ := md_all h
    refine (ev_m_slot 0 s2 (z := 0) (h := 0) m21 (by decide) m46 (j := 0) (by decide)).imp ?_
    rintro _ _ ⟨rfl, rfl⟩
    exact hQ
  by_cases h0 : a = 0
  · subst h0
    refine op2 hm (d := 3) (d2 := 2) (r := 1) (by decide) (by decide) (w_86 s 0 ⟨fun _ => ⟨by rw [c8], fr.rfl'⟩, fun q => absurd q (by decide), fun q => absurd q (by decide), fun q => absurd q (by decide), fun q => absurd q (by decide), fun q => absurd q (by decide), fun q => absurd rfl q.1⟩) (fun s2 h => w_175 s2 0 (ms s2 h _ ⟨_, rfl, ?_⟩))
    obtain ⟨_, _, _, _, m21, m46, m47, m48, m49, m50, m51⟩ := md_all h
    exact ⟨fun _ => by rw [m47], fun q => absurd q (by decide), fun q => absurd q (by decide), fun q => absurd q (by decide), fun q => absurd q (by decide), fun q => absurd q (by decide), fun q => absurd rfl q.1⟩
  by_cases h1 : a = 1
  · subst h1
    refine op2 hm (d := 3) (d2 := 2) (r := 0) (by decide) (by decide) (w_86 s 1 ⟨fun q => absurd q (by decide), fun _ => ⟨by rw [c11], fr.rfl'⟩, fun q => absurd q (by decide), fun q => absurd q (by decide), fun q => absurd q (by decide), fun q => absurd q (by decide), fun q => absurd rfl q.2.1⟩) (fun s2 h => w_175 s2 1 (ms s2 h _ ⟨_, rfl, ?_⟩))
    obtain ⟨_, _, _, _, m21, m46, m47, m48, m49, m50, m51⟩ := md_all h
    exact ⟨fun q => absurd q (by decide), fun _ => by rw [m50], fun q => absurd q (by decide), fun q => absurd q (by decide), fun q => absurd q (by decide), fun q => absurd q (by decide), fun q => absurd rfl q.2.1⟩
  by_cases h2 : a = 2
  · subst h2
    refine op2 hm (d := 3) (d2 := 2) (r := 1) (by decide) (by decide) (w_86 s 2 ⟨fun q => absurd q (by decide), fun q => absurd q (by decide), fun _ => ⟨by rw [c12], fr.rfl'⟩, fun q => absurd q (by decide), fun q => absurd q (by decide), fun q => absurd q (by decide), fun q => absurd rfl q.2.2.1⟩) (fun s2 h => w_175 s2 2 (ms s2 h _ ⟨_, rfl, ?_⟩))
    obtain ⟨_, _, _, _, m21, m46, m47, m48, m49, m50, m51⟩ := md_all h
    exact ⟨fun q => absurd q (by decide), fun q => absurd q (by decide), fun _ => by rw [m51], fun q => absurd q (by decide), fun q => absurd q (by decide), fun q => absurd q (by decide), fun q => absurd rfl q.2.2.1⟩
  by_cases h3 : a = 3
  · subst h3
    refine op2 hm (d := 3) (d2 := 2) (r := 1) (by decide) (by decide) (w_86 s 3 ⟨fun q => absurd q (by decide), fun q => absurd q (by decide), fun q => absurd q (by decide), fun _ => ⟨fun _ => c_first seaA6 c7 (by decide) (fun h => ⟨_, rfl, h, by show some (.inl (s (6 + 6) 3) : rv) = _; rw [d3], fr.rfl'⟩), fun q => absurd (by rw [c8]; decide) q⟩, fun q => absurd q (by decide), fun q => absurd q (by decide), fun q => absurd rfl q.2.2.2.1⟩) (fun s2 h => w_175 s2 3 (ms s2 h _ ⟨_, rfl, ?_⟩))
    obtain ⟨_, _, _, _, m21, m46, m47, m48, m49, m50, m51⟩ := md_all h
    exact ⟨fun q => absurd q (by decide), fun q => absurd q (by decide), fun q => absurd q (by decide), fun _ => ⟨fun _ => ⟨by decide, by rw [show (0 : Int32).toNatClampNeg = 0 from rfl, h.2.2.2.2.2.2.2.2.2.2.2.2.1]; exact m_len1 h.2.2.2.2.2.2.2.2.2.2.2.2.2.2.2.2.2.2.2.2.1 ⟨_, rfl, rfl⟩⟩, fun q => absurd (by rw [m47]; decide) q⟩, fun q => absurd q (by decide), fun q => absurd q (by decide), fun q => absurd rfl q.2.2.2.1⟩
  by_cases h4 : a = 4
  · subst h4
    refine op2 hm (d := 3) (d2 := 2) (r := 0) (by decide) (by decide) (w_86 s 4 ⟨fun q => absurd q (by decide), fun q => absurd q (by decide), fun q => absurd q (by decide), fun q => absurd q (by decide), fun _ => ⟨fun _ => c_first seaA6 c7 (by decide) (fun h => ⟨_, rfl, h, by show EvS rSkel 1 208 [.inl (s (6 + 6) 4)] s _; rw [d4]; exact c_bits0 s ⟨_, rfl, rfl, fr.rfl'⟩⟩), fun q => absurd (by rw [c8]; decide) q⟩, fun q => absurd q (by decide), fun q => absurd rfl q.2.2.2.2.1⟩) (fun s2 h => w_175 s2 4 (ms s2 h _ ⟨_, rfl, ?_⟩))
    obtain ⟨_, _, _, _, m21, m46, m47, m48, m49, m50, m51⟩ := md_all h
    exact ⟨fun q => absurd q (by decide), fun q => absurd q (by decide), fun q => absurd q (by decide), fun q => absurd q (by decide), fun _ => ⟨fun _ => ⟨by decide, by rw [show (0 : Int32).toNatClampNeg = 0 from rfl, h.2.2.2.2.2.2.2.2.2.2.2.2.2.1]; exact m_len0 ⟨_, rfl, rfl⟩⟩, fun q => absurd (by rw [m47]; decide) q⟩, fun q => absurd q (by decide), fun q => absurd rfl q.2.2.2.2.1⟩
  by_cases h5 : a = 5
  · subst h5
    refine op2 hm (d := 3) (d2 := 2) (r := 6) (by decide) (by decide) (w_86 s 5 ⟨fun q => absurd q (by decide), fun q => absurd q (by decide), fun q => absurd q (by decide), fun q => absurd q (by decide), fun q => absurd q (by decide), fun _ => ⟨fun _ => c_first seaA6 c7 (by decide) (fun h => ⟨_, rfl, h, by show some (.inl (s (6 + 6) 2) : rv) = _; rw [d2], fr.rfl'⟩), fun q => absurd (by rw [c8]; decide) q⟩, fun q => absurd rfl q.2.2.2.2.2⟩) (fun s2 h => w_175 s2 5 (ms s2 h _ ⟨_, rfl, ?_⟩))
    obtain ⟨_, _, _, _, m21, m46, m47, m48, m49, m50, m51⟩ := md_all h
    exact ⟨fun q => absurd q (by decide), fun q => absurd q (by decide), fun q => absurd q (by decide), fun q => absurd q (by decide), fun q => absurd q (by decide), fun _ => ⟨fun _ => ⟨by decide, by rw [show (0 : Int32).toNatClampNeg = 0 from rfl, h.2.2.2.2.2.2.2.2.2.2.2.2.2.2.1]⟩, fun q => absurd (by rw [m47]; decide) q⟩, fun q => absurd rfl q.2.2.2.2.2⟩
  refine op2 hm (d := 3) (d2 := 2) (r := -2) (by decide) (by decide) (w_86 s a ⟨fun q => absurd q h0, fun q => absurd q h1, fun q => absurd q h2, fun q => absurd q h3, fun q => absurd q h4, fun q => absurd q h5, fun _ => c_ref fr.rfl' (-2)⟩) (fun s2 h => w_175 s2 a (ms s2 h _ ⟨_, rfl, ?_⟩))
  exact ⟨fun q => absurd q h0, fun q => absurd q h1, fun q => absurd q h2, fun q => absurd q h3, fun q => absurd q h4, fun q => absurd q h5, fun _ => m_ref (by decide) _⟩
theorem m_counts {s : rSg} (hm : mdF s) : EvS rSkel 2 207 [.inr (.inr (some 725))] s (fun v t => v = none ∧ t 725 45 = 1 ∧ t 725 46 = 0 ∧ (∀ q, q ≠ 725 → t q = s q) ∧ (∀ j, j ≠ 45 → j ≠ 46 → t 725 j = s 725 j)) := by
  refine w_207 s ?_
  generalize eZ : up2 (up2 s 725 45 0) 725 46 0 = Z
  have z0 : ∀ q, q ≠ 725 → Z q = s q := fun q h => by rw [← eZ, up2_nk _ _ _ h, up2_nk _ _ _ h]
  have z1 : ∀ j, j ≠ 45 → j ≠ 46 → Z 725 j = s 725 j := fun j h1 h2 => by rw [← eZ, up2_nj _ _ _ h2, up2_nj _ _ _ h1]
  have z45 : Z 725 45 = 0 := by rw [← eZ, up2_nj _ _ _ (by decide), up2_same]
  have z46 : Z 725 46 = 0 := by rw [← eZ, up2_same]
  have e40 := (md_all hm).2.1
  have e53 : s 753 0 = 42 := hm.2.2.2.2.2.2.2.2.2.2.2.2.2.2.2.2.2.2.2.2.2.2.2
  refine w_207_12 Z 0 ⟨fun q => absurd q (by rw [z1 40 (by decide) (by decide), e40]; decide), fun _ => ⟨by decide, ?_⟩⟩
  rw [show (0 : Int32).toNatClampNeg = 0 from rfl, z0 753 (by decide), e53]
  refine (ev_m_isIn 0 Z 42 97 102).imp ?_
  rintro _ Z ⟨rfl, rfl⟩
  refine ⟨_, rfl, fun q => absurd (by decide) q, fun _ => (ev_m_isIn 0 Z 42 48 57).imp ?_⟩
  rintro _ Z ⟨rfl, rfl⟩
  refine ⟨_, rfl, fun q => absurd (by decide) q, fun _ => ⟨fun q => absurd q (by decide), fun _ => ⟨fun _ => ?_, fun q => absurd (by decide) q⟩⟩⟩
  refine w_207_66 Z 0 42 0 ⟨fun _ => ⟨fun q => absurd rfl q, fun _ => ⟨fun _ => ?_, fun q => absurd (by decide) q⟩⟩, fun q => absurd rfl q⟩
  rw [z45, z46]
  refine w_207_12 _ (0 + 1) ⟨fun _ => ⟨rfl, ?_, ?_, fun q h => ?_, fun j h1 h2 => ?_⟩, fun q => absurd (by rw [up2_nj _ _ _ (by decide), up2_nj _ _ _ (by decide), z1 40 (by decide) (by decide), e40]; decide) q⟩
  · rw [up2_same]; rfl
  · rw [up2_nj _ _ _ (by decide), up2_same]; rfl
  · rw [up2_nk _ _ _ h, up2_nk _ _ _ h, z0 q h]
  · rw [up2_nj _ _ _ h1, up2_nj _ _ _ h2, z1 j h1 h2]
theorem o_count {s : rSg} (hc : clF s) (hm : mdF s) (a : Int32) : opI s 112 206 [.inl a] := by
  obtain ⟨c7, c8, c9, c10, c11, c12, _⟩ := se_all hc.1
  have cc : ∀ r : Int32, g_112_22 a s (fun v s2 => v = some (.inl r) ∧ fr s s2) → ¬ (¬ a < 11 ∧ ¬ 16 < a) → EvS rSkel 2 112 [.inr (.inr (some 0)), .inl a] s (fun v s2 => v = some (.inl r) ∧ fr s s2) := fun r hg hn => w_112 s a ⟨fun _ => hg, fun h1 => ⟨fun _ => hg, fun h2 => absurd ⟨h1, h2⟩ hn⟩⟩
  have mm : ∀ s2, mdF s2 → ¬ (¬ a < 11 ∧ ¬ 16 < a) → ∀ r : Int32, (∀ t : rSg, mdF s2 → t 725 45 = 1 → t 725 46 = 0 → (∀ q, q ≠ 725 → t q = s2 q) → (∀ j, j ≠ 45 → j ≠ 46 → t 725 j = s2 725 j) → (a = 0 → t 749 0 = r) ∧ (a = 1 → t 748 0 = r) ∧ (a = 2 → t 725 45 = r) ∧ (a = 3 → t 725 46 = r) ∧ (a = 4 → t 747 0 = r) ∧ (a = 5 → t 750 0 = r) ∧ (a = 6 → t 725 58 = r) ∧ (a = 7 → t 725 39 = r) ∧ (¬ a = 0 ∧ ¬ a = 1 ∧ ¬ a = 2 ∧ ¬ a = 3 ∧ ¬ a = 4 ∧ ¬ a = 5 ∧ ¬ a = 6 ∧ ¬ a = 7 → (-9 : Int32) = r)) → EvS rSkel 3 206 [.inr (.inr (some 725)), .inl a] s2 (fun v2 _ => v2 = some (.inl r)) := by
    intro s2 h hn r hr
    refine w_206 s2 a ((ev_m_isIn 0 s2 a 11 16).imp ?_)
    rintro _ _ ⟨rfl, rfl⟩
    have e : (if a < 11 then (0 : Int32) else if 16 < a then 0 else 1) = 0 := by
      by_cases q : a < 11
      · rw [if_pos q]
      · rw [if_neg q]
        by_cases q2 : 16 < a
        · rw [if_pos q2]
        · exact absurd ⟨q, q2⟩ hn
    rw [e]
    refine ⟨_, rfl, fun _ => (m_counts h).imp ?_, fun q => absurd rfl q⟩
    rintro _ t ⟨rfl, t1, t2, t3, t4⟩
    obtain ⟨k0, k1, k2, k3, k4, k5, k6, k7, k8⟩ := hr t h t1 t2 t3 t4
    exact ⟨rfl, fun q => by rw [k0 q], fun q => by rw [k1 q], fun q => by rw [k2 q], fun q => by rw [k3 q], fun q => by rw [k4 q], fun q => by rw [k5 q], fun q => by rw [k6 q], fun q => by rw [k7 q], fun q => by rw [k8 q]⟩
  by_cases h0 : a = 0
  · subst h0
    refine op2 hm (d := 2) (d2 := 3) (r := 0) (by decide) (by decide) (cc 0 (w_112_22 s 0 ⟨fun _ => ⟨by rw [c9], fr.rfl'⟩, fun q => absurd q (by decide), fun q => absurd q (by decide), fun q => absurd q (by decide), fun q => absurd q (by decide), fun q => absurd q (by decide), fun q => absurd q (by decide), fun q => absurd q (by decide), fun q => absurd rfl q.1⟩) (by decide)) (fun s2 h => mm s2 h (by decide) 0 (fun t h t1 t2 t3 t4 => ?_))
    obtain ⟨m39, m40, m48x, m58, m21, m46, m47, m48, m49, m50, m51⟩ := md_all h
    exact ⟨fun _ => by rw [t3 749 (by decide), m49], fun q => absurd q (by decide), fun q => absurd q (by decide), fun q => absurd q (by decide), fun q => absurd q (by decide), fun q => absurd q (by decide), fun q => absurd q (by decide), fun q => absurd q (by decide), fun q => absurd rfl q.1⟩
  by_cases h1 : a = 1
  · subst h1
    refine op2 hm (d := 2) (d2 := 3) (r := 0) (by decide) (by decide) (cc 0 (w_112_22 s 1 ⟨fun q => absurd q (by decide), fun _ => ⟨by rw [c10], fr.rfl'⟩, fun q => absurd q (by decide), fun q => absurd q (by decide), fun q => absurd q (by decide), fun q => absurd q (by decide), fun q => absurd q (by decide), fun q => absurd q (by decide), fun q => absurd rfl q.2.1⟩) (by decide)) (fun s2 h => mm s2 h (by decide) 0 (fun t h t1 t2 t3 t4 => ?_))
    obtain ⟨m39, m40, m48x, m58, m21, m46, m47, m48, m49, m50, m51⟩ := md_all h
    exact ⟨fun q => absurd q (by decide), fun _ => by rw [t3 748 (by decide), m48], fun q => absurd q (by decide), fun q => absurd q (by decide), fun q => absurd q (by decide), fun q => absurd q (by decide), fun q => absurd q (by decide), fun q => absurd q (by decide), fun q => absurd rfl q.2.1⟩
  by_cases h2 : a = 2
  · subst h2
    refine op2 hm (d := 2) (d2 := 3) (r := 1) (by decide) (by decide) (cc 1 (w_112_22 s 2 ⟨fun q => absurd q (by decide), fun q => absurd q (by decide), fun _ => ⟨by rw [hc.1.1.2.2.2.1], fr.rfl'⟩, fun q => absurd q (by decide), fun q => absurd q (by decide), fun q => absurd q (by decide), fun q => absurd q (by decide), fun q => absurd q (by decide), fun q => absurd rfl q.2.2.1⟩) (by decide)) (fun s2 h => mm s2 h (by decide) 1 (fun t h t1 t2 t3 t4 => ?_))
    obtain ⟨m39, m40, m48x, m58, m21, m46, m47, m48, m49, m50, m51⟩ := md_all h
    exact ⟨fun q => absurd q (by decide), fun q => absurd q (by decide), fun _ => t1, fun q => absurd q (by decide), fun q => absurd q (by decide), fun q => absurd q (by decide), fun q => absurd q (by decide), fun q => absurd q (by decide), fun q => absurd rfl q.2.2.1⟩
  by_cases h3 : a = 3
  · subst h3
    refine op2 hm (d := 2) (d2 := 3) (r := 0) (by decide) (by decide) (cc 0 (w_112_22 s 3 ⟨fun q => absurd q (by decide), fun q => absurd q (by decide), fun q => absurd q (by decide), fun _ => ⟨by rw [hc.1.1.2.2.2.2.2.1], fr.rfl'⟩, fun q => absurd q (by decide), fun q => absurd q (by decide), fun q => absurd q (by decide), fun q => absurd q (by decide), fun q => absurd rfl q.2.2.2.1⟩) (by decide)) (fun s2 h => mm s2 h (by decide) 0 (fun t h t1 t2 t3 t4 => ?_))
    obtain ⟨m39, m40, m48x, m58, m21, m46, m47, m48, m49, m50, m51⟩ := md_all h
    exact ⟨fun q => absurd q (by decide), fun q => absurd q (by decide), fun q => absurd q (by decide), fun _ => t2, fun q => absurd q (by decide), fun q => absurd q (by decide), fun q => absurd q (by decide), fun q => absurd q (by decide), fun q => absurd rfl q.2.2.2.1⟩
  by_cases h4 : a = 4
  · subst h4
    refine op2 hm (d := 2) (d2 := 3) (r := 1) (by decide) (by decide) (cc 1 (w_112_22 s 4 ⟨fun q => absurd q (by decide), fun q => absurd q (by decide), fun q => absurd q (by decide), fun q => absurd q (by decide), fun _ => ⟨by rw [c8], fr.rfl'⟩, fun q => absurd q (by decide), fun q => absurd q (by decide), fun q => absurd q (by decide), fun q => absurd rfl q.2.2.2.2.1⟩) (by decide)) (fun s2 h => mm s2 h (by decide) 1 (fun t h t1 t2 t3 t4 => ?_))
    obtain ⟨m39, m40, m48x, m58, m21, m46, m47, m48, m49, m50, m51⟩ := md_all h
    exact ⟨fun q => absurd q (by decide), fun q => absurd q (by decide), fun q => absurd q (by decide), fun q => absurd q (by decide), fun _ => by rw [t3 747 (by decide), m47], fun q => absurd q (by decide), fun q => absurd q (by decide), fun q => absurd q (by decide), fun q => absurd rfl q.2.2.2.2.1⟩
  by_cases h5 : a = 5
  · subst h5
    refine op2 hm (d := 2) (d2 := 3) (r := 0) (by decide) (by decide) (cc 0 (w_112_22 s 5 ⟨fun q => absurd q (by decide), fun q => absurd q (by decide), fun q => absurd q (by decide), fun q => absurd q (by decide), fun q => absurd q (by decide), fun _ => ⟨by rw [c11], fr.rfl'⟩, fun q => absurd q (by decide), fun q => absurd q (by decide), fun q => absurd rfl q.2.2.2.2.2.1⟩) (by decide)) (fun s2 h => mm s2 h (by decide) 0 (fun t h t1 t2 t3 t4 => ?_))
    obtain ⟨m39, m40, m48x, m58, m21, m46, m47, m48, m49, m50, m51⟩ := md_all h
    exact ⟨fun q => absurd q (by decide), fun q => absurd q (by decide), fun q => absurd q (by decide), fun q => absurd q (by decide), fun q => absurd q (by decide), fun _ => by rw [t3 750 (by decide), m50], fun q => absurd q (by decide), fun q => absurd q (by decide), fun q => absurd rfl q.2.2.2.2.2.1⟩
  by_cases h6 : a = 6
  · subst h6
    refine op2 hm (d := 2) (d2 := 3) (r := 0) (by decide) (by decide) (cc 0 (w_112_22 s 6 ⟨fun q => absurd q (by decide), fun q => absurd q (by decide), fun q => absurd q (by decide), fun q => absurd q (by decide), fun q => absurd q (by decide), fun q => absurd q (by decide), fun _ => w_16 s 689 32 row689 ⟨_, rfl, by rw [hc.2.2.2.2.2.2.1], fr.rfl'⟩, fun q => absurd q (by decide), fun q => absurd rfl q.2.2.2.2.2.2.1⟩) (by decide)) (fun s2 h => mm s2 h (by decide) 0 (fun t h t1 t2 t3 t4 => ?_))
    obtain ⟨m39, m40, m48x, m58, m21, m46, m47, m48, m49, m50, m51⟩ := md_all h
    exact ⟨fun q => absurd q (by decide), fun q => absurd q (by decide), fun q => absurd q (by decide), fun q => absurd q (by decide), fun q => absurd q (by decide), fun q => absurd q (by decide), fun _ => by rw [t4 58 (by decide) (by decide), m58], fun q => absurd q (by decide), fun q => absurd rfl q.2.2.2.2.2.2.1⟩
  by_cases h7 : a = 7
  · subst h7
    refine op2 hm (d := 2) (d2 := 3) (r := 0) (by decide) (by decide) (cc 0 (w_112_22 s 7 ⟨fun q => absurd q (by decide), fun q => absurd q (by decide), fun q => absurd q (by decide), fun q => absurd q (by decide), fun q => absurd q (by decide), fun q => absurd q (by decide), fun q => absurd q (by decide), fun _ => w_16 s 687 96 row687 ⟨_, rfl, by rw [hc.2.2.2.2.2.1], fr.rfl'⟩, fun q => absurd rfl q.2.2.2.2.2.2.2⟩) (by decide)) (fun s2 h => mm s2 h (by decide) 0 (fun t h t1 t2 t3 t4 => ?_))
    obtain ⟨m39, m40, m48x, m58, m21, m46, m47, m48, m49, m50, m51⟩ := md_all h
    exact ⟨fun q => absurd q (by decide), fun q => absurd q (by decide), fun q => absurd q (by decide), fun q => absurd q (by decide), fun q => absurd q (by decide), fun q => absurd q (by decide), fun q => absurd q (by decide), fun _ => by rw [t4 39 (by decide) (by decide), m39], fun q => absurd rfl q.2.2.2.2.2.2.2⟩
  by_cases hn : ¬ a < 11 ∧ ¬ 16 < a
  · obtain ⟨n, hn9, rfl⟩ := nn_of (x := a) (fun q => hn.1 (Int32.lt_of_lt_of_le q (by decide)))
    have g1 : 11 ≤ n := by
      have h9 : ¬ n < 11 := fun q => hn.1 ((nI_ltI (b := 11) hn9 (by decide)).mpr q)
      omega
    have g2 : n ≤ 16 := by
      have h9 : ¬ 16 < n := fun q => hn.2 ((nI_ltI (a := 16) (by decide) hn9).mpr q)
      omega
    have e : nI n - 10 = nI (n - 10) := by
      obtain ⟨k, rfl⟩ : ∃ k, n = k + 10 := ⟨n - 10, by omega⟩
      rw [Nat.add_sub_cancel, show nI (k + 10) = nI k + nI 10 from (nI_add k 10).symm]
      show nI k + 10 - 10 = nI k
      exact Int32.add_sub_cancel _ _
    have hr : rIn (nI n - 10) 7 = true := by rw [e]; exact rIn_nI (by omega) (by decide)
    refine op2 hm (d := 2) (d2 := 3) (r := 0) (by decide) (by decide) (w_112 s (nI n) ⟨fun q => absurd q hn.1, fun _ => ⟨fun q => absurd q hn.2, fun _ => ⟨hr, by rw [hc.2.2.2.2.2.2.2.1], fr.rfl'⟩⟩⟩) (fun s2 h => w_206 s2 (nI n) ((ev_m_isIn 0 s2 (nI n) 11 16).imp ?_))
    rintro _ _ ⟨rfl, rfl⟩
    rw [if_neg hn.1, if_neg hn.2]
    exact ⟨_, rfl, fun q => absurd q (by decide), fun _ => ⟨hr, by rw [h.1]⟩⟩
  · have all : ¬ a = 0 ∧ ¬ a = 1 ∧ ¬ a = 2 ∧ ¬ a = 3 ∧ ¬ a = 4 ∧ ¬ a = 5 ∧ ¬ a = 6 ∧ ¬ a = 7 := ⟨h0, h1, h2, h3, h4, h5, h6, h7⟩
    exact op2 hm (d := 2) (d2 := 3) (r := -9) (by decide) (by decide) (cc (-9) (w_112_22 s a ⟨fun q => absurd q h0, fun q => absurd q h1, fun q => absurd q h2, fun q => absurd q h3, fun q => absurd q h4, fun q => absurd q h5, fun q => absurd q h6, fun q => absurd q h7, fun _ => ⟨rfl, fr.rfl'⟩⟩) hn) (fun s2 h => mm s2 h hn (-9) (fun t h t1 t2 t3 t4 => ⟨fun q => absurd q h0, fun q => absurd q h1, fun q => absurd q h2, fun q => absurd q h3, fun q => absurd q h4, fun q => absurd q h5, fun q => absurd q h6, fun q => absurd q h7, fun _ => rfl⟩))
theorem m_image_loop {P : Option rv → rSg → Prop} {x : Int32} (hP : ∀ s, P (some (.inl x)) s) : ∀ (n y : Nat) (s : rSg), y + n = 96 → s 749 0 = x → g_135_7 (nI y) s P := by
  intro n
  induction n with
  | zero =>
    intro y s hy hx
    obtain rfl : y = 96 := by omega
    exact w_135_7 s (nI 96) ⟨fun _ => by rw [hx]; exact hP _, fun q => absurd (by decide) q⟩
  | succ n ih =>
    intro y s hy hx
    refine w_135_7 s (nI y) ⟨fun q => absurd ((nI_leI (a := 96) (by decide) (by omega)).mp q) (by omega), fun _ => ⟨rIn_nI (by omega) (by decide), rIn_nI (by omega) (by decide), ?_⟩⟩
    rw [nI_1]
    exact ih (y + 1) _ (by omega) (by rw [up2_nk _ _ _ (by decide)]; exact hx)
theorem o_image {s : rSg} (hc : clF s) (hm : mdF s) : opI s 110 135 [] := by
  obtain ⟨c7, c8, c9, c10, c11, c12, d2, d3, d4, d5⟩ := se_all hc.1
  refine op2 hm (d := 4) (d2 := 1) (r := 0) (by decide) (by decide) (w_110 s ?_) (fun s2 h => w_135 s2 (m_image_loop (fun _ => rfl) 96 0 _ rfl (by rw [up2_nk _ _ _ (by decide), (md_all h).2.2.2.2.2.2.2.2.1])))
  refine w_49 s 454 sea454 6 sea6 (by decide) (w_31 s 455 scr455 7 scr7 (by decide) ?_)
  rw [hc.1.1.1, hc.1.1.2.1]
  refine (c_scopy scr455 scr7 (by decide) s (g := 1) (p := 0) (by decide) (by decide)).imp ?_
  rintro _ t ⟨rfl, t0, _⟩
  refine ⟨rfl, rfl, ?_⟩
  have t6 : t 6 = s 6 := t0 6 (by decide) (by decide) (by decide) (by decide)
  rw [t6, c8, c9, c10]
  generalize eZ : up2 (up2 (up2 (up2 (up2 (up2 t 454 7 0) 454 8 (imin (imax 1 0) 40)) 454 9 0) 454 10 (imin (imax 0 0) 30)) 454 11 (s 6 11)) 454 12 (s 6 12) = Z
  have z0 : ∀ q, q ≠ 454 → Z q = t q := fun q h => by rw [← eZ, up2_nk _ _ _ h, up2_nk _ _ _ h, up2_nk _ _ _ h, up2_nk _ _ _ h, up2_nk _ _ _ h, up2_nk _ _ _ h]
  have z7 : Z 454 7 = nI 0 := by rw [← eZ, up2_nj _ _ _ (by decide), up2_nj _ _ _ (by decide), up2_nj _ _ _ (by decide), up2_nj _ _ _ (by decide), up2_nj _ _ _ (by decide), up2_same]; rfl
  have z8 : Z 454 8 = 1 := by rw [← eZ, up2_nj _ _ _ (by decide), up2_nj _ _ _ (by decide), up2_nj _ _ _ (by decide), up2_nj _ _ _ (by decide), up2_same]; rfl
  have z9 : Z 454 9 = 0 := by rw [← eZ, up2_nj _ _ _ (by decide), up2_nj _ _ _ (by decide), up2_nj _ _ _ (by decide), up2_same]
  have z10 : Z 454 10 = 0 := by rw [← eZ, up2_nj _ _ _ (by decide), up2_nj _ _ _ (by decide), up2_same]; rfl
  have zs : ∀ q, q < 454 → Z q = s q := fun q h => by rw [z0 q (by omega), t0 q (by omega) (by omega) (by omega) (by omega)]
  refine w_49_76 Z 454 sea454 6 sea6 (by decide) 0 ⟨fun q => absurd q (by rw [z8]; decide), fun _ => ?_⟩
  refine (c_waitingAt seaA454 Z (h := 0) (i := 0) z7 (by decide)).imp ?_
  rintro _ Z ⟨rfl, rfl⟩
  refine ⟨_, rfl, seaA454.2.1 0 (by decide), (c_waitingAt seaA6 Z (h := 0) (i := 0) (by rw [zs 6 (by decide), c7]; rfl) (by decide)).imp ?_⟩
  rintro _ Z ⟨rfl, rfl⟩
  refine ⟨_, rfl, seaA6.2.1 0 (by decide), (c_copy (seaA454.2.1 0 (by decide)) (seaA6.2.1 0 (by decide)) (by decide) Z (v := 6) (t := 1) (by rw [zs _ (by decide)]; exact d2) (by decide) (by rw [zs _ (by decide)]; exact d3) (by decide)).imp ?_⟩
  rintro _ Y ⟨rfl, y0, _⟩
  have y454 : Y 454 = Z 454 := y0 454 (by decide) (by decide) (by decide)
  refine ⟨rfl, w_49_76 Y 454 sea454 6 sea6 (by decide) (0 + 1) ⟨fun _ => ?_, fun q => absurd (by rw [y454, z8]; decide) q⟩⟩
  refine w_49_105 Y 454 sea454 6 sea6 (by decide) 0 ⟨fun _ => ⟨rfl, ?_, fun q hq => ?_⟩, fun q => absurd (by rw [y454, z10]; decide) q⟩
  · rw [y454, z9]
  · rw [up2_nk _ _ _ (by omega), y0 q (by omega) (by omega) (by omega), z0 q (by omega), t0 q (by omega) (by omega) (by omega) (by omega)]
