/-! THE REFERENCE IS ASKED: turned, need -/
def RT (nG G g q : Nat) : Prop := (Rb nG nG g q ∧ q ≠ 0) ∨ (g = G ∧ q = 0)
theorem RT_tab {tb : Tb} {s : rSg} {T G nG g x y : Nat} (hg : g + 1 = nG) (h : mTab tb (Rb nG nG) s T (G + 1)) (hgG : g < G) (k0 : (tb 0).1 = 38 ∨ (tb 0).1 = 124) (p1 : s 730 g = nI x) (p2 : s 731 g = nI y) (k1 : s 729 G = nI (tb 0).1) (k2 : s 730 G = nI y) (k3 : s 731 G = nI x) (lx : x < g) (ly : y < g) (rx : Rb nG nG x (tbA tb 0)) (ry : Rb nG nG y (tbB tb 0)) : mTab (tbS tb) (RT nG G) s T (G + 1) := by
  rintro a q (⟨hR, hq⟩ | ⟨rfl, rfl⟩)
  · obtain ⟨h1, h2, h3⟩ := h a q hR
    have e : tbS tb q = tb q := if_neg hq
    simp only [tb1, tb2, tb3, tbA, tbB, e]
    refine ⟨h1, h2, ?_⟩
    rcases h3 with h3 | h3 | ⟨k, x, y, p1, p2, p3, p4, p5⟩ | h3
    · exact Or.inl h3
    · exact Or.inr (Or.inl h3)
    · refine Or.inr (Or.inr (Or.inl ⟨k, x, y, p1, p2, p3, Or.inl ⟨p4, ?_⟩, Or.inl ⟨p5, ?_⟩⟩))
      · intro z; have := p4.1; have := hR.1; simp only [tbA] at *; omega
      · intro z; have := p5.1; have := hR.1; simp only [tbB] at *; omega
    · exact Or.inr (Or.inr (Or.inr h3))
  · have e : tbS tb 0 = ((tb 0).1, (tb 0).2.1, (tb 0).2.2.1, (tb 0).2.2.2.1, tbB tb 0, tbA tb 0) := if_pos rfl
    simp only [tb1, tb2, tb3, tbA, tbB, e]
    refine ⟨by omega, k1, Or.inr (Or.inr (Or.inl ⟨k0, y, x, k2, k3, ⟨by omega, by omega⟩, Or.inl ⟨ry, ?_⟩, Or.inl ⟨rx, ?_⟩⟩))⟩
    · intro z; have := ry.1; simp only [tbB] at *; omega
    · intro z; have := rx.1; simp only [tbA] at *; omega
theorem mTab_kind {tb : Tb} {R : Nat → Nat → Prop} {s : rSg} {T G g q : Nat} (h : mTab tb R s T G) (hR : R g q) : s 729 g = nI (tb q).1 ∧ (tb q).1 < 1000 := by
  obtain ⟨h1, h2, h3⟩ := h g q hR
  refine ⟨h2, ?_⟩
  rcases h3 with ⟨h3, _⟩ | ⟨h3, _⟩ | ⟨h3, _⟩ | h3 | h3 <;> omega
theorem mx_190 {s : rSg} {A : Ab} {im : Option Ab} (h : MJ s A im) (x : Int32) : EvS rSkel 16 190 [.inr (.inr (some 725)), .inl x] s (mP (sTurn A x) A im s) := by
  obtain ⟨T, G, L, hd, g, hb⟩ := id h
  obtain ⟨r1, r2, r3, r4, r5, _⟩ := id hb
  have b1 := r1.1.1
  have b5 := r5.1
  have rg : rIn (nI g) 3000 = true := rIn_nI (by omega) (by decide)
  have hR0 : Rb A.nG A.nG g 0 := ⟨by omega, by omega⟩
  obtain ⟨kd, kd9⟩ := mTab_kind r1.2.2.2 hR0
  have main : (x = 0 ∨ x = 1) → ((A.tb 0).1 = 38 ∨ (A.tb 0).1 = 124) → EvS rSkel 1 183 [.inr (.inr (some 725))] s (fun v8 t9 => v8 = none ∧ (rIn (t9 725 47) 3000 = true ∧ rIn (t9 725 47) 3000 = true ∧ rIn (t9 725 47) 3000 = true ∧ EvS rSkel 1 120 [.inr (.inr (some 725)), .inl (t9 729 ((t9 725 47).toNatClampNeg)), .inl (t9 731 ((t9 725 47).toNatClampNeg)), .inl (t9 730 ((t9 725 47).toNatClampNeg)), .inl 0] t9 (fun v11 t12 => ∃ n14, v11 = some (.inl n14) ∧ EvS rSkel 15 188 [.inr (.inr (some 725)), .inl n14] t12 (fun v15 t16 => v15 = none ∧ EvS rSkel 1 184 [.inr (.inr (some 725))] t16 (fun v18 t19 => v18 = none ∧ (¬ x = 0 → (¬ (t19 748 1) = 0 → mP (sTurn A x) A im s (some (.inl (t19 744 30))) t19) ∧ (¬ (¬ (t19 748 1) = 0) → mP (sTurn A x) A im s (some (.inl ((-9)))) t19)) ∧ (¬ (¬ x = 0) → mP (sTurn A x) A im s (some (.inl (t19 748 1))) t19)))))) := by
    intro hx h2
    obtain ⟨_, _, h3⟩ := r1.2.2.2 g 0 hR0
    obtain ⟨p, q, g0, g1, ⟨la, lb⟩, rp, rq⟩ : ∃ p q, s 730 g = nI p ∧ s 731 g = nI q ∧ (p < g ∧ q < g) ∧ Rb A.nG A.nG p (tbA A.tb 0) ∧ Rb A.nG A.nG q (tbB A.tb 0) := by
      rcases h3 with ⟨h3, _⟩ | ⟨h3, _⟩ | ⟨_, h3⟩ | h3 | h3
      · omega
      · omega
      · exact h3
      · omega
      · omega
    have t2' : two2 (s 729 g) := by
      rw [kd]
      rcases h2 with e | e
      · rw [e]; exact Or.inl rfl
      · rw [e]; exact Or.inr rfl
    refine (mx_183 r1.1).imp ?_
    rintro _ t ⟨rfl, t1, t2, t3, t4⟩
    have t47 : t 725 47 = nI g := by rw [t4]; exact r3.1
    have eg := t2.1.2.1 g r3.2.2.1
    rw [t47, nI_clamp (by omega), eg.1, eg.2.1, eg.2.2.1, g0, g1, show (0 : Int32) = nI 0 from rfl]
    refine ⟨rfl, rg, rg, rg, (ms_120 t1 (by omega) (c := s 729 g) (a := q) (b := p) (d := 0) (fun _ => by omega) (fun z => absurd t2' z)).imp ?_⟩
    rintro _ u ⟨rfl, w1, w2, w3, w4, w5, w6, w7⟩
    have m1 := t2.K (Nat.le_refl _) (Nat.le_refl _) (Nat.le_refl _) w2 w3 (by simp [kM, kZ]) (fun k a b => by simp; omega) (by simp [jM, jZ]) (by simp)
    have ng : nh u G ≤ 12 := by
      rw [nh_two w1.2.2.2 (by omega) (by omega) (by rw [w4]; exact t2') w5 w6 (by omega) (by omega), nh_ext r1.1.2.2.2 (by omega) m1.1.2.1 (show p < G by omega), nh_ext r1.1.2.2.2 (by omega) m1.1.2.1 (show q < G by omega)]
      have := nh_two r1.1.2.2.2 (by omega) r3.2.2.1 t2' g0 g1 la lb
      omega
    have eu := m1.1.2.1 g r3.2.2.1
    have tab : mTab (tbS A.tb) (RT A.nG G) u T (G + 1) := RT_tab (g := g) (x := p) (y := q) r3.2.1 (mTab_ext m1.1 (Nat.le_refl _) (by omega) r1.2.2.2) r3.2.2.1 h2 (by rw [eu.2.1]; exact g0) (by rw [eu.2.2.1]; exact g1) (by rw [w4]; exact kd) w5 w6 la lb rp rq
    refine ⟨_, rfl, (mx_188 m1 (Nat.le_refl _) (by omega) (Nat.le_refl _) w1 tab (Or.inr ⟨rfl, rfl⟩) (by omega) (by omega) ng).imp ?_⟩
    rintro _ v ⟨rfl, v1, Q2, T3, G3, L3, h3', v2, v3⟩
    have l30 := v3.2.2.1.2.2.1
    refine ⟨rfl, (mx_184 hb v1).imp ?_⟩
    rintro _ y ⟨rfl, y1, y2⟩
    have y48 : y 748 1 = nI Q2.2.1.length := by rw [y2 748 (by decide)]; exact l30.1
    rw [y48]
    refine ⟨rfl, fun e => ⟨fun z => ?_, fun z => ?_⟩, fun e => ?_⟩
    · cases eQ : Q2.2.1 with
      | nil => exact absurd (by rw [eQ]; rfl) z
      | cons nX l =>
        obtain ⟨n, X⟩ := nX
        have ha := v3.2.2.1.2.2.2.2.2.2.2 0 n X (by rw [eQ]; rfl)
        have h44 : y 744 30 = nI n := by rw [y2 744 (by decide)]; exact ha.2.2.1
        rw [h44]
        refine y1.is (Or.inl ⟨hx, Or.inl ⟨h2, Q2, v2, ?_, rfl⟩⟩)
        rw [if_neg (show ¬ x = 0 from e), eQ]
        rfl
    · have z := Classical.not_not.mp z
      have z := (nI_eq (b := 0) (by omega) (by decide)).mp z
      refine y1.is (Or.inl ⟨hx, Or.inl ⟨h2, Q2, v2, ?_, rfl⟩⟩)
      rw [if_neg (show ¬ x = 0 from e), List.length_eq_zero_iff.mp z]
      rfl
    · refine y1.is (Or.inl ⟨hx, Or.inl ⟨h2, Q2, v2, ?_, rfl⟩⟩)
      rw [if_pos (show x = 0 from Classical.not_not.mp e)]
  refine w_190 s x (ms_119 s x 0 1 (fun e => ⟨_, rfl, fun _ => ?_, fun q => absurd (by decide) q⟩) (fun e => ⟨_, rfl, fun q => absurd rfl q, fun _ => mx_no (mk0.rfl' h) (by decide) (Or.inr ⟨?_, rfl, rfl⟩)⟩))
  · have hx : x = 0 ∨ x = 1 := by
      obtain ⟨m, hm, rfl⟩ := nn_of (Int32.not_lt.mpr e.1)
      have m2 : m ≤ 1 := (nI_leI hm (b := 1) (by decide)).mp e.2
      have : m = 0 ∨ m = 1 := by omega
      rcases this with rfl | rfl
      · exact Or.inl rfl
      · exact Or.inr rfl
    rw [r3.1, nI_clamp (by omega), kd]
    refine ⟨rg, fun e => main hx (Or.inl ((nI_eq (b := 38) (by omega) (by decide)).mp e)), fun e1 => ⟨rg, fun e => main hx (Or.inr ((nI_eq (b := 124) (by omega) (by decide)).mp e)), fun e2 => mx_no (mk0.rfl' h) (by decide) (Or.inl ⟨hx, Or.inr ⟨?_, rfl, rfl⟩⟩)⟩⟩
    rintro (z | z)
    · exact e1 (by rw [z]; rfl)
    · exact e2 (by rw [z]; rfl)
  · rintro (z | z)
    · exact e (by rw [z]; decide)
    · exact e (by rw [z]; decide)
/-! need -/
theorem mx_182b {s : rSg} {A : Ab} {im : Option Ab} {T G L h g : Nat} (hb : MJb s A im T G L h g) {k : Nat} (hk1 : 1 ≤ k) (hk2 : k ≤ 10) {s1 : rSg} (m0 : miX s T G L s1) : ∀ (m y : Nat) (t : rSg) (Q : Qx), y + m = 300 → goN A.tb (Rb A.nG A.nG) 1 s1 T G (L + 1) (T + 2 * y) (G + y) (L + 1 + 25 * y) Q t → Q.2.2.1 = y → Q.2.2.2.2 ≤ 40 → (∀ Q2, gos A.tb k m Q Q2 → gos A.tb k 300 (bgn 0) Q2) → g_182_35 (nI k) t (mP (sNeed A (nI k)) A im s) := by
  have b1 := hb.1.1.1
  have b3 := hb.2.1
  have b2 := hb.2.2.2.2.1.1
  have out : ∀ {t : rSg} {z : Int32}, miX s T G L t → sNeed A (nI k) z none → EvS rSkel 1 184 [.inr (.inr (some 725))] t (fun v19 t20 => v19 = none ∧ mP (sNeed A (nI k)) A im s (some (.inl z)) t20) := fun hm hz => (mx_184 hb hm).imp (fun v u q => ⟨q.1, q.2.1.is hz⟩)
  intro m
  induction m with
  | zero =>
    intro y t Q hy hg hst hm9 hgo
    obtain ⟨T2, G2, L2, h2, g1, g2, g3, g4, g5, g6⟩ := id hg
    have mt : miX s T G L t := m0.fy (Nat.le_refl _) (Nat.le_refl _) (by omega) g5 g6
    have q48 := g1.2.2.1.2.2.1
    have q49 := g1.2.2.1.2.2.2.1
    have sp : sNeed A (nI k) (if Q.2.1.length < k then -9 else nI Q.2.2.1) none := Or.inl ⟨k, hk1, hk2, rfl, Q, hgo Q rfl, rfl, rfl⟩
    refine w_182_35 t _ ?_
    rw [q48.1, q49]
    refine ⟨fun e1 => ⟨fun e2 => ?_, fun e2 => ?_⟩, fun e1 => ⟨fun e0 => ⟨fun e2 => ?_, fun e2 => ?_⟩, fun e0 => absurd (nI_le (a := 300) (by omega) (by omega)) e0⟩⟩
    · rw [if_pos ((nI_ltI (by omega) (by omega)).mp e2)] at sp; exact out mt sp
    · rw [if_neg (fun z => e2 ((nI_ltI (by omega) (by omega)).mpr z))] at sp; exact out mt sp
    · rw [if_pos ((nI_ltI (by omega) (by omega)).mp e2)] at sp; exact out mt sp
    · rw [if_neg (fun z => e2 ((nI_ltI (by omega) (by omega)).mpr z))] at sp; exact out mt sp
  | succ m ih =>
    intro y t Q hy hg hst hm9 hgo
    obtain ⟨T2, G2, L2, h2, g1, g2, g3, g4, g5, g6⟩ := id hg
    have mt : miX s T G L t := m0.fy (Nat.le_refl _) (Nat.le_refl _) (by omega) g5 g6
    have q47 := g1.2.2.1.2.1
    have q48 := g1.2.2.1.2.2.1
    have q49 := g1.2.2.1.2.2.2.1
    have stop : (Q.1 = [] ∨ 30 ≤ Q.2.1.length ∨ k ≤ Q.2.1.length) → sNeed A (nI k) (if Q.2.1.length < k then -9 else nI Q.2.2.1) none := fun e => Or.inl ⟨k, hk1, hk2, rfl, Q, hgo Q (Or.inl ⟨e, rfl⟩), rfl, rfl⟩
    refine w_182_35 t _ ?_
    rw [q48.1, q49]
    refine ⟨fun e1 => ?_, fun e1 => ⟨fun e0 => ?_, fun e0 => ?_⟩⟩
    · have sp := stop (Or.inr (Or.inr ((nI_leI (by omega) (by omega)).mp e1)))
      refine ⟨fun e2 => ?_, fun e2 => ?_⟩
      · rw [if_pos ((nI_ltI (by omega) (by omega)).mp e2)] at sp; exact out mt sp
      · rw [if_neg (fun z => e2 ((nI_ltI (by omega) (by omega)).mpr z))] at sp; exact out mt sp
    · have := (nI_leI (a := 300) (by decide) (by omega)).mp e0; omega
    · have nk : ¬ k ≤ Q.2.1.length := fun z => e1 (nI_le z (by omega))
      refine (fs_138 g1).imp ?_
      rintro _ t' ⟨rfl, rfl⟩
      by_cases hd : Q.1.length = 0 ∨ Q.2.1.length = 30
      · rw [if_pos hd, q48.1, q49]
        have sp := stop (hd.elim (fun e => Or.inl (List.eq_nil_of_length_eq_zero e)) (fun e => Or.inr (Or.inl (by omega))))
        refine ⟨_, rfl, fun _ => ⟨fun e2 => ?_, fun e2 => ?_⟩, fun q => absurd (by decide) q⟩
        · rw [if_pos ((nI_ltI (by omega) (by omega)).mp e2)] at sp; exact out mt sp
        · rw [if_neg (fun z => e2 ((nI_ltI (by omega) (by omega)).mpr z))] at sp; exact out mt sp
      · rw [if_neg hd]
        have hgo2 : ¬ (Q.1 = [] ∨ 30 ≤ Q.2.1.length ∨ k ≤ Q.2.1.length) := by
          rintro (e | e | e)
          · exact hd (Or.inl (by rw [e]; rfl))
          · omega
          · exact nk e
        refine ⟨_, rfl, fun q => absurd rfl q, fun _ => (fs_139 g1 (fun e => hgo2 (Or.inl e)) (by omega) hm9 (by omega) (by omega) (by omega)).imp ?_⟩
        rintro _ u ⟨rfl, Q2, w1, w2, w3⟩
        refine ⟨rfl, ih (y + 1) u Q2 (by omega) ((w3.pre g2.1 g3.1 g4.1 g5 g6).mono (by omega) (by omega) (by omega)) ?_ w2 (fun Q3 h3 => hgo Q3 (Or.inr ⟨hgo2, Q2, w1, h3⟩))⟩
        rw [st1_step w1, hst]
theorem mx_182 {s : rSg} {A : Ab} {im : Option Ab} (h : MJ s A im) (x : Int32) : EvS rSkel 14 182 [.inr (.inr (some 725)), .inl x] s (mP (sNeed A x) A im s) := by
  obtain ⟨T, G, L, hd, g, hb⟩ := id h
  obtain ⟨r1, r2, r3, r4, r5, _⟩ := id hb
  have b1 := r1.1.1
  have b5 := r5.1
  refine w_182 s x (ms_127 s x 1 10 (fun h1 h2 => ⟨_, rfl, fun _ => (mx_183 hb.1.1).imp ?_, fun q => absurd rfl q⟩) (fun h1 h2 => ⟨_, rfl, fun q => absurd q (by decide), fun _ => mx_no (mk0.rfl' h) (by decide) (Or.inr (Or.inr ⟨Int32.not_le.mp h2, rfl, rfl⟩))⟩) (fun h1 => ⟨_, rfl, fun q => absurd q (by decide), fun _ => mx_no (mk0.rfl' h) (by decide) (Or.inr (Or.inl ⟨Int32.not_le.mp h1, rfl, rfl⟩))⟩))
  have hx0 : ¬ x < 0 := fun z => Int32.lt_irrefl (Int32.lt_of_lt_of_le z (Int32.le_trans (show (0 : Int32) ≤ 1 by decide) h1))
  obtain ⟨k, hk, rfl⟩ := nn_of hx0
  have k1 := (nI_leI (a := 1) (by decide) hk).mp h1
  have k2 := (nI_leI (b := 10) hk (by decide)).mp h2
  rintro _ t ⟨rfl, t1, t2, t3, t4⟩
  have nt : nh t g ≤ 12 := by rw [nh_ext hb.1.1.2.2.2 (by omega) t2.1.2.1 r3.2.2.1]; exact r3.2.2.2
  rw [t4, r3.1]
  refine ⟨rfl, mx_121 (q := 0) t2 (Nat.le_refl _) (Nat.le_refl _) (Nat.le_refl _) t1 (mTab_ext t2.1 (Nat.le_refl _) (Nat.le_refl _) r1.2.2.2) ⟨by omega, by omega⟩ (by omega) r3.2.2.1 nt (fun u m1 q1 => ⟨rfl, mx_182b hb k1 k2 m1 300 0 u (bgn 0) (by omega) (goN.rfl' q1) rfl (show 1 ≤ 40 by decide) (fun Q2 h => h)⟩)⟩
