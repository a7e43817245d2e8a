/-! WHAT WAS TOLD: the letters of all lists, and their sizes -/
def px (C : Cf) (g : Nat) : Nat := C.p (5000 + 3 * g)
def py (C : Cf) (g : Nat) : Nat := C.p (5000 + 3 * g + 1)
def pz (C : Cf) (g : Nat) : Nat := C.p (5000 + 3 * g + 2)
def qaC (C : Cf) (c : Nat) : Nat := C.p (3000 + 2 * (c - 256))
def qbC (C : Cf) (c : Nat) : Nat := C.p (3000 + 2 * (c - 256) + 1)
def pA (C : Cf) (th sz : Nat → Nat) (l : Bool) (c : Nat) : List Nat := posA (nmO th) th (qaC C) (qbC C) sz l c
/-- the places of a goal -/
def plG (C : Cf) (th sz : Nat → Nat) (g : Nat) : List Nat := if (C.tb g).1 = 61 ∨ (C.tb g).1 = 35 then pA C th sz true (px C g) ++ pA C th sz true (py C g) else if (C.tb g).1 = 77 then pA C th sz false (px C g) ++ pA C th sz true (py C g) else if (C.tb g).1 = 65 then pA C th sz true (px C g) ++ (pA C th sz true (py C g) ++ pA C th sz true (pz C g)) else []
def plR (C : Cf) (th sz : Nat → Nat) : Nat → Nat → List Nat
  | _, 0 => []
  | a, k + 1 => plG C th sz a ++ plR C th sz (a + 1) k
/-- the goals of a kind -/
def glR (C : Cf) (k0 : Nat) : Nat → Nat → List Nat
  | _, 0 => []
  | a, k + 1 => (if (C.tb a).1 = k0 then [a] else []) ++ glR C k0 (a + 1) k
/-- all letters that are told -/
def ltP (C : Cf) (th sz : Nat → Nat) : List Nat := (plR C th sz 0 C.ng).map (fun c => th (qaC C c)) ++ (glR C 77 0 C.ng).map (fun g => th (px C g))
/-- how goals lie -/
def tolA (C : Cf) (th sz gs : Nat → Nat) (nT : Nat) : Prop := toT (nmO th) th (qaC C) (qbC C) sz C.tp ∧ (sR gs 0 C.ng ≤ nT ∧ nT ≤ 40) ∧ (∀ c, 256 ≤ c → c < 256 + C.tp → C.p c % 2 = 1 → ∃ g, g < C.ng ∧ lpt C g c) ∧ (∀ g, g < C.ng → ((C.tb g).1 = 61 ∨ (C.tb g).1 = 35 ∨ (C.tb g).1 = 77 → (cTd C.tp (px C g) ∧ cTd C.tp (py C g)) ∧ sz (px C g) + sz (py C g) = gs g) ∧ ((C.tb g).1 = 65 → (cTd C.tp (px C g) ∧ cTd C.tp (py C g) ∧ cTd C.tp (pz C g)) ∧ sz (px C g) + sz (py C g) + sz (pz C g) = gs g)) ∧ ∀ c, cTd C.tp c → c < 256 → th c ≤ 11 ∨ nmO th (th c) = true
theorem mem_plR {C : Cf} {th sz : Nat → Nat} {g c : Nat} (h : c ∈ plG C th sz g) : ∀ {k a : Nat}, a ≤ g → g < a + k → c ∈ plR C th sz a k
  | 0, a, h1, h2 => by omega
  | k + 1, a, h1, h2 => by
    unfold plR
    by_cases e : a = g
    · rw [e]; exact List.mem_append_left _ h
    · exact List.mem_append_right _ (mem_plR h (by omega) (by omega))
theorem cnt_plR {C : Cf} {th sz : Nat → Nat} {g : Nat} {p : Nat → Bool} : ∀ {k a : Nat}, a ≤ g → g < a + k → (plG C th sz g).countP p ≤ (plR C th sz a k).countP p
  | 0, a, h1, h2 => by omega
  | k + 1, a, h1, h2 => by
    unfold plR
    rw [List.countP_append]
    by_cases e : a = g
    · rw [e]; omega
    · have := cnt_plR (C := C) (th := th) (sz := sz) (p := p) (k := k) (a := a + 1) (g := g) (by omega) (by omega)
      omega
theorem mem_glR {C : Cf} {k0 g : Nat} : ∀ {k a : Nat}, g ∈ glR C k0 a k ↔ (a ≤ g ∧ g < a + k) ∧ (C.tb g).1 = k0
  | 0, a => by
    unfold glR
    constructor
    · intro h; cases h
    · intro h; omega
  | k + 1, a => by
    unfold glR
    rw [List.mem_append, mem_glR]
    constructor
    · rintro (h | h)
      · by_cases e : (C.tb a).1 = k0
        · rw [if_pos e, List.mem_singleton] at h
          subst h
          exact ⟨by omega, e⟩
        · rw [if_neg e] at h; cases h
      · exact ⟨by omega, h.2⟩
    · intro h
      by_cases e : g = a
      · subst e
        rw [if_pos h.2]
        exact Or.inl List.mem_cons_self
      · exact Or.inr ⟨by omega, h.2⟩
theorem idx_ex : ∀ l : List Nat, ∃ ix sel : Nat → Nat, ∀ g ∈ l, ix g < l.length ∧ sel (ix g) = g
  | [] => ⟨fun _ => 0, fun _ => 0, fun g h => by cases h⟩
  | x :: l => by
    obtain ⟨ix, sel, h⟩ := idx_ex l
    refine ⟨fun g => if g = x then 0 else ix g + 1, fun a => if a = 0 then x else sel (a - 1), fun g hg => ?_⟩
    by_cases e : g = x
    · simp only [if_pos e, if_true, List.length_cons]
      exact ⟨by omega, e.symm⟩
    · rcases List.mem_cons.mp hg with z | z
      · exact absurd z e
      · obtain ⟨h1, h2⟩ := h g z
        simp only [if_neg e, List.length_cons]
        rw [if_neg (by omega)]
        exact ⟨by omega, h2⟩
/-- what is told weighs at most what is told -/
theorem ltP_sz {C : Cf} {th sz gs : Nat → Nat} {nT : Nat} (h : tolA C th sz gs nT) : 2 * sumB (eL (nmO th)) (ltP C th sz) + 3 * (glR C 65 0 C.ng).length ≤ 40 := by
  obtain ⟨hT, ⟨h1, h2⟩, _, hg, _⟩ := h
  have hone : ∀ v, nmO th v = true → eL (nmO th) v = 1 := fun v hv => by
    have := (nmO_iff.mp hv).1
    obtain ⟨a, b, rfl⟩ := nd_ex this
    exact eL_nm hv
  have mp : ∀ (f : Nat → Nat) (l : List Nat), sumB (eL (nmO th)) (l.map f) = sumB (fun c => eL (nmO th) (f c)) l := by
    intro f l
    induction l with
    | nil => rfl
    | cons x l ih => simp only [List.map_cons, sumB, ih]
  have t1 : ∀ c, cTd C.tp c → 2 * sumB (fun c => eL (nmO th) (th (qaC C c))) (pA C th sz true c) + 1 ≤ sz c := fun c hc => (posC_sz hT hone _ c (Nat.le_refl _) hc).1
  have t2 : ∀ c, cTd C.tp c → 2 * eL (nmO th) (th c) + 2 * sumB (fun c => eL (nmO th) (th (qaC C c))) (pA C th sz false c) ≤ sz c + 1 := fun c hc => (posC_sz hT hone _ c (Nat.le_refl _) hc).2
  have one : ∀ g, g < C.ng → 2 * sumB (fun c => eL (nmO th) (th (qaC C c))) (plG C th sz g) + 2 * sumB (fun g => eL (nmO th) (th (px C g))) (if (C.tb g).1 = 77 then [g] else []) + 3 * (if (C.tb g).1 = 65 then [g] else []).length ≤ gs g := by
    intro g hgn
    obtain ⟨g1, g2⟩ := hg g hgn
    unfold plG
    by_cases e1 : (C.tb g).1 = 61 ∨ (C.tb g).1 = 35
    · obtain ⟨⟨q1, q2⟩, q3⟩ := g1 (by omega)
      have := t1 _ q1
      have := t1 _ q2
      rw [if_pos e1, if_neg (by omega), if_neg (by omega), sumB_app]
      simp only [sumB, List.length_nil]
      omega
    · rw [if_neg e1]
      by_cases e2 : (C.tb g).1 = 77
      · obtain ⟨⟨q1, q2⟩, q3⟩ := g1 (by omega)
        have := t2 _ q1
        have := t1 _ q2
        rw [if_pos e2, if_pos e2, if_neg (by omega), sumB_app]
        simp only [sumB, List.length_nil]
        omega
      · rw [if_neg e2, if_neg e2]
        by_cases e3 : (C.tb g).1 = 65
        · obtain ⟨⟨q1, q2, q4⟩, q3⟩ := g2 e3
          have := t1 _ q1
          have := t1 _ q2
          have := t1 _ q4
          rw [if_pos e3, if_pos e3, sumB_app, sumB_app]
          simp only [sumB, List.length_singleton]
          omega
        · rw [if_neg e3, if_neg e3]
          simp only [sumB, List.length_nil]
          omega
  have all : ∀ k a, a + k ≤ C.ng → 2 * sumB (fun c => eL (nmO th) (th (qaC C c))) (plR C th sz a k) + 2 * sumB (fun g => eL (nmO th) (th (px C g))) (glR C 77 a k) + 3 * (glR C 65 a k).length ≤ sR gs a k := by
    intro k
    induction k with
    | zero => intro a _; exact Nat.le_refl _
    | succ k ih =>
      intro a ha
      have i1 := ih (a + 1) (by omega)
      have i2 := one a (by omega)
      unfold plR glR sR
      rw [sumB_app, sumB_app, List.length_append]
      omega
  have := all C.ng 0 (by omega)
  unfold ltP
  rw [sumB_app, mp, mp]
  omega
/-- the letters on a told list's spine -/
theorem pA_sp {C : Cf} {th sz gs : Nat → Nat} {nT : Nat} (h : tolA C th sz gs nT) (d : Nat) : ∀ (n c : Nat), sz c ≤ n → cTd C.tp c → ∃ t e, cnL (dC d) (th c) = t + cnL (dC d) e ∧ t ≤ (pA C th sz true c).countP (fun c => th (qaC C c) == d) ∧ (e ≤ 11 ∨ (nmO th e = true ∧ Rk (nmO th) e ≤ Rk (nmO th) (th c))) := by
  obtain ⟨hT, _, _, _, hlow⟩ := h
  intro n
  induction n with
  | zero =>
    intro c hn hc
    have := (toT_eL hT 0 c hn hc).1
    omega
  | succ n ih =>
    intro c hn hc
    by_cases q : c < 256
    · refine ⟨0, th c, by omega, Nat.zero_le _, ?_⟩
      rcases hlow c hc q with z | z
      · exact Or.inl z
      · exact Or.inr ⟨z, Nat.le_refl _⟩
    · have g := toT_in hc q
      obtain ⟨⟨g1, g2⟩, g3, g4⟩ := hT.2 c g.1 g.2
      have p1 := (toT_eL hT _ (qaC C c) (Nat.le_refl _) g1).1
      obtain ⟨t, e, e1, e2, e3⟩ := ih (qbC C c) (by omega) g2
      refine ⟨dC d (th (qaC C c)) + t, e, ?_, ?_, ?_⟩
      · rw [g4, cnL_nd, e1]
        omega
      · unfold pA at e2 ⊢
        rw [posA_eq hT true g, if_pos (show (true || nmO th (th c)) = true from rfl), List.countP_cons, List.countP_append]
        have : dC d (th (qaC C c)) ≤ if (th (qaC C c) == d) = true then 1 else 0 := by
          unfold dC
          by_cases z : th (qaC C c) = d
          · rw [if_pos z, if_pos (beq_iff_eq.mpr z)]
            exact Nat.le_refl _
          · rw [if_neg z]
            exact Nat.zero_le _
        omega
      · rcases e3 with z | ⟨z1, z2⟩
        · exact Or.inl z
        · right
          rw [g4, Rk_nd]
          exact ⟨z1, by omega⟩
theorem ltP_hTd {C : Cf} {th sz gs : Nat → Nat} {nT : Nat} (h : tolA C th sz gs nT) {g : Nat} (hg : g < C.ng) (hk : (C.tb g).1 = 65) (d : Nat) : ∃ tx ty tz nx ny nz, cnL (dC d) (th (px C g)) = tx + cnL (dC d) nx ∧ cnL (dC d) (th (py C g)) = ty + cnL (dC d) ny ∧ cnL (dC d) (th (pz C g)) = tz + cnL (dC d) nz ∧ tx + ty + tz ≤ (ltP C th sz).count d ∧ (nx ≤ 11 ∨ (nmO th nx = true ∧ Rk (nmO th) nx ≤ Rk (nmO th) (th (px C g)))) ∧ (ny ≤ 11 ∨ (nmO th ny = true ∧ Rk (nmO th) ny ≤ Rk (nmO th) (th (py C g)))) ∧ (nz ≤ 11 ∨ (nmO th nz = true ∧ Rk (nmO th) nz ≤ Rk (nmO th) (th (pz C g)))) := by
  obtain ⟨q1, q2, q3⟩ := ((h.2.2.2.1 g hg).2 hk).1
  obtain ⟨tx, nx, x1, x2, x3⟩ := pA_sp h d _ _ (Nat.le_refl _) q1
  obtain ⟨ty, ny, y1, y2, y3⟩ := pA_sp h d _ _ (Nat.le_refl _) q2
  obtain ⟨tz, nz, z1, z2, z3⟩ := pA_sp h d _ _ (Nat.le_refl _) q3
  refine ⟨tx, ty, tz, nx, ny, nz, x1, y1, z1, ?_, x3, y3, z3⟩
  have c1 := cnt_plR (C := C) (th := th) (sz := sz) (p := fun c => th (qaC C c) == d) (k := C.ng) (a := 0) (g := g) (by omega) (by omega)
  have c2 : (plG C th sz g).countP (fun c => th (qaC C c) == d) = (pA C th sz true (px C g)).countP (fun c => th (qaC C c) == d) + ((pA C th sz true (py C g)).countP (fun c => th (qaC C c) == d) + (pA C th sz true (pz C g)).countP (fun c => th (qaC C c) == d)) := by
    unfold plG
    rw [if_neg (by omega), if_neg (by omega), if_pos hk, List.countP_append, List.countP_append]
  have c3 : (plR C th sz 0 C.ng).countP (fun c => th (qaC C c) == d) ≤ (ltP C th sz).count d := by
    unfold ltP
    rw [List.count_eq_countP, List.countP_append, List.countP_map]
    exact Nat.le_add_right _ _
  omega
/-- one told tree, two valuations that agree on it -/
theorem posC_cg {nm nm2 : Nat → Bool} {th th2 qa qb : Nat → Nat} {tp : Nat} (h : ∀ c, cTd tp c → th2 c = th c) (hn : ∀ w, nm2 w = nm w) (hq : ∀ c, 256 ≤ c → c < 256 + tp → cTd tp (qa c) ∧ cTd tp (qb c)) : ∀ (n c : Nat) (l : Bool), cTd tp c → posC nm2 th2 qa qb n l c = posC nm th qa qb n l c := by
  intro n
  induction n with
  | zero => intro c l _; rfl
  | succ n ih =>
    intro c l hc
    unfold posC
    by_cases q : c < 256
    · rw [if_pos q, if_pos q]
    · have g := toT_in hc q
      obtain ⟨g1, g2⟩ := hq c g.1 g.2
      rw [if_neg q, if_neg q, ih _ false g1, ih _ true g2, ih _ false g2, hn, h c hc]
theorem toT_cg {nm nm2 : Nat → Bool} {th th2 qa qb sz : Nat → Nat} {tp : Nat} (hT : toT nm th qa qb sz tp) (h : ∀ c, cTd tp c → th2 c = th c) (hn : ∀ w, nm2 w = nm w) : toT nm2 th2 qa qb sz tp := by
  have e : nm2 = nm := funext hn
  refine ⟨fun c hc q => ?_, fun c h1 h2 => ?_⟩
  · rw [h c hc, e]
    exact hT.1 c hc q
  · obtain ⟨g1, g2, g3⟩ := hT.2 c h1 h2
    refine ⟨g1, g2, ?_⟩
    rw [h c (Or.inr (Or.inr ⟨h1, h2⟩)), h _ g1.1, h _ g1.2]
    exact g3
