/-! LETTER, ROW, CLEAR: both, exactly -/
def rwV (cap : Nat) (mx : Int32) (n : Nat) (x : Int32) : Int32 := if 0 ≤ x then (if mx < x then -6 else if n < cap then nI (n + 1) else -6) else -4
def rwN (cap : Nat) (mx : Int32) (n : Nat) (x : Int32) : Nat := if 0 ≤ x then (if mx < x then n else if n < cap then n + 1 else n) else n
def rwO (cap : Nat) (mx : Int32) (n : Nat) (x : Int32) : Option Int32 := if 0 ≤ x then (if mx < x then some (-6) else if n < cap then none else some (-6)) else some (-4)
theorem rwN_c (cap : Nat) (mx : Int32) (n : Nat) (x : Int32) : rwN cap mx n x = n ∨ (rwN cap mx n x = n + 1 ∧ n < cap) := by
  unfold rwN
  split
  · split
    · exact Or.inl rfl
    · split
      · next q => exact Or.inr ⟨rfl, q⟩
      · exact Or.inl rfl
  · exact Or.inl rfl
def rwC (r cap : Nat) (mx : Int32) (n : Nat) (x : Int32) (s t : rSg) : Prop := t r 1 = nI (rwN cap mx n x) ∧ (∀ i, i < n → t (r + 1) i = s (r + 1) i) ∧ (rwN cap mx n x = n + 1 → t (r + 1) n = x) ∧ (∀ q, q ≠ r → q ≠ r + 1 → q ≠ 691 → t q = s q) ∧ t 691 = rfC (rwO cap mx n x) (s 691)
def rwM (c f cap : Nat) (mx : Int32) (n : Nat) (x : Int32) (s t : rSg) : Prop := t 725 f = nI (rwN cap mx n x) ∧ (∀ i, i < n → t c i = s c i) ∧ (rwN cap mx n x = n + 1 → t c n = x) ∧ mK [c, 726] [f] s t ∧ t 726 = rfC (rwO cap mx n x) (s 726)
theorem cx_72r {s : rSg} {z : Int32} (hz : rIn (-z) 7 = true ∧ ¬ (-z) < 0 ∧ ¬ (Int32.ofNat 7) ≤ (-z)) {P : Option rv → rSg → Prop} (hP : ∀ t, (∀ q, q ≠ 691 → t q = s q) → t 691 = rfC (some z) (s 691) → P (some (.inl z)) t) : EvS rSkel 1 72 [.inr (.inr (some 0)), .inl z] s (fun v t => ∃ n, v = some (.inl n) ∧ P (some (.inl n)) t) :=
  w_72 s z ⟨fun q => absurd q hz.2.1, fun _ => ⟨fun q => absurd q hz.2.2, fun _ => ⟨hz.1, hz.1, z, rfl, hP _ (fun q hq => up2_nk _ _ _ hq) (rfC_up _ _ _)⟩⟩⟩
theorem mx_128r {s : rSg} {z : Int32} (hz : rIn (-z) 7 = true) {P : Option rv → rSg → Prop} (hP : ∀ t, (∀ q, q ≠ 726 → t q = s q) → t 726 = rfC (some z) (s 726) → P (some (.inl z)) t) : EvS rSkel 1 128 [.inr (.inr (some 725)), .inl z] s (fun v t => ∃ n, v = some (.inl n) ∧ P (some (.inl n)) t) :=
  w_128 s z ⟨hz, hz, z, rfl, hP _ (fun q hq => up2_nk _ _ _ hq) (rfC_up _ _ _)⟩
theorem cx_rowG {s : rSg} {r cap : Nat} (hr : isRow r cap) (hr2 : r = 687 ∨ r = 689) (hcap : cap ≤ 96) {n : Nat} (hl : s r 1 = nI n) (hn : n ≤ cap) (mx x : Int32) {P : Option rv → rSg → Prop} (hP : ∀ t, rwC r cap mx n x s t → P (some (.inl (rwV cap mx n x))) t) : (0 ≤ x → 
      (mx < x → 
        EvS rSkel 1 72 [.inr (.inr (some 0)), .inl ((-6))] s (fun v3 t4 => ∃ n6, v3 = some (.inl n6) ∧
          P (some (.inl n6)) t4)) ∧
      (¬ (mx < x) → 
        EvS rSkel 1 14 [.inr (.inr (some r))] s (fun v7 t8 => ∃ n10, v7 = some (.inl n10) ∧
          (n10 = 0 → 
            EvS rSkel 1 15 [.inr (.inr (some r)), .inl x] t8 (fun v12 t13 => ∃ n15, v12 = some (.inl n15) ∧
              P (some (.inl n15)) t13)) ∧
          (¬ (n10 = 0) → 
            EvS rSkel 1 72 [.inr (.inr (some 0)), .inl ((-6))] t8 (fun v16 t17 => ∃ n19, v16 = some (.inl n19) ∧
              P (some (.inl n19)) t17))))) ∧
    (¬ (0 ≤ x) → 
      EvS rSkel 1 72 [.inr (.inr (some 0)), .inl ((-4))] s (fun v20 t21 => ∃ n23, v20 = some (.inl n23) ∧
        P (some (.inl n23)) t21)) := by
  have no : ∀ z : Int32, rIn (-z) 7 = true ∧ ¬ (-z) < 0 ∧ ¬ (Int32.ofNat 7) ≤ (-z) → rwV cap mx n x = z → rwN cap mx n x = n → rwO cap mx n x = some z → EvS rSkel 1 72 [.inr (.inr (some 0)), .inl z] s (fun v t => ∃ n, v = some (.inl n) ∧ P (some (.inl n)) t) := fun z hz e1 e2 e3 => cx_72r hz (fun t t1 t2 => by
    have := hP t ⟨by rw [t1 r (by omega), e2]; exact hl, fun i _ => by rw [t1 (r + 1) (by omega)], fun q => by omega, fun q _ _ g => t1 q g, by rw [e3]; exact t2⟩
    rwa [e1] at this)
  refine ⟨fun h0 => ⟨fun h1 => no (-6) (by decide) ?_ ?_ ?_, fun h1 => w_14 s r cap hr ⟨fun h2 => ⟨_, rfl, fun _ => ?_, fun q => absurd rfl q⟩, fun h2 => ⟨_, rfl, fun q => absurd q (by decide), fun _ => no (-6) (by decide) ?_ ?_ ?_⟩⟩⟩, fun h0 => no (-4) (by decide) ?_ ?_ ?_⟩
  · unfold rwV; rw [if_pos h0, if_pos h1]
  · unfold rwN; rw [if_pos h0, if_pos h1]
  · unfold rwO; rw [if_pos h0, if_pos h1]
  · rw [hl] at h2
    have n9 : n < cap := (nI_ltI (b := cap) (by omega) (by omega)).mp h2
    refine w_15 s r cap hr x ⟨fun q => absurd q (by rw [hl]; exact nI_pos (by omega)), fun _ => ⟨fun q => absurd q (by rw [hl]; exact Int32.not_le.mpr h2), fun _ => ?_⟩⟩
    rw [hl, nI_1]
    refine ⟨rIn_nI n9 (by omega), _, rfl, ?_⟩
    have eV : rwV cap mx n x = nI (n + 1) := by unfold rwV; rw [if_pos h0, if_neg h1, if_pos n9]
    have eN : rwN cap mx n x = n + 1 := by unfold rwN; rw [if_pos h0, if_neg h1, if_pos n9]
    have eO : rwO cap mx n x = none := by unfold rwO; rw [if_pos h0, if_neg h1, if_pos n9]
    rw [← eV]
    refine hP _ ⟨by rw [eV, up2_same, eN], fun i hi => ?_, fun _ => ?_, fun q g1 g2 g3 => ?_, ?_⟩
    · rw [nI_clamp (by omega), up2_nk _ _ _ (by omega), up2_nj _ _ _ (by omega)]
    · rw [nI_clamp (by omega), up2_nk _ _ _ (by omega), up2_same]
    · rw [up2_nk _ _ _ g1, up2_nk _ _ _ g2]
    · rw [up2_nk _ _ _ (by omega), up2_nk _ _ _ (by omega), eO]
      rfl
  · rw [hl] at h2
    have n9 : ¬ n < cap := fun q => h2 ((nI_ltI (b := cap) (by omega) (by omega)).mpr q)
    unfold rwV; rw [if_pos h0, if_neg h1, if_neg n9]
  · rw [hl] at h2
    have n9 : ¬ n < cap := fun q => h2 ((nI_ltI (b := cap) (by omega) (by omega)).mpr q)
    unfold rwN; rw [if_pos h0, if_neg h1, if_neg n9]
  · rw [hl] at h2
    have n9 : ¬ n < cap := fun q => h2 ((nI_ltI (b := cap) (by omega) (by omega)).mpr q)
    unfold rwO; rw [if_pos h0, if_neg h1, if_neg n9]
  · unfold rwV; rw [if_neg h0]
  · unfold rwN; rw [if_neg h0]
  · unfold rwO; rw [if_neg h0]
theorem cx_71 {s : rSg} {n : Nat} (hl : s 687 1 = nI n) (hn : n ≤ 96) (x : Int32) : EvS rSkel 2 71 [.inr (.inr (some 0)), .inl x] s (fun v t => v = some (.inl (rwV 96 255 n x)) ∧ rwC 687 96 255 n x s t) := w_71 s x (cx_rowG (P := fun v t => v = some (.inl (rwV 96 255 n x)) ∧ rwC 687 96 255 n x s t) row687 (Or.inl rfl) (by decide) hl hn 255 x (fun t ht => ⟨rfl, ht⟩))
theorem cx_104 {s : rSg} {n : Nat} (hl : s 689 1 = nI n) (hn : n ≤ 32) (x : Int32) : EvS rSkel 2 104 [.inr (.inr (some 0)), .inl x] s (fun v t => v = some (.inl (rwV 32 127 n x)) ∧ rwC 689 32 127 n x s t) := w_104 s x (cx_rowG (P := fun v t => v = some (.inl (rwV 32 127 n x)) ∧ rwC 689 32 127 n x s t) row689 (Or.inr rfl) (by decide) hl hn 127 x (fun t ht => ⟨rfl, ht⟩))
theorem mx_126 {s : rSg} {n : Nat} (hl : s 725 39 = nI n) (hn : n ≤ 96) (x : Int32) : EvS rSkel 2 126 [.inr (.inr (some 725)), .inl x] s (fun v t => v = some (.inl (rwV 96 255 n x)) ∧ rwM 752 39 96 255 n x s t) := by
  have no : ∀ z : Int32, rIn (-z) 7 = true → rwV 96 255 n x = z → rwN 96 255 n x = n → rwO 96 255 n x = some z → EvS rSkel 1 128 [.inr (.inr (some 725)), .inl z] s (fun v7 t8 => ∃ n10, v7 = some (.inl n10) ∧ some (.inl n10 : rv) = some (.inl (rwV 96 255 n x)) ∧ rwM 752 39 96 255 n x s t8) := fun z hz e1 e2 e3 => mx_128r (P := fun v t => v = some (.inl (rwV 96 255 n x)) ∧ rwM 752 39 96 255 n x s t) hz (fun t t1 t2 => ⟨by rw [e1], by rw [t1 725 (by decide), e2]; exact hl, fun i _ => by rw [t1 752 (by decide)], fun q => by omega, ⟨fun q _ g => t1 q (fun e => g (by simp [e])), fun j _ => by rw [t1 725 (by decide)]⟩, by rw [e3]; exact t2⟩)
  refine w_126 s x (ms_127 s x 0 255 (fun h0 h1 => ⟨_, rfl, fun q => absurd rfl q, fun _ => ⟨fun h2 => ⟨fun _ => ?_, fun q => absurd rfl q⟩, fun h2 => ?_⟩⟩) (fun h0 h1 => ⟨_, rfl, fun _ => ⟨fun q => absurd q (by decide), fun _ => ?_⟩, fun q => absurd (by decide) q⟩) (fun h0 => ⟨_, rfl, fun _ => ⟨fun q => absurd q (by decide), fun _ => ?_⟩, fun q => absurd (by decide) q⟩))
  · have n9 : n < 96 := by
      have : n ≠ 96 := fun q => h2 (by rw [hl, q]; rfl)
      omega
    have g1 : ¬ 255 < x := Int32.not_lt.mpr h1
    have eV : rwV 96 255 n x = nI (n + 1) := by unfold rwV; rw [if_pos h0, if_neg g1, if_pos n9]
    have eN : rwN 96 255 n x = n + 1 := by unfold rwN; rw [if_pos h0, if_neg g1, if_pos n9]
    have eO : rwO 96 255 n x = none := by unfold rwO; rw [if_pos h0, if_neg g1, if_pos n9]
    rw [hl, nI_1]
    refine ⟨rIn_nI n9 (by decide), by rw [eV], by rw [up2_same, eN], fun i hi => ?_, fun _ => ?_, (mK.rfl'.up (by simp) (by decide)).upF (by simp), ?_⟩
    · rw [nI_clamp (by omega), up2_nk _ _ _ (by decide), up2_nj _ _ _ (by omega)]
    · rw [nI_clamp (by omega), up2_nk _ _ _ (by decide), up2_same]
    · rw [up2_nk _ _ _ (by decide), up2_nk _ _ _ (by decide), eO]; rfl
  · have e := Classical.not_not.mp h2
    rw [hl] at e
    have n9 : n = 96 := (nI_eq (b := 96) (by omega) (by decide)).mp e
    have g1 : ¬ 255 < x := Int32.not_lt.mpr h1
    exact no (-6) (by decide) (by unfold rwV; rw [if_pos h0, if_neg g1, if_neg (by omega)]) (by unfold rwN; rw [if_pos h0, if_neg g1, if_neg (by omega)]) (by unfold rwO; rw [if_pos h0, if_neg g1, if_neg (by omega)])
  · have g1 : 255 < x := Int32.not_le.mp h1
    exact no (-6) (by decide) (by unfold rwV; rw [if_pos h0, if_pos g1]) (by unfold rwN; rw [if_pos h0, if_pos g1]) (by unfold rwO; rw [if_pos h0, if_pos g1])
  · exact no (-4) (by decide) (by unfold rwV; rw [if_neg h0]) (by unfold rwN; rw [if_neg h0]) (by unfold rwO; rw [if_neg h0])
theorem mx_197 {s : rSg} {n : Nat} (hl : s 725 58 = nI n) (hn : n ≤ 32) (x : Int32) : EvS rSkel 2 197 [.inr (.inr (some 725)), .inl x] s (fun v t => v = some (.inl (rwV 32 127 n x)) ∧ rwM 759 58 32 127 n x s t) := by
  have no : ∀ z : Int32, rIn (-z) 7 = true → rwV 32 127 n x = z → rwN 32 127 n x = n → rwO 32 127 n x = some z → EvS rSkel 1 128 [.inr (.inr (some 725)), .inl z] s (fun v7 t8 => ∃ n10, v7 = some (.inl n10) ∧ some (.inl n10 : rv) = some (.inl (rwV 32 127 n x)) ∧ rwM 759 58 32 127 n x s t8) := fun z hz e1 e2 e3 => mx_128r (P := fun v t => v = some (.inl (rwV 32 127 n x)) ∧ rwM 759 58 32 127 n x s t) hz (fun t t1 t2 => ⟨by rw [e1], by rw [t1 725 (by decide), e2]; exact hl, fun i _ => by rw [t1 759 (by decide)], fun q => by omega, ⟨fun q _ g => t1 q (fun e => g (by simp [e])), fun j _ => by rw [t1 725 (by decide)]⟩, by rw [e3]; exact t2⟩)
  refine w_197 s x (ms_127 s x 0 127 (fun h0 h1 => ⟨_, rfl, fun q => absurd rfl q, fun _ => ⟨fun h2 => ⟨fun _ => ?_, fun q => absurd rfl q⟩, fun h2 => ?_⟩⟩) (fun h0 h1 => ⟨_, rfl, fun _ => ⟨fun q => absurd q (by decide), fun _ => ?_⟩, fun q => absurd (by decide) q⟩) (fun h0 => ⟨_, rfl, fun _ => ⟨fun q => absurd q (by decide), fun _ => ?_⟩, fun q => absurd (by decide) q⟩))
  · have n9 : n < 32 := by
      have : n ≠ 32 := fun q => h2 (by rw [hl, q]; rfl)
      omega
    have g1 : ¬ 127 < x := Int32.not_lt.mpr h1
    have eV : rwV 32 127 n x = nI (n + 1) := by unfold rwV; rw [if_pos h0, if_neg g1, if_pos n9]
    have eN : rwN 32 127 n x = n + 1 := by unfold rwN; rw [if_pos h0, if_neg g1, if_pos n9]
    have eO : rwO 32 127 n x = none := by unfold rwO; rw [if_pos h0, if_neg g1, if_pos n9]
    rw [hl, nI_1]
    refine ⟨rIn_nI n9 (by decide), by rw [eV], by rw [up2_same, eN], fun i hi => ?_, fun _ => ?_, (mK.rfl'.up (by simp) (by decide)).upF (by simp), ?_⟩
    · rw [nI_clamp (by omega), up2_nk _ _ _ (by decide), up2_nj _ _ _ (by omega)]
    · rw [nI_clamp (by omega), up2_nk _ _ _ (by decide), up2_same]
    · rw [up2_nk _ _ _ (by decide), up2_nk _ _ _ (by decide), eO]; rfl
  · have e := Classical.not_not.mp h2
    rw [hl] at e
    have n9 : n = 32 := (nI_eq (b := 32) (by omega) (by decide)).mp e
    have g1 : ¬ 127 < x := Int32.not_lt.mpr h1
    exact no (-6) (by decide) (by unfold rwV; rw [if_pos h0, if_neg g1, if_neg (by omega)]) (by unfold rwN; rw [if_pos h0, if_neg g1, if_neg (by omega)]) (by unfold rwO; rw [if_pos h0, if_neg g1, if_neg (by omega)])
  · have g1 : 127 < x := Int32.not_le.mp h1
    exact no (-6) (by decide) (by unfold rwV; rw [if_pos h0, if_pos g1]) (by unfold rwN; rw [if_pos h0, if_pos g1]) (by unfold rwO; rw [if_pos h0, if_pos g1])
  · exact no (-4) (by decide) (by unfold rwV; rw [if_neg h0]) (by unfold rwN; rw [if_neg h0]) (by unfold rwO; rw [if_neg h0])
/-- what JI says when cells of rows alone change -/
theorem JI.rows {k : Nat} {s t u : rSg} {A : Ab} {im : Option Ab} (h1 : clI s) (h2 : CJ s A im) (h3 : MJ s A im) {l : Nat} (h5 : cSn s l) (h6 : l + (k + 1) * 5304000 + 30000 < 2 ^ 32) (e1 : ∀ q, q < 678 ∨ 725 ≤ q → t q = s q) (c : mC t u) (e2 : mK kJ (jI ++ [39, 58]) t u) (hs : SH u) : JI k u := by
  refine ⟨A, im, ⟨h1.1.ext ?_, h1.2.1.ext ?_, h1.2.2.ext ?_⟩, (h2.fr (t := t) (fun q hq => e1 q (by omega))).cong c, (h3.cong (fun q hq => e1 q (by omega))).K e2, hs, l, cSn_fr h5 ?_ ?_, Nat.lt_of_le_of_lt (Nat.add_le_add_right (Nat.add_le_add_left (Nat.mul_le_mul_right _ (Nat.le_succ k)) l) _) h6⟩
  · rw [c 6 (by decide), e1 6 (by omega)]
  · rw [c 230 (by decide), e1 230 (by omega)]
  · rw [c 454 (by decide), e1 454 (by omega)]
  · rw [c 1 (by decide), e1 1 (by omega)]
  · rw [c 5 (by decide), e1 5 (by omega)]
theorem oX_letter {k : Nat} {s : rSg} (h : JI (k + 1) s) (x : Int32) : opX s k 71 126 [.inl x] := by
  obtain ⟨A, im, h1, h2, h3, ⟨⟨n, n1, n2, n3, n4⟩, ⟨m, m1, m2, m3, m4⟩, hr⟩, l, h5, h6⟩ := h
  refine ((cx_71 n2 n1 x).up (by decide)).imp ?_
  rintro _ t ⟨rfl, c1, c2, c3, c4, c5⟩
  have ct : ∀ q, 725 ≤ q → t q = s q := fun q hq => c4 q (by omega) (by omega) (by omega)
  refine ⟨_, rfl, ((mx_126 (s := t) (n := n) (by rw [ct 725 (by omega)]; exact n3) n1 x).up (by decide)).imp ?_⟩
  rintro _ u ⟨rfl, d1, d2, d3, d4, d5⟩
  have cu : mC t u := d4.C (by simp)
  have hN := rwN_c 96 255 n x
  refine ⟨rfl, JI.rows h1 h2 h3 h5 h6 (fun q hq => c4 q (by omega) (by omega) (by omega)) cu (d4.mono (by simp [kJ]) (by simp)) ⟨⟨rwN 96 255 n x, by omega, by rw [cu 687 (by decide)]; exact c1, d1, fun i hi => ?_⟩, ⟨m, m1, by rw [cu 689 (by decide), c4 689 (by decide) (by decide) (by decide)]; exact m2, by rw [d4.2 58 (by simp), ct 725 (by omega)]; exact m3, fun i hi => by rw [cu 690 (by decide), c4 690 (by decide) (by decide) (by decide), d4.1 759 (by decide) (by simp), ct 759 (by omega)]; exact m4 i hi⟩, ?_⟩⟩
  · rw [cu 688 (by decide)]
    by_cases q : i < n
    · rw [c2 i q, d2 i q, ct 752 (by omega)]
      exact n4 i q
    · obtain rfl : i = n := by omega
      rw [c3 (by omega), d3 (by omega)]
  · rw [cu 691 (by decide), c5, d5, ct 726 (by omega), hr]
theorem oX_row {k : Nat} {s : rSg} (h : JI (k + 1) s) (x : Int32) : opX s k 104 197 [.inl x] := by
  obtain ⟨A, im, h1, h2, h3, ⟨⟨n, n1, n2, n3, n4⟩, ⟨m, m1, m2, m3, m4⟩, hr⟩, l, h5, h6⟩ := h
  refine ((cx_104 m2 m1 x).up (by decide)).imp ?_
  rintro _ t ⟨rfl, c1, c2, c3, c4, c5⟩
  have ct : ∀ q, 725 ≤ q → t q = s q := fun q hq => c4 q (by omega) (by omega) (by omega)
  refine ⟨_, rfl, ((mx_197 (s := t) (n := m) (by rw [ct 725 (by omega)]; exact m3) m1 x).up (by decide)).imp ?_⟩
  rintro _ u ⟨rfl, d1, d2, d3, d4, d5⟩
  have cu : mC t u := d4.C (by simp)
  have hN := rwN_c 32 127 m x
  refine ⟨rfl, JI.rows h1 h2 h3 h5 h6 (fun q hq => c4 q (by omega) (by omega) (by omega)) cu (d4.mono (by simp [kJ]) (by simp)) ⟨⟨n, n1, by rw [cu 687 (by decide), c4 687 (by decide) (by decide) (by decide)]; exact n2, by rw [d4.2 39 (by simp), ct 725 (by omega)]; exact n3, fun i hi => by rw [cu 688 (by decide), c4 688 (by decide) (by decide) (by decide), d4.1 752 (by decide) (by simp), ct 752 (by omega)]; exact n4 i hi⟩, ⟨rwN 32 127 m x, by omega, by rw [cu 689 (by decide)]; exact c1, d1, fun i hi => ?_⟩, ?_⟩⟩
  · rw [cu 690 (by decide)]
    by_cases q : i < m
    · rw [c2 i q, d2 i q, ct 759 (by omega)]
      exact m4 i q
    · obtain rfl : i = m := by omega
      rw [c3 (by omega), d3 (by omega)]
  · rw [cu 691 (by decide), c5, d5, ct 726 (by omega), hr]
theorem oX_clear {k : Nat} {s : rSg} (h : JI (k + 1) s) : opX s k 106 199 [] := by
  obtain ⟨A, im, h1, h2, h3, ⟨⟨n, n1, n2, n3, n4⟩, ⟨m, m1, m2, m3, m4⟩, hr⟩, l, h5, h6⟩ := h
  refine EvS.up (w_106 s (w_16 s 689 32 row689 ⟨_, rfl, w_18 s 689 32 row689 ⟨rfl, _, rfl, ?_⟩⟩)) (by decide)
  refine EvS.up (w_199 _ ⟨?_, ?_⟩) (by decide)
  · rw [up2_nk _ _ _ (by decide), m2, m3]
  · have ku : mK [] [58] (up2 s 689 1 0) (up2 (up2 s 689 1 0) 725 58 0) := mK.rfl'.upF (by simp)
    have cu := ku.C (by simp)
    refine JI.rows h1 h2 h3 h5 h6 (fun q hq => up2_nk _ _ _ (by omega)) cu (ku.mono (by simp) (by simp)) ⟨⟨n, n1, ?_, ?_, fun i hi => ?_⟩, ⟨0, by decide, ?_, up2_same _ _ _ _, fun i hi => by omega⟩, ?_⟩
    · rw [cu 687 (by decide), up2_nk _ _ _ (by decide)]; exact n2
    · rw [ku.2 39 (by simp), up2_nk _ _ _ (by decide)]; exact n3
    · rw [cu 688 (by decide), up2_nk _ _ _ (by decide), ku.1 752 (by decide) (by simp), up2_nk _ _ _ (by decide)]; exact n4 i hi
    · rw [cu 689 (by decide), up2_same]; rfl
    · rw [cu 691 (by decide), up2_nk _ _ _ (by decide), ku.1 726 (by decide) (by simp), up2_nk _ _ _ (by decide)]; exact hr
