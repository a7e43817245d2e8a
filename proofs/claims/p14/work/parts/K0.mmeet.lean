/-! MEET: the reference, exactly -/
/-- two answers have a solution in common -/
def jn (K1 K2 : Kx) : Prop := ∃ r1 r2, K1 r1 ∧ K2 r2 ∧ ∀ v, v < 6 → r1 v = r2 v
def sMeet (Q : Qx) (x y : Int32) : Int32 → Option Int32 → Prop := wAn Q x (fun _ _ X => wAn Q y (fun _ _ Y r o => (jn X.2.2.2 Y.2.2.2 ∧ wIs 1 r o) ∨ (¬ jn X.2.2.2 Y.2.2.2 ∧ wIs 0 r o)))
theorem sMeet_uq (Q : Qx) (x y : Int32) : uq (sMeet Q x y) := wAn_uq (fun i n X => wAn_uq (fun j n2 Y r o r2 o2 h1 h2 => by
  rcases h1 with ⟨a, b⟩ | ⟨a, b⟩ <;> rcases h2 with ⟨c, d⟩ | ⟨c, d⟩
  · exact wIs_uq _ _ _ _ _ b d
  · exact absurd a c
  · exact absurd c a
  · exact wIs_uq _ _ _ _ _ b d))
/-- what holds of the even codes goes on to all -/
theorem sol_ev {V : Nat → TV} {D : Nat → Prop} {rk : Nat → Nat} (hok : vOK V D rk) (cl : ∀ c, D c → c % 2 = 0 → (∀ e, V c = some (.inl e) → e % 2 = 0) ∧ (∀ a b, V c = some (.inr (.inr (a, b))) → a % 2 = 0 ∧ b % 2 = 0)) {u : Nat → Nat} (hu : ∀ c, D c → c % 2 = 0 → (∀ e, V c = some (.inl e) → u c = u e) ∧ (∀ n, V c = some (.inr (.inl n)) → u c = n) ∧ (∀ a b, V c = some (.inr (.inr (a, b))) → u c = nd (u a) (u b))) : ∃ t2, vSol V D t2 ∧ ∀ c, D c → c % 2 = 0 → t2 c = u c := by
  obtain ⟨th, h1, h2, _⟩ := vSol_ex hok u
  refine ⟨th, h1, ?_⟩
  have main : ∀ n c, rk c < n → D c → c % 2 = 0 → th c = u c := by
    intro n
    induction n with
    | zero => intro c h; omega
    | succ n ih =>
      intro c hn hD hev
      obtain ⟨o1, o2, o3⟩ := hok c hD
      obtain ⟨s1, s2, s3⟩ := h1 c hD
      obtain ⟨u1, u2, u3⟩ := hu c hD hev
      obtain ⟨c1, c2⟩ := cl c hD hev
      cases e : V c with
      | none => exact h2 c e
      | some x =>
        rcases x with y | y | ⟨a, b⟩
        · obtain ⟨q1, q2⟩ := o1 y e
          rw [s1 y e, u1 y e, ih y (by omega) q1 (c1 y e)]
        · rw [s2 y e, u2 y e]
        · obtain ⟨⟨q1, q2⟩, q3, q4⟩ := o3 a b e
          obtain ⟨p1, p2⟩ := c2 a b e
          rw [s3 a b e, u3 a b e, ih a (by omega) q1 p1, ih b (by omega) q3 p2]
  exact fun c hD hev => main (rk c + 1) c (by omega) hD hev
def shO : TV → TV
  | some (.inl e) => some (.inl (e + 1))
  | some (.inr (.inr (a, b))) => some (.inr (.inr (a + 1, b + 1)))
  | x => x
/-- a row of even codes -/
theorem row_ev {s : rSg} {T : Nat} (hP : hpP s T) {f : Nat → Int32} (hf : bRow s T f) : (∀ j, j < 64 → f j = -9 ∨ ∃ c, f j = nI (2 * c) ∧ 2 * c < 2 * T) ∧ ∀ c, mD T c → c % 2 = 0 → (∀ e, mV (upC s 736 (ldF f)) c = some (.inl e) → e % 2 = 0) ∧ (∀ a b, mV (upC s 736 (ldF f)) c = some (.inr (.inr (a, b))) → a % 2 = 0 ∧ b % 2 = 0) := by
  obtain ⟨⟨wf, rk, hok⟩, evf⟩ := hf
  obtain ⟨t1, t2, _, w4⟩ := wf
  have f4 : ∀ j, j < 64 → f j = -9 ∨ ∃ c, f j = nI (2 * c) ∧ 2 * c < 2 * T := fun j hj => by
    have := w4 j (by omega)
    rw [upC_same] at this
    unfold ldF at this
    rw [if_pos hj] at this
    rcases evf j hj with q | ⟨c, q, hc⟩
    · exact Or.inl q
    · rcases this with z | ⟨d, z, hd⟩
      · exact Or.inl z
      · exact Or.inr ⟨c, q, by rw [q] at z; have := nI_inj (by omega) (by omega) z; omega⟩
  refine ⟨f4, fun c hc hev => ?_⟩
  have hc : c < 2 * T := hc
  by_cases h1 : c / 2 < 64
  · have eo : opn c = c / 2 := by unfold opn; omega
    rcases f4 (c / 2) h1 with z | ⟨d, z, hd⟩
    · have : mV (upC s 736 (ldF f)) c = none := by unfold mV; rw [if_pos h1, eo, upC_same, show ldF f (c / 2) = f (c / 2) from if_pos h1, z, if_pos (by decide)]
      rw [this]
      exact ⟨fun _ z => (by cases z), fun _ _ z => (by cases z)⟩
    · have : mV (upC s 736 (ldF f)) c = some (.inl (2 * d)) := by unfold mV; rw [if_pos h1, eo, upC_same, show ldF f (c / 2) = f (c / 2) from if_pos h1, z, if_neg (nI_pos (by omega)), nI_clamp (by omega)]
      rw [this]
      exact ⟨fun _ z => (by cases z; omega), fun _ _ z => (by cases z)⟩
  · by_cases h2 : c / 2 < 75
    · rw [mV_atom (by omega) h2]
      exact ⟨fun _ z => (by cases z), fun _ _ z => (by cases z)⟩
    · obtain ⟨a, b, r1, r2, r3, r4⟩ := hP (c / 2) (by omega) (by omega)
      have : mV (upC s 736 (ldF f)) c = some (.inr (.inr (2 * a + c % 2, 2 * b + c % 2))) := by
        unfold mV
        rw [if_neg (by omega), if_neg (by omega), upC_ne _ _ (by decide), upC_ne _ _ (by decide), r1, r2, nI_clamp (by omega), nI_clamp (by omega)]
      rw [this]
      exact ⟨fun _ z => (by cases z), fun _ _ z => (by cases z; omega)⟩
theorem mTwo {s : rSg} {T : Nat} (hP : hpP s T) {f g : Nat → Int32} (hf : bRow s T f) (hg : bRow s T g) {t : rSg} (hT : T ≤ 6000) (e : ∀ j, j < T → t 727 j = s 727 j ∧ t 728 j = s 728 j) (e1 : ∀ j, j < 64 → t 736 j = f j) (e2 : ∀ j, j < 64 → t 736 (64 + j) = if g j < 0 then -9 else g j + 1) : (∀ c, mD T c → c % 2 = 0 → mV t c = mV (upC s 736 (ldF f)) c) ∧ ∀ c, mD T c → ¬ c % 2 = 0 → mV t c = shO (mV (upC s 736 (ldF g)) (c - 1)) := by
  obtain ⟨f4, _⟩ := row_ev hP hf
  obtain ⟨g4, _⟩ := row_ev hP hg
  refine ⟨fun c hc hev => ?_, fun c hc hev => ?_⟩
  · have hc : c < 2 * T := hc
    have eo : opn c = c / 2 := by unfold opn; omega
    unfold mV
    by_cases h1 : c / 2 < 64
    · rw [if_pos h1, if_pos h1, eo, upC_same, show ldF f (c / 2) = f (c / 2) from if_pos h1, e1 _ h1]
    · by_cases h2 : c / 2 < 75
      · rw [if_neg h1, if_neg h1, if_pos h2, if_pos h2]
      · rw [if_neg h1, if_neg h1, if_neg h2, if_neg h2, upC_ne _ _ (by decide), upC_ne _ _ (by decide), (e (c / 2) (by omega)).1, (e (c / 2) (by omega)).2]
  · have hc : c < 2 * T := hc
    have eo : opn c = 64 + c / 2 := by unfold opn; omega
    have eo2 : opn (c - 1) = c / 2 := by unfold opn; omega
    have ed : (c - 1) / 2 = c / 2 := by omega
    by_cases h1 : c / 2 < 64
    · rcases g4 (c / 2) h1 with z | ⟨d, z, hd⟩
      · have a1 : mV t c = none := by unfold mV; rw [if_pos h1, eo, e2 _ h1, z, if_pos (by decide)]
        have a2 : mV (upC s 736 (ldF g)) (c - 1) = none := by unfold mV; rw [ed, if_pos h1, eo2, upC_same, show ldF g (c / 2) = g (c / 2) from if_pos h1, z, if_pos (by decide)]
        rw [a1, a2]; rfl
      · have a1 : mV t c = some (.inl (2 * d + 1)) := by unfold mV; rw [if_pos h1, eo, e2 _ h1, z, if_neg (nI_pos (by omega)), nI_1, if_neg (nI_pos (by omega)), nI_clamp (by omega)]
        have a2 : mV (upC s 736 (ldF g)) (c - 1) = some (.inl (2 * d)) := by unfold mV; rw [ed, if_pos h1, eo2, upC_same, show ldF g (c / 2) = g (c / 2) from if_pos h1, z, if_neg (nI_pos (by omega)), nI_clamp (by omega)]
        rw [a1, a2]; rfl
    · by_cases h2 : c / 2 < 75
      · rw [mV_atom (by omega) h2, mV_atom (by omega) (by omega), ed]; rfl
      · obtain ⟨a, b, r1, r2, r3, r4⟩ := hP (c / 2) (by omega) (by omega)
        have ev : ∀ u : rSg, u 727 (c / 2) = nI a → u 728 (c / 2) = nI b → ∀ d, d / 2 = c / 2 → mV u d = some (.inr (.inr (2 * a + d % 2, 2 * b + d % 2))) := fun u q1 q2 d hd => by
          unfold mV
          rw [if_neg (by omega), if_neg (by omega), hd, q1, q2, nI_clamp (by omega), nI_clamp (by omega)]
        rw [ev t (by rw [(e (c / 2) (by omega)).1]; exact r1) (by rw [(e (c / 2) (by omega)).2]; exact r2) c rfl, ev (upC s 736 (ldF g)) (by rw [upC_ne _ _ (by decide)]; exact r1) (by rw [upC_ne _ _ (by decide)]; exact r2) (c - 1) ed, show (c - 1) % 2 = 0 by omega, show c % 2 = 1 by omega]
        rfl
theorem mJoint {s : rSg} {T : Nat} (hT : T ≤ 6000) (hP : hpP s T) {f g : Nat → Int32} (hf : bRow s T f) (hg : bRow s T g) {t : rSg} (e : ∀ j, j < T → t 727 j = s 727 j ∧ t 728 j = s 728 j) (e1 : ∀ j, j < 64 → t 736 j = f j) (e2 : ∀ j, j < 64 → t 736 (64 + j) = if g j < 0 then -9 else g j + 1) (h75 : 75 ≤ T) {K1 K2 : Kx} (k1 : mKv (upC s 736 (ldF f)) T K1) (k2 : mKv (upC s 736 (ldF g)) T K2) : (∃ th, vSol (mV t) (mD T) th ∧ ∀ v, v < 6 → th (2 * v) = th (2 * v + 1)) ↔ jn K1 K2 := by
  obtain ⟨_, c1⟩ := row_ev hP hf
  obtain ⟨_, c2⟩ := row_ev hP hg
  obtain ⟨m1, m2⟩ := mTwo hP hf hg hT e e1 e2
  obtain ⟨⟨_, rk1, ok1⟩, _⟩ := hf
  obtain ⟨⟨_, rk2, ok2⟩, _⟩ := hg
  constructor
  · rintro ⟨th, hs, hv⟩
    obtain ⟨t1, a1, a2⟩ := sol_ev ok1 c1 (u := th) (fun c hc hev => by rw [← m1 c hc hev]; exact hs c hc)
    obtain ⟨t2, b1, b2⟩ := sol_ev ok2 c2 (u := fun c => th (c + 1)) (fun c hc hev => by
      have hD : mD T (c + 1) := by have hc : c < 2 * T := hc; show c + 1 < 2 * T; omega
      have hh := hs (c + 1) hD
      rw [m2 (c + 1) hD (by omega), Nat.add_sub_cancel] at hh
      refine ⟨fun y q => ?_, fun y q => ?_, fun a b q => ?_⟩
      · rw [q] at hh; exact hh.1 (y + 1) rfl
      · rw [q] at hh; exact hh.2.1 y rfl
      · rw [q] at hh; exact hh.2.2 (a + 1) (b + 1) rfl)
    refine ⟨fun v => t1 (2 * v), fun v => t2 (2 * v), (k1 _).mpr ⟨t1, a1, fun v _ => rfl⟩, (k2 _).mpr ⟨t2, b1, fun v _ => rfl⟩, fun v h6 => ?_⟩
    have hD : mD T (2 * v) := show 2 * v < 2 * T by omega
    show t1 (2 * v) = t2 (2 * v)
    rw [a2 _ hD (by omega), b2 _ hD (by omega)]
    exact hv v h6
  · rintro ⟨r1, r2, q1, q2, hv⟩
    obtain ⟨t1, a1, a2⟩ := (k1 r1).mp q1
    obtain ⟨t2, b1, b2⟩ := (k2 r2).mp q2
    refine ⟨fun c => if c % 2 = 0 then t1 c else t2 (c - 1), fun c hc => ?_, fun v h6 => ?_⟩
    · by_cases hev : c % 2 = 0
      · have hh := a1 c hc
        obtain ⟨d1, d2⟩ := c1 c hc hev
        rw [m1 c hc hev]
        refine ⟨fun y q => ?_, fun y q => ?_, fun a b q => ?_⟩
        · simp only
          rw [if_pos hev, if_pos (d1 y q)]; exact hh.1 y q
        · simp only
          rw [if_pos hev]; exact hh.2.1 y q
        · simp only
          rw [if_pos hev, if_pos (d2 a b q).1, if_pos (d2 a b q).2]; exact hh.2.2 a b q
      · have hD : mD T (c - 1) := by have hc : c < 2 * T := hc; show c - 1 < 2 * T; omega
        have hh := b1 (c - 1) hD
        obtain ⟨d1, d2⟩ := c2 (c - 1) hD (by omega)
        rw [m2 c hc hev]
        cases ez : mV (upC s 736 (ldF g)) (c - 1) with
        | none => exact ⟨fun _ z => (by cases z), fun _ z => (by cases z), fun _ _ z => (by cases z)⟩
        | some x =>
          rcases x with y | y | ⟨a, b⟩
          · have p1 := d1 y ez
            refine ⟨fun w q => ?_, fun _ z => (by cases z), fun _ _ z => (by cases z)⟩
            cases q
            simp only
            rw [if_neg hev, if_neg (by omega), Nat.add_sub_cancel]; exact hh.1 y ez
          · refine ⟨fun _ z => (by cases z), fun w q => ?_, fun _ _ z => (by cases z)⟩
            cases q
            simp only
            rw [if_neg hev]; exact hh.2.1 y ez
          · obtain ⟨p1, p2⟩ := d2 a b ez
            refine ⟨fun _ z => (by cases z), fun _ z => (by cases z), fun w w2 q => ?_⟩
            cases q
            simp only
            rw [if_neg hev, if_neg (by omega), if_neg (by omega), Nat.add_sub_cancel, Nat.add_sub_cancel]; exact hh.2.2 a b ez
    · simp only
      rw [if_pos (by omega), if_neg (by omega), Nat.add_sub_cancel, a2 v (by omega), b2 v (by omega)]
      exact hv v h6
theorem mx_181c {s0 : rSg} {T : Nat} (hT : T ≤ 1400) {P : Option rv → rSg → Prop} (h1 : ∀ t, mfb s0 t → (∃ th, vSol (mV s0) (mD T) th ∧ ∀ v, v < 6 → th (2 * v) = th (2 * v + 1)) → P (some (.inl 1)) t) (h0 : ∀ t, mfb s0 t → (¬ ∃ th, vSol (mV s0) (mD T) th ∧ ∀ v, v < 6 → th (2 * v) = th (2 * v + 1)) → P (some (.inl 0)) t) : ∀ (n y : Nat) (b : Int32) (t : rSg) (tr : Nat), y + n = 6 → mSt t T → t 725 16 = nI tr → tr ≤ 128 * y → mfb s0 t → ((b = 1 ∧ ∀ th, vSol (mV t) (mD T) th ↔ vSol (mV s0) (mD T) th ∧ ∀ v, v < y → th (2 * v) = th (2 * v + 1)) ∨ (b = 0 ∧ ¬ ∃ th, vSol (mV s0) (mD T) th ∧ ∀ v, v < 6 → th (2 * v) = th (2 * v + 1))) → g_181_87 b (nI y) t P := by
  intro n
  induction n with
  | zero =>
    intro y b t tr hy hm h16 htr k hb
    obtain rfl : y = 6 := by omega
    refine w_181_87 t _ _ ⟨fun _ => ⟨fun e => ?_, fun e => ?_⟩, fun q => absurd (by decide) q⟩
    · rcases hb with ⟨rfl, _⟩ | ⟨_, hb⟩
      · exact absurd e (by decide)
      · exact h0 t k hb
    · rcases hb with ⟨_, hb⟩ | ⟨rfl, _⟩
      · obtain ⟨_, rk, hok⟩ := hm
        obtain ⟨th, q1, _⟩ := vSol_ex hok (fun _ => 0)
        exact h1 t k ⟨th, (hb th).mp q1⟩
      · exact absurd rfl e
  | succ n ih =>
    intro y b t tr hy hm h16 htr k hb
    have h75 := hm.1.1
    refine w_181_87 t _ _ ⟨fun q => absurd ((nI_leI (a := 6) (by decide) (by omega)).mp q) (by omega), fun _ => ⟨fun e => ⟨fun _ => ?_, fun q => absurd e q⟩, fun e => ?_⟩⟩
    · rcases hb with ⟨rfl, _⟩ | ⟨_, hb⟩
      · exact absurd e (by decide)
      · exact h0 t k hb
    · obtain ⟨rfl, hb2⟩ : b = 1 ∧ ∀ th, vSol (mV t) (mD T) th ↔ vSol (mV s0) (mD T) th ∧ ∀ v, v < y → th (2 * v) = th (2 * v + 1) := by
        rcases hb with hb | ⟨rfl, _⟩
        · exact hb
        · exact absurd rfl e
      rw [nI_dbl, nI_1, nI_1]
      refine (m_unifies hm hT h16 (by omega) (by omega) (by omega)).imp ?_
      rintro _ u ⟨x, bs, rfl, g1, g2, g3⟩
      have := g2.2.2.2.2.2.2
      have := opens_le t
      refine ⟨x, rfl, ih (y + 1) x u _ (by omega) g1 g2.2.1 (by omega) (k.trans g2.1) ?_⟩
      rcases g3 with ⟨rfl, g3, _⟩ | ⟨rfl, g3⟩
      · refine Or.inl ⟨rfl, fun th => ?_⟩
        rw [g3 th, hb2 th]
        constructor
        · rintro ⟨⟨p1, p2⟩, p3⟩
          refine ⟨p1, fun v hv => ?_⟩
          by_cases q : v = y
          · subst q; exact p3
          · exact p2 v (by omega)
        · rintro ⟨p1, p2⟩
          exact ⟨⟨p1, fun v hv => p2 v (by omega)⟩, p2 y (by omega)⟩
      · refine Or.inr ⟨rfl, ?_⟩
        rintro ⟨th, p1, p2⟩
        exact g3 th ((hb2 th).mpr ⟨p1, fun v hv => p2 v (by omega)⟩) (p2 y (by omega))
theorem mx_181E {s : rSg} {A : Ab} {im : Option Ab} (h : MJ s A im) (x y : Int32) : EvS rSkel 7 181 [.inr (.inr (some 725)), .inl x, .inl y] s (mP (sMeet A.Q x y) A im s) := by
  obtain ⟨T, G, L, hd, g, hb⟩ := id h
  have f := h.f
  have l30 := f.2.1.2
  have b1 := hb.1.1.1
  have r5 := hb.2.2.2.2.1.1
  have r2 := hb.2.1
  have rs := hb.1.rs
  refine w_181 s x y (mx_164 f.2.1.1 f.2.1.2 x (fun i hi e => ⟨_, rfl, fun q => absurd q (by decide), fun _ => ?_⟩) (fun hn => ⟨_, rfl, fun _ => mx_no (mk0.rfl' h) (by decide) (Or.inr ⟨hn, rfl, rfl⟩), fun q => absurd rfl q⟩))
  obtain ⟨⟨n, X⟩, hX⟩ : ∃ p, A.Q.2.1[i]? = some p := ⟨_, List.getElem?_eq_getElem hi⟩
  refine mx_164 f.2.1.1 f.2.1.2 y (fun j hj e2 => ⟨_, rfl, fun _ => ?_, fun q => absurd (by decide) q⟩) (fun hn => ⟨_, rfl, fun q => absurd rfl q, fun _ => mx_no (mk0.rfl' h) (by decide) (Or.inl ⟨i, n, X, hX, by omega, e, Or.inr ⟨hn, rfl, rfl⟩⟩)⟩)
  obtain ⟨⟨n2, Y⟩, hY⟩ : ∃ p, A.Q.2.1[j]? = some p := ⟨_, List.getElem?_eq_getElem hj⟩
  have aX := hb.1.2.2.1.2.2.2.2.2.2.2 i n X hX
  have aY := hb.1.2.2.1.2.2.2.2.2.2.2 j n2 Y hY
  rw [e, e2]
  refine (ms_167 rs.2.1.1 rs.2.1.2 (by omega)).imp ?_
  rintro _ t ⟨rfl, t6, t16, k⟩
  refine ⟨rfl, ms_181b (s0 := t) (A := j) (by omega) (fun u u1 u2 u3 => ?_) 64 0 t rfl (fun _ _ => rfl) (fun _ _ => rfl) (fun q hq => absurd hq (by omega))⟩
  have ku : mK [736] [16] s u := k.trans ⟨fun q g1 g2 => u1 q (fun e => g2 (by simp [e])), fun q _ => by rw [u1 725 (by decide)]⟩
  have ea : ∀ q, q < T → u 727 q = s 727 q ∧ u 728 q = s 728 q := fun q _ => by rw [ku.1 727 (by decide) (by simp), ku.1 728 (by decide) (by simp)]; exact ⟨rfl, rfl⟩
  have eb : ∀ q, q < 64 → u 736 q = s 743 (64 * (30 * 0 + i) + q) := fun q hq => by rw [u2 q hq, t6 q (by omega)]; exact if_pos hq
  have ec : ∀ q, q < 64 → u 736 (64 + q) = if s 743 (64 * (30 * 0 + j) + q) < 0 then -9 else s 743 (64 * (30 * 0 + j) + q) + 1 := fun q hq => by rw [u3 q hq, k.1 743 (by decide) (by simp), show 30 * 0 + j = j by omega]
  have hm : mSt u T := mSt_two rs.1.2.2.1 aX.1 aY.1 ea eb ec
  have jj := mJoint (by omega) rs.1.2.2.1 aX.1 aY.1 ea eb ec (by omega) aX.2.1 aY.2.1
  have fin : ∀ v, mfb u v → mk0 A im s v := fun v kv => by
    have kk : mK [736, 737, 738] [16, 17] s v := (ku.mono (by simp) (by simp)).trans (kv.K.mono (by simp) (by simp))
    exact mk0.K h kk (by simp [kJ]) (by simp [jI]) (by simp) (by simp)
  refine mx_181c (s0 := u) (by omega) (fun v kv hj => (fin v kv).is (Or.inl ⟨i, n, X, hX, by omega, rfl, Or.inl ⟨j, n2, Y, hY, by omega, rfl, Or.inl ⟨jj.mp hj, rfl, rfl⟩⟩⟩)) (fun v kv hj => (fin v kv).is (Or.inl ⟨i, n, X, hX, by omega, rfl, Or.inl ⟨j, n2, Y, hY, by omega, rfl, Or.inr ⟨fun z => hj (jj.mpr z), rfl, rfl⟩⟩⟩)) 6 0 1 u 0 rfl hm (by rw [u1 725 (by decide)]; exact t16) (by omega) mfb.rfl' (Or.inl ⟨rfl, fun th => ⟨fun q => ⟨q, fun v hv => absurd hv (by omega)⟩, fun q => q.1⟩⟩)
