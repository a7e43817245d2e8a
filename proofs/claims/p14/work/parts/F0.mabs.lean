/-! THE REFERENCE stands for the abstract search: terms, unifies, a kept one looked at -/
def m0 (s : rSg) (c : Nat) : TV := if c / 2 < 64 then none else mV s c
/-- what a term comes to -/
def tdm (s : rSg) (T a : Nat) (f : Tf) : Prop := ∀ th, vSol (m0 s) (mD T) th → ∀ r, (∀ v, v < 64 → th (2 * v) = r v) → th (2 * a) = f r
/-- the solutions of the bindings at hand -/
def mKv (s : rSg) (T : Nat) (K : Kx) : Prop := ∀ r, K r ↔ ∃ th, vSol (mV s) (mD T) th ∧ ∀ v, v < 64 → th (2 * v) = r v
theorem m0_sol {s : rSg} {T : Nat} {th : Nat → Nat} (h : vSol (mV s) (mD T) th) : vSol (m0 s) (mD T) th := fun c hc => by
  unfold m0
  by_cases q : c / 2 < 64
  · rw [if_pos q]
    exact ⟨fun _ z => (by cases z), fun _ z => (by cases z), fun _ _ z => (by cases z)⟩
  · rw [if_neg q]
    exact h c hc
theorem mV_high {s t : rSg} {c : Nat} (h : 64 ≤ c / 2) (e : 75 ≤ c / 2 → t 727 (c / 2) = s 727 (c / 2) ∧ t 728 (c / 2) = s 728 (c / 2)) : mV t c = mV s c := by
  have g : ¬ c / 2 < 64 := by omega
  by_cases q : c / 2 < 75
  · simp only [mV, if_neg g, if_pos q]
  · simp only [mV, if_neg g, if_neg q, (e (by omega)).1, (e (by omega)).2]
theorem tdm_ext {s t : rSg} {T T2 a : Nat} {f : Tf} (hT : T ≤ T2) (e : ∀ j, j < T → t 727 j = s 727 j ∧ t 728 j = s 728 j) (h : tdm s T a f) : tdm t T2 a f := by
  intro th hs r hr
  refine h th (fun c hc => ?_) r hr
  have h1 := hs c (by show c < 2 * T2; have : c < 2 * T := hc; omega)
  have e2 : m0 t c = m0 s c := by
    unfold m0
    by_cases q : c / 2 < 64
    · rw [if_pos q, if_pos q]
    · rw [if_neg q, if_neg q]
      exact mV_high (by omega) (fun _ => e _ (by have : c < 2 * T := hc; omega))
  rw [e2] at h1
  exact h1
theorem tdm_vr {s : rSg} {T v : Nat} (h : v < 64) : tdm s T v (vr v) := fun th _ r hr => hr v h
theorem tdm_nil {s : rSg} {T : Nat} (hT : 75 ≤ T) : tdm s T 74 (atm 10) := fun th hs r _ => by
  have := (hs (2 * 74) (by show 2 * 74 < 2 * T; omega)).2.1 10 (by unfold m0; rw [if_neg (by decide)]; unfold mV; rw [if_neg (by decide), if_pos (by decide)])
  exact this
theorem tdm_pair {s : rSg} {T a b c : Nat} {f g : Tf} (hc : 75 ≤ c) (hcT : c < T) (e1 : s 727 c = nI a) (e2 : s 728 c = nI b) (ha : a < 2 ^ 31) (hb : b < 2 ^ 31) (h1 : tdm s T a f) (h2 : tdm s T b g) : tdm s T c (prf f g) := fun th hs r hr => by
  have hv : m0 s (2 * c) = some (.inr (.inr (2 * a, 2 * b))) := by
    unfold m0 mV
    rw [show 2 * c / 2 = c by omega, if_neg (by omega), if_neg (by omega), if_neg (by omega), e1, e2, nI_clamp ha, nI_clamp hb, show 2 * c % 2 = 0 by omega]
    simp
  rw [(hs (2 * c) (by show 2 * c < 2 * T; omega)).2.2 _ _ hv, h1 th hs r hr, h2 th hs r hr]
  rfl
theorem mKv_ag {s t : rSg} {T : Nat} {K : Kx} (h : vAg (mD T) (mV s) (mV t)) (hk : mKv s T K) : mKv t T K := fun r => by
  rw [hk r]
  constructor
  · rintro ⟨th, h1, h2⟩; exact ⟨th, (vSol_ag h).mpr h1, h2⟩
  · rintro ⟨th, h1, h2⟩; exact ⟨th, (vSol_ag h).mp h1, h2⟩
/-- more pairs: the same solutions -/
theorem mKv_grow {s t : rSg} {T a b : Nat} {K : Kx} (hst : mSt s T) (e : ∀ j, j < T → t 727 j = s 727 j ∧ t 728 j = s 728 j) (eb : ∀ j, j < 128 → t 736 j = s 736 j) (e1 : t 727 T = nI a) (e2 : t 728 T = nI b) (ha : a < T) (hb : b < T) (hk : mKv s T K) : mKv t (T + 1) K := by
  obtain ⟨hw, rk, hok⟩ := hst
  have hT := hw.1
  have hT6 := hw.2.1
  have same : ∀ c, c < 2 * T → mV t c = mV s c := fun c hc => by
    by_cases q : c / 2 < 64
    · unfold mV
      rw [if_pos q, if_pos q, eb _ (opn_lt q)]
    · exact mV_high (by omega) (fun _ => e _ (by omega))
  have new : ∀ c, c / 2 = T → mV t c = some (.inr (.inr (2 * a + c % 2, 2 * b + c % 2))) := fun c hc => by
    unfold mV
    rw [if_neg (by omega), if_neg (by omega), hc, e1, e2, nI_clamp (by omega), nI_clamp (by omega)]
  intro r
  rw [hk r]
  constructor
  · rintro ⟨th, h1, h2⟩
    obtain ⟨S, hS1, low⟩ : ∃ S : Nat → Nat, (∀ c, c / 2 = T → S c = nd (th (2 * a + c % 2)) (th (2 * b + c % 2))) ∧ ∀ c, c < 2 * T → S c = th c := ⟨fun c => if c / 2 = T then nd (th (2 * a + c % 2)) (th (2 * b + c % 2)) else th c, fun c hc => if_pos hc, fun c hc => if_neg (by omega)⟩
    refine ⟨S, fun c hc => ?_, fun v hv => by rw [low _ (by omega)]; exact h2 v hv⟩
    have hc : c < 2 * (T + 1) := hc
    by_cases q : c / 2 = T
    · rw [new c q, hS1 c q]
      refine ⟨fun _ z => (by cases z), fun _ z => (by cases z), fun x y z => ?_⟩
      cases z
      rw [low _ (by omega), low _ (by omega)]
    · have hcl : c < 2 * T := by omega
      rw [same c hcl, low c hcl]
      have h0 := h1 c hcl
      have h9 := hok c hcl
      refine ⟨fun x hx => ?_, h0.2.1, fun x y hp => ?_⟩
      · rw [low x (h9.1 x hx).1]
        exact h0.1 x hx
      · rw [low x (h9.2.2 x y hp).1.1, low y (h9.2.2 x y hp).2.1]
        exact h0.2.2 x y hp
  · rintro ⟨th, h1, h2⟩
    refine ⟨th, fun c hc => ?_, h2⟩
    have hc : c < 2 * T := hc
    have := h1 c (by show c < 2 * (T + 1); omega)
    rw [same c hc] at this
    exact this
theorem mSt_sax {s : rSg} {T : Nat} {K : Kx} (h : mSt s T) (hk : mKv s T K) : sax K := by
  obtain ⟨_, rk, hok⟩ := h
  obtain ⟨th, h1, _⟩ := vSol_ex hok (fun _ => 0)
  exact ⟨fun v => th (2 * v), (hk _).mpr ⟨th, h1, fun _ _ => rfl⟩⟩
/-- what unifies does to the set of solutions -/
theorem mUni_K {s t : rSg} {T a b tr : Nat} {x : Int32} {bs : List Nat} {K : Kx} {f g : Tf} (h : mUni s t T (2 * a) (2 * b) tr x bs) (hk : mKv s T K) (ha : tdm s T a f) (hb : tdm s T b g) : (x = 1 ∧ sax (uni K f g) ∧ mKv t T (uni K f g) ∧ (bs = [] ↔ ∀ r, K r → f r = g r)) ∨ (x = 0 ∧ ¬ sax (uni K f g)) := by
  obtain ⟨hst, hbd, h⟩ := h
  rcases h with ⟨hx, hsol, hbs⟩ | ⟨hx, hno⟩
  · have hkt : mKv t T (uni K f g) := by
      intro r
      constructor
      · rintro ⟨h1, h2⟩
        obtain ⟨th, g1, g2⟩ := (hk r).mp h1
        exact ⟨th, (hsol th).mpr ⟨g1, by rw [ha th (m0_sol g1) r g2, hb th (m0_sol g1) r g2]; exact h2⟩, g2⟩
      · rintro ⟨th, g1, g2⟩
        have := (hsol th).mp g1
        exact ⟨(hk r).mpr ⟨th, this.1, g2⟩, by rw [← ha th (m0_sol this.1) r g2, ← hb th (m0_sol this.1) r g2]; exact this.2⟩
    refine Or.inl ⟨hx, mSt_sax hst hkt, hkt, ?_⟩
    constructor
    · intro hb0 r hr
      obtain ⟨th, g1, g2⟩ := (hk r).mp hr
      have same : mV t = mV s := mV_same hbd.1 (fun j hj => hbd.2.2.2.2.2.1 j hj (by rw [hb0]; exact List.not_mem_nil))
      have := (hsol th).mp (by rw [same]; exact g1)
      rw [← ha th (m0_sol g1) r g2, ← hb th (m0_sol g1) r g2]
      exact this.2
    · intro hall
      rcases hbs with q | ⟨th, g1, g2⟩
      · exact q
      · exfalso
        refine g2 ?_
        rw [ha th (m0_sol g1) (fun v => th (2 * v)) (fun _ _ => rfl), hb th (m0_sol g1) (fun v => th (2 * v)) (fun _ _ => rfl)]
        exact hall _ ((hk _).mpr ⟨th, g1, fun _ _ => rfl⟩)
  · refine Or.inr ⟨hx, ?_⟩
    rintro ⟨r, h1, h2⟩
    obtain ⟨th, g1, g2⟩ := (hk r).mp h1
    refine hno th g1 ?_
    rw [ha th (m0_sol g1) r g2, hb th (m0_sol g1) r g2]
    exact h2
theorem fs_144 {s : rSg} {T a b : Nat} {K : Kx} {f g : Tf} (h : cB s T) (hT9 : T ≤ 1400) (la : a < T) (lb : b < T) (hk : mKv s T K) (ha : tdm s T a f) (hb : tdm s T b g) : EvS rSkel 7 144 [.inr (.inr (some 725)), .inl (nI a), .inl (nI b)] s (fun r t => ∃ x, r = some (.inl x) ∧ cB t T ∧ mfb s t ∧ ((x = 1 ∧ sax (uni K f g) ∧ mKv t T (uni K f g)) ∨ (x = 0 ∧ ¬ sax (uni K f g)))) := by
  obtain ⟨hst, ev, tr, h1, h2⟩ := h
  refine w_144 s _ _ ?_
  rw [nI_dbl, nI_dbl]
  refine (m_unifiesE hst hT9 h1 (by omega) (a := 2 * a) (b := 2 * b) (by omega) (by omega)).imp ?_
  rintro _ t ⟨x, bs, rfl, hu, g4⟩
  have hK := mUni_K hu hk ha hb
  obtain ⟨g1, g2, g3⟩ := hu
  refine ⟨x, rfl, ?_, x, rfl, ⟨g1, g4 ⟨ev, by omega, by omega⟩, _, g2.2.1, ?_⟩, g2.1, ?_⟩
  · rcases g3 with q | q
    · rw [q.1]; decide
    · rw [q.1]; decide
  · have := g2.2.2.2.2.2.2
    omega
  · rcases hK with ⟨q1, q2, q3, _⟩ | q
    · exact Or.inl ⟨q1, q2, q3⟩
    · exact Or.inr q
/-- two kept ones looked at, exactly -/
theorem fs_155 {s : rSg} {T G L l : Nat} {K : Kx} {f g : Tf} (hh : hp s T G L) (h : cB s T) (hk : mKv s T K) {a b : Nat} (hl : l < L) (ha : s 733 l = nI a) (hb : s 734 l = nI b) (la : a < T) (lb : b < T) (da : tdm s T a f) (db : tdm s T b g) : EvS rSkel 7 155 [.inr (.inr (some 725)), .inl (nI l)] s (fun r t => ∃ x : Int32, r = some (.inl x) ∧ cB t T ∧ mfb s t ∧ mKv t T K ∧ ((x = 0 ∧ ∀ r, K r → f r = g r) ∨ (x = 1 ∧ sax (uni K f g) ∧ ¬ ∀ r, K r → f r = g r) ∨ (x = 2 ∧ ¬ sax (uni K f g) ∧ ¬ ∀ r, K r → f r = g r))) := by
  obtain ⟨hst, ev, tr, h1, h2⟩ := h
  have b1 := hh.1
  have hr : rIn (nI l) 20000 = true := rIn_nI (by omega) (by decide)
  refine w_155 s _ ⟨hr, hr, ?_⟩
  rw [nI_clamp (by omega), ha, hb, nI_dbl, nI_dbl, h1]
  refine (m_unifies hst (by omega) h1 (by omega) (a := 2 * a) (b := 2 * b) (by omega) (by omega)).imp ?_
  rintro _ t ⟨x, bs, rfl, hu⟩
  have hK := mUni_K hu hk da db
  obtain ⟨g1, g2, g3⟩ := hu
  have un : ∀ {P : Option rv → rSg → Prop}, (∀ u, cB u T → mfb s u → mKv u T K → P none u) → EvS rSkel 1 156 [.inr (.inr (some 725)), .inl (nI tr)] t P := fun k => by
    refine (mw_undoes (by omega) g2).imp ?_
    rintro _ u ⟨rfl, f1, f2, f3, f4⟩
    exact k u (cB.same hst f1 f4 f2 h2 ev) f1 (mKv_ag (fun c _ => by rw [mV_same f1 f4]) hk)
  have bl : bs.length ≤ 128 := by
    have := g2.2.2.2.2.2.2
    have := opens_le s
    omega
  have h16 : t 725 16 = nI (tr + bs.length) := g2.2.1
  rcases hK with ⟨rfl, q2, _, q4⟩ | ⟨rfl, q2⟩
  · refine ⟨1, rfl, fun q => absurd q (by decide), fun _ => ⟨fun q => un (fun u k1 k2 k3 => ⟨rfl, fun z => absurd z (by decide), fun _ => ⟨_, rfl, k1, k2, k3, Or.inr (Or.inl ⟨rfl, q2, fun z => ?_⟩)⟩⟩), fun q => un (fun u k1 k2 k3 => ⟨rfl, _, rfl, k1, k2, k3, Or.inl ⟨rfl, q4.mp ?_⟩⟩)⟩⟩
    · have := q4.mpr z
      rw [this] at h16
      exact q h16
    · have q := Classical.not_not.mp q
      rw [h16] at q
      have := (nI_eq (by omega) (by omega)).mp q
      exact List.eq_nil_of_length_eq_zero (by omega)
  · refine ⟨0, rfl, fun _ => un (fun u k1 k2 k3 => ⟨rfl, fun _ => ⟨_, rfl, k1, k2, k3, Or.inr (Or.inr ⟨rfl, q2, fun z => ?_⟩)⟩, fun z => absurd rfl z⟩), fun q => absurd rfl q⟩
    obtain ⟨r, hr⟩ := mSt_sax hst hk
    exact q2 ⟨r, hr, z r hr⟩
