/-! THE REFERENCE's TERMS -/
def mV (sg : rSg) (c : Nat) : TV := if c / 2 < 64 then (if sg 736 (opn c) < 0 then none else some (.inl (sg 736 (opn c)).toNatClampNeg)) else if c / 2 < 75 then some (.inr (.inl (c / 2 - 64))) else some (.inr (.inr (2 * (sg 727 (c / 2)).toNatClampNeg + c % 2, 2 * (sg 728 (c / 2)).toNatClampNeg + c % 2)))
def mWF (sg : rSg) (T : Nat) : Prop := 75 ≤ T ∧ T ≤ 6000 ∧ (∀ t, 75 ≤ t → t < T → ∃ a b, sg 727 t = nI a ∧ sg 728 t = nI b ∧ a < T ∧ b < T) ∧ (∀ i, i < 128 → sg 736 i = -9 ∨ ∃ c, sg 736 i = nI c ∧ c < 2 * T)
abbrev mD (T : Nat) : Nat → Prop := fun c => c < 2 * T
def mSt (sg : rSg) (T : Nat) : Prop := mWF sg T ∧ ∃ rk, vOK (mV sg) (mD T) rk
theorem mV_var {sg : rSg} {T : Nat} (hw : mWF sg T) {c : Nat} (h : c / 2 < 64) : (sg 736 (opn c) = -9 ∧ mV sg c = none) ∨ ∃ e, e < 2 * T ∧ sg 736 (opn c) = nI e ∧ mV sg c = some (.inl e) := by
  unfold mV
  rw [if_pos h]
  rcases hw.2.2.2 (opn c) (opn_lt h) with q | ⟨e, q, he⟩
  · exact Or.inl ⟨q, by rw [q, if_pos (by decide)]⟩
  · have := hw.2.1
    exact Or.inr ⟨e, he, q, by rw [q, if_neg (nI_pos (by omega)), nI_clamp (by omega)]⟩
theorem mV_atom {sg : rSg} {c : Nat} (h1 : 64 ≤ c / 2) (h2 : c / 2 < 75) : mV sg c = some (.inr (.inl (c / 2 - 64))) := by
  unfold mV
  rw [if_neg (by omega), if_pos h2]
theorem mV_pair {sg : rSg} {T : Nat} (hw : mWF sg T) {c : Nat} (h1 : 75 ≤ c / 2) (h2 : c < 2 * T) : ∃ a b, sg 727 (c / 2) = nI a ∧ sg 728 (c / 2) = nI b ∧ a < T ∧ b < T ∧ mV sg c = some (.inr (.inr (2 * a + c % 2, 2 * b + c % 2))) := by
  obtain ⟨a, b, ha, hb, la, lb⟩ := hw.2.2.1 (c / 2) h1 (by omega)
  have := hw.2.1
  refine ⟨a, b, ha, hb, la, lb, ?_⟩
  unfold mV
  rw [if_neg (by omega), if_neg (by omega), ha, hb, nI_clamp (by omega), nI_clamp (by omega)]
theorem mV_ext {sg s2 : rSg} (h1 : s2 727 = sg 727) (h2 : s2 728 = sg 728) (h3 : s2 736 = sg 736) : mV s2 = mV sg := by
  funext c
  unfold mV
  rw [h1, h2, h3]
theorem mWF_ext {sg s2 : rSg} {T : Nat} (h1 : s2 727 = sg 727) (h2 : s2 728 = sg 728) (h3 : s2 736 = sg 736) : mWF s2 T ↔ mWF sg T := by
  unfold mWF
  rw [h1, h2, h3]
theorem mV_open {sg : rSg} {T : Nat} (hw : mWF sg T) {c : Nat} (h : mV sg c = none) : c / 2 < 64 ∧ sg 736 (opn c) = -9 := by
  by_cases h1 : c / 2 < 64
  · rcases mV_var hw h1 with ⟨q, _⟩ | ⟨e, _, _, q⟩
    · exact ⟨h1, q⟩
    · rw [q] at h; cases h
  · by_cases h2 : c / 2 < 75
    · rw [mV_atom (by omega) h2] at h; cases h
    · unfold mV at h
      rw [if_neg h1, if_neg h2] at h
      cases h
/-- a binding -/
theorem mV_bind {sg s2 : rSg} {T : Nat} (hT : T ≤ 6000) {x c : Nat} (h1 : s2 727 = sg 727) (h2 : s2 728 = sg 728) (h3 : s2 736 = upd (sg 736) (opn x) (nI c)) (hx : x / 2 < 64) (hc : c < 2 * T) : mV s2 = vB (mV sg) x c := by
  funext y
  unfold vB
  by_cases hy : y = x
  · subst hy
    rw [if_pos rfl]
    unfold mV
    rw [if_pos hx, h3, show upd (sg 736) (opn y) (nI c) (opn y) = nI c from if_pos rfl, if_neg (nI_pos (by omega)), nI_clamp (by omega)]
  · rw [if_neg hy]
    unfold mV
    rw [h1, h2, h3]
    by_cases hy2 : y / 2 < 64
    · rw [if_pos hy2, if_pos hy2]
      have : opn y ≠ opn x := fun q => hy (by rw [← vcd_opn hy2, q, vcd_opn hx])
      rw [show upd (sg 736) (opn x) (nI c) (opn y) = sg 736 (opn y) from if_neg this]
    · rw [if_neg hy2, if_neg hy2]
theorem mWF_bind {sg s2 : rSg} {T : Nat} {i c : Nat} (h1 : s2 727 = sg 727) (h2 : s2 728 = sg 728) (h3 : s2 736 = upd (sg 736) i (nI c)) (hc : c < 2 * T) (hw : mWF sg T) : mWF s2 T := by
  refine ⟨hw.1, hw.2.1, by rw [h1, h2]; exact hw.2.2.1, fun j hj => ?_⟩
  rw [h3]
  by_cases hji : j = i
  · subst hji
    exact Or.inr ⟨c, if_pos rfl, hc⟩
  · rw [show upd (sg 736) i (nI c) j = sg 736 j from if_neg hji]
    exact hw.2.2.2 j hj
/-- the pairs of the reference: so many -/
theorem mHt {sg : rSg} {T : Nat} (hw : mWF sg T) {rk : Nat → Nat} (hok : vOK (mV sg) (mD T) rk) : ∃ hh, vHt (mV sg) (mD T) hh ∧ ∀ c, hh c ≤ 2 * (T - 75) := by
  have key : ∀ c a b, mD T c → mV sg c = some (.inr (.inr (a, b))) → c ∈ (List.range (2 * (T - 75))).map (fun j => 150 + j) := by
    intro c a b hc hp
    have hc : c < 2 * T := hc
    have : 75 ≤ c / 2 := by
      by_cases h1 : c / 2 < 64
      · rcases mV_var hw h1 with ⟨_, q⟩ | ⟨e, _, _, q⟩
        · rw [q] at hp; cases hp
        · rw [q] at hp; cases hp
      · by_cases h2 : c / 2 < 75
        · rw [mV_atom (by omega) h2] at hp; cases hp
        · omega
    exact List.mem_map.mpr ⟨c - 150, List.mem_range.mpr (by omega), by omega⟩
  obtain ⟨hh, h1, h2⟩ := vHt_ex hok _ key
  exact ⟨hh, h1, fun c => by have := h2 c; simpa using this⟩
theorem nI_2 (a b : Nat) : 2 * nI a + nI b = nI (2 * a + b) := by
  rw [show (2 : Int32) = nI 2 from rfl, pk_mul, nI_add]
theorem nI_half {c : Nat} (h : c < 2 ^ 31) : nI c / 2 = nI (c / 2) := pk_div h (by decide) (by decide)
theorem nI_par {c : Nat} (h : c < 2 ^ 31) : irem (nI c) 2 = nI (c % 2) := pk_rem h (by decide) (by decide)
theorem m_isOpen (sg : rSg) {c : Nat} (h : c < 2 ^ 31) : EvS rSkel 1 147 [.inl (nI c)] sg (fun v s2 => v = some (.inl (if c / 2 < 64 then 1 else 0)) ∧ s2 = sg) := by
  refine (ev_m_isOpen 0 sg (nI c)).imp ?_
  rintro _ _ ⟨rfl, rfl⟩
  refine ⟨?_, rfl⟩
  rw [nI_half h, show (64 : Int32) = nI 64 from rfl]
  by_cases q : c / 2 < 64
  · rw [if_pos q, if_neg (fun q2 => absurd ((nI_leI (a := 64) (b := c / 2) (by decide) (by omega)).mp q2) (by omega))]
  · rw [if_neg q, if_pos ((nI_leI (a := 64) (b := c / 2) (by decide) (by omega)).mpr (by omega))]
theorem m_openOf (sg : rSg) {c : Nat} (h : c < 2 ^ 31) : EvS rSkel 1 148 [.inl (nI c)] sg (fun v s2 => v = some (.inl (nI (opn c))) ∧ s2 = sg) := by
  refine (ev_m_openOf 0 sg (nI c)).imp ?_
  rintro _ _ ⟨rfl, rfl⟩
  refine ⟨?_, rfl⟩
  have h2 : nI c - nI c / 2 * 2 = nI (c % 2) := nI_par h
  rw [h2, nI_half h, show (64 : Int32) = nI 64 from rfl, pk_mul, nI_add]
  rfl
theorem m_walk {sg : rSg} {T : Nat} (hw : mWF sg T) {rk : Nat → Nat} (hok : vOK (mV sg) (mD T) rk) {P : Option rv → rSg → Prop} : ∀ (n c : Nat), rk c < n → c < 2 * T → (∀ c2, c2 < 2 * T → vRes (mV sg) c2 → wlk (mV sg) (mD T) c c2 → P (some (.inl (nI c2))) sg) → g_146_2 (nI c) sg P := by
  intro n
  induction n with
  | zero => intro c h; omega
  | succ n ih =>
    intro c hn hc hP
    have hT := hw.2.1
    refine w_146_2 sg (nI c) ((m_isOpen sg (by omega)).imp ?_)
    rintro _ _ ⟨rfl, rfl⟩
    refine ⟨_, rfl, fun h0 => ?_, fun h0 => ?_⟩
    · refine hP c hc ?_ wlk.rfl'
      by_cases h1 : c / 2 < 64
      · rw [if_pos h1] at h0; exact absurd h0 (by decide)
      · intro e he
        unfold mV at he
        rw [if_neg h1] at he
        split at he <;> cases he
    · have h1 : c / 2 < 64 := by
        by_cases h1 : c / 2 < 64
        · exact h1
        · rw [if_neg h1] at h0; exact absurd rfl h0
      have ho := opn_lt h1
      refine (m_openOf _ (by omega)).imp ?_
      rintro _ _ ⟨rfl, rfl⟩
      refine ⟨_, rfl, rIn_nI ho (by decide), ?_⟩
      rw [nI_clamp (by omega)]
      rcases mV_var hw h1 with ⟨q, q2⟩ | ⟨e, he, q, q2⟩
      · refine ⟨fun _ => ?_, fun h9 => absurd (by rw [q]; decide) h9⟩
        exact hP c hc (fun e he => by rw [q2] at he; cases he) wlk.rfl'
      · refine ⟨fun h9 => absurd h9 (by rw [q]; exact nI_pos (by omega)), fun _ => ?_⟩
        refine (m_openOf _ (by omega)).imp ?_
        rintro _ _ ⟨rfl, rfl⟩
        refine ⟨_, rfl, rIn_nI ho (by decide), ?_⟩
        rw [nI_clamp (by omega), q]
        have hr := (hok c hc).1 e q2
        exact ih e (by omega) he (fun c2 h2 h3 h4 => hP c2 h2 h3 (wlk.step hc q2 h4))
theorem mw_walk {sg : rSg} {T : Nat} (hw : mWF sg T) {rk : Nat → Nat} (hok : vOK (mV sg) (mD T) rk) {c : Nat} (hc : c < 2 * T) : EvS rSkel 2 146 [.inr (.inr (some 725)), .inl (nI c)] sg (fun v s2 => s2 = sg ∧ ∃ c2, v = some (.inl (nI c2)) ∧ c2 < 2 * T ∧ vRes (mV sg) c2 ∧ wlk (mV sg) (mD T) c c2) := by
  refine w_146 sg (nI c) (m_walk hw hok (rk c + 1) c (by omega) hc ?_)
  intro c2 h1 h2 h3
  exact ⟨rfl, c2, rfl, h1, h2, h3⟩
