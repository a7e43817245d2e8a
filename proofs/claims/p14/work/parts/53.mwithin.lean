/-! THE REFERENCE: is a variable in a term -/
/-- only the pile has changed -/
def mf (sg s2 : rSg) : Prop := (∀ k, k ≠ 738 → k ≠ 725 → s2 k = sg k) ∧ (∀ j, j ≠ 17 → s2 725 j = sg 725 j)
theorem mf.rfl' {sg : rSg} : mf sg sg := ⟨fun _ _ _ => rfl, fun _ _ => rfl⟩
theorem mf.trans {a b c : rSg} (h1 : mf a b) (h2 : mf b c) : mf a c := ⟨fun k hk hk2 => (h2.1 k hk hk2).trans (h1.1 k hk hk2), fun j hj => (h2.2 j hj).trans (h1.2 j hj)⟩
theorem mf.V {a b : rSg} (h : mf a b) : mV b = mV a := mV_ext (h.1 727 (by decide) (by decide)) (h.1 728 (by decide) (by decide)) (h.1 736 (by decide) (by decide))
theorem mf.WF {a b : rSg} {T : Nat} (h : mf a b) : mWF b T ↔ mWF a T := mWF_ext (h.1 727 (by decide) (by decide)) (h.1 728 (by decide) (by decide)) (h.1 736 (by decide) (by decide))
theorem mf.top (sg : rSg) (x : Int32) : mf sg (up2 sg 725 17 x) := ⟨fun k _ hk => up2_nk _ _ _ hk, fun j hj => up2_nj _ _ _ hj⟩
theorem m_piles (sg : rSg) {p : Nat} (t : Int32) (hp : sg 725 17 = nI p) (hp9 : p < 8000) : EvS rSkel 1 118 [.inr (.inr (some 725)), .inl t] sg (fun v s2 => v = none ∧ mf sg s2 ∧ s2 725 17 = nI (p + 1) ∧ s2 738 p = t ∧ ∀ j, j ≠ p → s2 738 j = sg 738 j) := by
  refine (ev_m_piles 0 sg t hp hp9).imp ?_
  rintro _ _ ⟨rfl, rfl⟩
  refine ⟨rfl, ⟨fun k h1 h2 => by rw [up2_nk _ _ _ h2, up2_nk _ _ _ h1], fun j hj => by rw [up2_nj _ _ _ hj, up2_nk _ _ _ (by decide)]⟩, up2_same _ _ _ _, ?_, fun j hj => ?_⟩
  · rw [up2_nk _ _ _ (by decide), up2_same]
  · rw [up2_nk _ _ _ (by decide), up2_nj _ _ _ hj]
theorem m_pilesParts {sg : rSg} {T : Nat} (hw : mWF sg T) {c p : Nat} (h1 : 75 ≤ c / 2) (hc : c < 2 * T) (hp : sg 725 17 = nI p) (hp9 : p + 1 < 8000) : ∃ a b, mV sg c = some (.inr (.inr (a, b))) ∧ a < 2 * T ∧ b < 2 * T ∧ EvS rSkel 2 152 [.inr (.inr (some 725)), .inl (nI c)] sg (fun v s2 => v = none ∧ mf sg s2 ∧ s2 725 17 = nI (p + 2) ∧ s2 738 p = nI a ∧ s2 738 (p + 1) = nI b ∧ ∀ j, j < p → s2 738 j = sg 738 j) := by
  obtain ⟨a, b, ha, hb, la, lb, hv⟩ := mV_pair hw h1 hc
  have hT := hw.2.1
  refine ⟨_, _, hv, by omega, by omega, ?_⟩
  refine w_152 sg (nI c) ?_
  rw [nI_half (by omega), nI_clamp (by omega), nI_par (by omega), ha, nI_2]
  refine ⟨rIn_nI (by omega) (by decide), (m_piles sg _ hp (by omega)).imp ?_⟩
  rintro _ s1 ⟨rfl, f1, p1, q1, r1⟩
  rw [f1.1 728 (by decide) (by decide), hb, nI_2]
  refine ⟨rfl, rIn_nI (by omega) (by decide), (m_piles s1 _ p1 (by omega)).imp ?_⟩
  rintro _ s2 ⟨rfl, f2, p2, q2, r2⟩
  exact ⟨rfl, rfl, f1.trans f2, p2, by rw [r2 p (by omega)]; exact q1, q2, fun j hj => by rw [r2 j (by omega), r1 j (by omega)]⟩
/-- what lies on the pile from a place on, the top first -/
def pil (sg : rSg) (fr : Nat) : List Nat → Prop
  | [] => True
  | e :: es => sg 738 (fr + es.length) = nI e ∧ pil sg fr es
theorem pil_ext {sg s2 : rSg} {fr : Nat} : ∀ {es : List Nat}, (∀ j, j < fr + es.length → s2 738 j = sg 738 j) → pil sg fr es → pil s2 fr es
  | [], _, _ => trivial
  | e :: es, h, hp => ⟨by rw [h _ (by simp)]; exact hp.1, pil_ext (fun j hj => h j (by simp; omega)) hp.2⟩
theorem bN1 : rBool 1 = true := by decide
theorem bN0 : rBool 0 = true := by decide
theorem m_within_loop {s0 : rSg} {T : Nat} (hw : mWF s0 T) {rk : Nat → Nat} (hok : vOK (mV s0) (mD T) rk) {hh : Nat → Nat} (hht : vHt (mV s0) (mD T) hh) {R fr v term : Nat} (hv : v < 128) (ho : mV s0 (vcd v) = none) (hroom : fr + R + 2 ≤ 8000) (hs0 : s0 725 17 = nI fr) {P : Option rv → rSg → Prop}
    (hP1 : reach (mV s0) term (vcd v) → ∀ s2 : rSg, (∀ k, k ≠ 738 → s2 k = s0 k) → (∀ j, j < fr → s2 738 j = s0 738 j) → P (some (.inl 1)) s2) (hP0 : ¬ reach (mV s0) term (vcd v) → ∀ s2 : rSg, (∀ k, k ≠ 738 → s2 k = s0 k) → (∀ j, j < fr → s2 738 j = s0 738 j) → P (some (.inl 0)) s2) :
    ∀ (n : Nat) (sg : rSg) (es : List Nat), wts hh es < n → hch hh R es → pil sg fr es → mf s0 sg → (∀ j, j < fr → sg 738 j = s0 738 j) → sg 725 17 = nI (fr + es.length) → (∀ e ∈ es, e < 2 * T ∧ reach (mV s0) term e) → (reach (mV s0) term (vcd v) → ∃ e ∈ es, reach (mV s0) e (vcd v)) → g_151_13 (nI v) (nI fr) 0 sg P := by
  have hT := hw.2.1
  intro n
  induction n with
  | zero => intro sg es h; omega
  | succ n ih =>
    intro sg es hn hch hpil hmf hlow htop hes hcov
    have hlen := hch_len hch
    refine w_151_13 sg (nI v) (nI fr) 0 ?_
    rw [htop]
    have fin : ∀ (s2 : rSg), mf s0 s2 → (∀ k, k ≠ 738 → (up2 s2 725 17 (nI fr)) k = s0 k) := by
      intro s2 hm k hk
      by_cases h5 : k = 725
      · subst h5
        funext j
        by_cases hj : j = 17
        · subst hj
          rw [up2_same, hs0]
        · rw [up2_nj _ _ _ hj, hm.2 j hj]
      · rw [up2_nk _ _ _ h5, hm.1 k hk h5]
    refine ⟨fun h0 => ?_, fun h0 => ?_⟩
    · have h1 : es = [] := by
        cases es with
        | nil => rfl
        | cons e es => exact absurd ((nI_leI (by simp at hlen ⊢; omega) (by omega)).mp h0) (by simp)
      subst h1
      refine ⟨bN0, hP0 (fun q => ?_) _ (fin sg hmf) (fun j hj => by rw [up2_nk _ _ _ (by decide)]; exact hlow j hj)⟩
      obtain ⟨e, he, _⟩ := hcov q
      cases he
    · refine ⟨fun h1 => absurd rfl h1, fun _ => ?_⟩
      cases es with
      | nil => exact absurd (nI_le (by simp) (by omega)) h0
      | cons e es =>
        simp only [List.length_cons] at hlen htop ⊢
        rw [show nI (fr + (es.length + 1)) - 1 = nI (fr + es.length) from nI_pred _, nI_clamp (by omega), hpil.1]
        refine ⟨rIn_nI (by omega) (by decide), ?_⟩
        have f1 : mf s0 (up2 sg 725 17 (nI (fr + es.length))) := hmf.trans (mf.top _ _)
        have he := hes e List.mem_cons_self
        have V1 := f1.V
        refine (mw_walk (f1.WF.mpr hw) (V1 ▸ hok) he.1).imp ?_
        rintro _ s1 ⟨rfl, c, rfl, hc, hres, hwk⟩
        rw [V1] at hres hwk
        generalize hs1 : up2 sg 725 17 (nI (fr + es.length)) = s1 at *
        have p1 : s1 725 17 = nI (fr + es.length) := by rw [← hs1, up2_same]
        have q1 : ∀ j, s1 738 j = sg 738 j := fun j => by rw [← hs1, up2_nk _ _ _ (by decide)]
        have hpil1 : pil s1 fr es := pil_ext (fun j _ => q1 j) hpil.2
        have hrv : vRes (mV s0) (vcd v) := fun e9 h9 => by rw [ho] at h9; cases h9
        have hwt : wts hh es < n := by have := wt_pos (hh e); simp only [wts] at hn; omega
        have hes2 : ∀ x ∈ es, x < 2 * T ∧ reach (mV s0) term x := fun x hx => hes x (List.mem_cons_of_mem _ hx)
        -- nothing to look into
        have leaf : (∀ a b, mV s0 c ≠ some (.inr (.inr (a, b)))) → c ≠ vcd v → g_151_13 (nI v) (nI fr) 0 s1 P := by
          intro hleaf hne
          refine ih s1 es hwt hch.2 hpil1 f1 (fun j hj => by rw [q1]; exact hlow j hj) p1 hes2 (fun q => ?_)
          obtain ⟨x, hx, hr⟩ := hcov q
          rcases List.mem_cons.mp hx with rfl | hx
          · exfalso
            rcases (hwk.2.2.2 _ hrv hr).inv with e9 | ⟨e9, h9, _⟩ | ⟨a, b, h9, _⟩
            · exact hne e9
            · exact hres e9 h9
            · exact hleaf a b h9
          · exact ⟨x, hx, hr⟩
        refine ⟨_, rfl, (m_isOpen s1 (by omega)).imp ?_⟩
        rintro _ s9 ⟨rfl, e9⟩
        rw [e9]
        refine ⟨_, rfl, fun h2 => ?_, fun h2 => ?_⟩
        · have hno : ¬ c / 2 < 64 := fun q => by rw [if_pos q] at h2; exact absurd h2 (by decide)
          rw [nI_half (by omega), show (75 : Int32) = nI 75 from rfl]
          refine ⟨fun h3 => ?_, fun h3 => ?_⟩
          · have h3 := (nI_ltI (by omega) (by decide)).mp h3
            have ha := mV_atom (sg := s0) (c := c) (by omega) h3
            exact leaf (fun a b q => by rw [ha] at q; cases q) (fun q => by rw [q, ho] at ha; cases ha)
          · have h3 : 75 ≤ c / 2 := by
              by_cases q : c / 2 < 75
              · exact absurd ((nI_ltI (by omega) (by decide)).mpr q) h3
              · omega
            have hh0 := hch.1
            have hlt : fr + es.length + 1 < 8000 := by omega
            obtain ⟨a, b, hab, la, lb, hev⟩ := m_pilesParts (f1.WF.mpr hw) h3 hc p1 hlt
            rw [V1] at hab
            refine hev.imp ?_
            rintro _ s2 ⟨rfl, f2, p2, qa, qb, r2⟩
            have hhc := hwk.2.1 hh hht
            have hab2 := (hht c hc).2 a b hab
            have hw2 := wt_two (a := hh b) (b := hh a) (c := hh e) (by omega) (by omega)
            refine ⟨rfl, ih s2 (b :: a :: es) (by simp only [wts] at hn ⊢; omega) ⟨by simp; omega, by omega, hch.2⟩ ⟨by simp only [List.length_cons]; rw [← Nat.add_assoc]; exact qb, qa, pil_ext (fun j hj => r2 j hj) hpil1⟩ (f1.trans f2) (fun j hj => by rw [r2 j (by omega), q1]; exact hlow j hj) (by simp only [List.length_cons]; rw [← Nat.add_assoc]; exact p2) ?_ (fun q => ?_)⟩
            · intro x hx
              have hcr := he.2.trans hwk.2.2.1
              rcases List.mem_cons.mp hx with rfl | hx
              · exact ⟨lb, hcr.trans (reach.right hab)⟩
              · rcases List.mem_cons.mp hx with rfl | hx
                · exact ⟨la, hcr.trans (reach.left hab)⟩
                · exact hes2 x hx
            · obtain ⟨x, hx, hr⟩ := hcov q
              rcases List.mem_cons.mp hx with rfl | hx
              · rcases (hwk.2.2.2 _ hrv hr).inv with e9 | ⟨e9, h9, _⟩ | ⟨a2, b2, h9, hr2⟩
                · rw [e9, ho] at hab; cases hab
                · exact absurd h9 (hres e9)
                · rw [hab] at h9
                  cases h9
                  rcases hr2 with hr2 | hr2
                  · exact ⟨a, by simp, hr2⟩
                  · exact ⟨b, by simp, hr2⟩
              · exact ⟨x, by simp [hx], hr⟩
        · have hop : c / 2 < 64 := by
            by_cases q : c / 2 < 64
            · exact q
            · rw [if_neg q] at h2; exact absurd rfl h2
          have hsm : nI (c / 2) < nI 75 := nI_lt (by omega) (by decide)
          have hleaf : ∀ a b, mV s0 c ≠ some (.inr (.inr (a, b))) := fun a b q => by
            rcases mV_var hw hop with ⟨_, q2⟩ | ⟨_, _, _, q2⟩
            · rw [q2] at q; cases q
            · rw [q2] at q; cases q
          refine (m_openOf s1 (by omega)).imp ?_
          rintro _ s8 ⟨rfl, e8⟩
          rw [e8]
          rw [nI_half (by omega), show (75 : Int32) = nI 75 from rfl]
          have hol := opn_lt hop
          refine ⟨_, rfl, fun h3 => ⟨fun _ => ?_, fun h4 => absurd hsm h4⟩, fun h3 => ⟨fun _ => ?_, fun h4 => absurd hsm h4⟩⟩
          · refine leaf hleaf (fun q => h3 ?_)
            rw [q, (opn_vcd hv).1]
          · have h3 := Classical.not_not.mp h3
            have hcv : c = vcd v := by
              have := (nI_eq (by omega) (by omega)).mp h3
              rw [← vcd_opn hop, this]
            have hfound : reach (mV s0) term (vcd v) := by rw [← hcv]; exact he.2.trans hwk.2.2.1
            refine w_151_13 s1 (nI v) (nI fr) 1 ⟨fun _ => ?_, fun _ => ⟨fun _ => ?_, fun h9 => absurd (by decide) h9⟩⟩
            · exact ⟨bN1, hP1 hfound _ (fin s1 f1) (fun j hj => by rw [up2_nk _ _ _ (by decide), q1]; exact hlow j hj)⟩
            · exact ⟨bN1, hP1 hfound _ (fin s1 f1) (fun j hj => by rw [up2_nk _ _ _ (by decide), q1]; exact hlow j hj)⟩
