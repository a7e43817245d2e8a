/-! THE CLASS: is a variable in a term -/
/-- how large a term is, with the variables on the way -/
def vSz (V : Nat → TV) (D : Nat → Prop) (z : Nat → Nat) : Prop := ∀ c, D c → 0 < z c ∧ (∀ e, V c = some (.inl e) → z e < z c) ∧ (∀ a b, V c = some (.inr (.inr (a, b))) → z a + z b < z c)
theorem vSz_bind {V : Nat → TV} {D : Nat → Prop} {i c : Nat} {z : Nat → Nat} (ho : V i = none) (h : vSz (vB V i c) D z) : vSz V D z := by
  intro x hx
  by_cases hxi : x = i
  · subst hxi
    rw [ho]
    exact ⟨(h x hx).1, fun e he => (by cases he), fun a b hp => (by cases hp)⟩
  · have := h x hx
    rw [vB_ne V i c hxi] at this
    exact this
theorem vSz_ex {V : Nat → TV} {D : Nat → Prop} {rk hh : Nat → Nat} {N M : Nat} (hok : vOK V D rk) (hht : vHt V D hh) (hN : ∀ c, hh c ≤ N) (hM : ∀ c e, D c → V c = some (.inl e) → c < M) : ∃ z, vSz V D z ∧ ∀ c, z c ≤ wt N * (2 * M + 2) + M := by
  have hcl : ∀ c, (List.range M).countP (fun v => decide (rk v ≤ rk c)) ≤ M := fun c => by
    have := List.countP_le_length (p := fun v => decide (rk v ≤ rk c)) (l := List.range M)
    simpa using this
  refine ⟨fun c => wt (hh c) * (2 * M + 2) + (List.range M).countP (fun v => decide (rk v ≤ rk c)), fun c hc => ⟨?_, fun e he => ?_, fun a b hp => ?_⟩, fun c => ?_⟩
  · have h1 := wt_pos (hh c)
    have h2 : 1 * (2 * M + 2) ≤ wt (hh c) * (2 * M + 2) := Nat.mul_le_mul_right _ h1
    show 0 < wt (hh c) * (2 * M + 2) + _
    omega
  · have h1 := wt_mono ((hht c hc).1 e he)
    have h2 : wt (hh e) * (2 * M + 2) ≤ wt (hh c) * (2 * M + 2) := Nat.mul_le_mul_right _ h1
    have h3 : (List.range M).countP (fun v => decide (rk v ≤ rk e)) < (List.range M).countP (fun v => decide (rk v ≤ rk c)) := by
      have := ((hok c hc).1 e he).2
      exact countP_lt (fun x _ hx => by simp at hx ⊢; omega) ⟨c, List.mem_range.mpr (hM c e hc he), by simp, by simp; omega⟩
    show wt (hh e) * (2 * M + 2) + _ < wt (hh c) * (2 * M + 2) + _
    omega
  · have h1 := (hht c hc).2 a b hp
    have h2 := wt_two h1.1 h1.2
    have h3 : (wt (hh a) + wt (hh b) + 1) * (2 * M + 2) ≤ wt (hh c) * (2 * M + 2) := Nat.mul_le_mul_right _ h2
    rw [Nat.add_mul, Nat.add_mul] at h3
    have h4 := hcl a
    have h5 := hcl b
    show wt (hh a) * (2 * M + 2) + _ + (wt (hh b) * (2 * M + 2) + _) < wt (hh c) * (2 * M + 2) + _
    omega
  · have h1 := wt_mono (hN c)
    have h2 : wt (hh c) * (2 * M + 2) ≤ wt N * (2 * M + 2) := Nat.mul_le_mul_right _ h1
    have := hcl c
    show wt (hh c) * (2 * M + 2) + _ ≤ _
    omega
def wsz (z : Nat → Nat) : List Nat → Nat
  | [] => 0
  | e :: es => z e + wsz z es
/-- what lies in a row from its start, the top first -/
def pilk (k : Nat) (sg : rSg) : List Nat → Prop
  | [] => True
  | e :: es => sg k es.length = nI e ∧ pilk k sg es
theorem pilk_ext {k : Nat} {sg s2 : rSg} : ∀ {es : List Nat}, (∀ j, j < es.length → s2 k j = sg k j) → pilk k sg es → pilk k s2 es
  | [], _, _ => trivial
  | e :: es, h, hp => ⟨by rw [h _ (by simp)]; exact hp.1, pilk_ext (fun j hj => h j (by simp; omega)) hp.2⟩
/-- only the rows 3 and 5 of the unifier have changed -/
def cfi (sg s2 : rSg) : Prop := ∀ k, k ≠ 3 → k ≠ 5 → s2 k = sg k
theorem cfi.rfl' {sg : rSg} : cfi sg sg := fun _ _ _ => rfl
theorem cfi.trans {a b c : rSg} (h1 : cfi a b) (h2 : cfi b c) : cfi a c := fun k g1 g2 => (h2 k g1 g2).trans (h1 k g1 g2)
theorem c_isIn_loop {s0 : rSg} {s kb nb np : Nat} (hs : isScr s) (hkb : isArr kb nb) (hw : cWF s0 s kb nb np) {rk : Nat → Nat} (hok : vOK (cV s0 s kb nb) (cD nb np) rk) {hh z : Nat → Nat} (hht : vHt (cV s0 s kb nb) (cD nb np) hh) (hz : vSz (cV s0 s kb nb) (cD nb np) z) {R v term l : Nat} (hR : R ≤ 1000) (hv : v < nb) (ho : cV s0 s kb nb v = none) (hl : s0 1 4 = nI l) (hl9 : l < 2 ^ 31) {P : Option rv → rSg → Prop}
    (hP1 : reach (cV s0 s kb nb) term v → ∀ s2 : rSg, cfi s0 s2 → (∀ j, j < 128 → ∃ a, a ≤ l ∧ s2 5 j = nI a) → P (some (.inl 1)) s2) (hP0 : ¬ reach (cV s0 s kb nb) term v → ∀ s2 : rSg, cfi s0 s2 → (∀ j, j < 128 → ∃ a, a ≤ l ∧ s2 5 j = nI a) → P (some (.inl 0)) s2) :
    ∀ (n y : Nat) (sg : rSg) (es : List Nat) (Z : Nat → Prop), wsz z es < n → wsz z es + y ≤ 1000000 → hch hh R es → pilk 3 sg es → cfi s0 sg → (∀ j, j < 128 → ∃ a, a ≤ l ∧ sg 5 j = nI a) → (∀ e ∈ es, cD nb np e ∧ reach (cV s0 s kb nb) term e) →
      (∀ x, Z x → x ≠ v ∧ (∀ e, cV s0 s kb nb x = some (.inl e) → Z e ∨ e ∈ es) ∧ (∀ a b, cV s0 s kb nb x = some (.inr (.inr (a, b))) → (Z a ∨ a ∈ es) ∧ (Z b ∨ b ∈ es))) → (Z term ∨ term ∈ es) → (∀ x, x < 128 → sg 5 x = nI l → Z x) → g_67_24 s kb nb (nI v) (nI es.length) (nI y) sg P := by
  have hnb := hw.1
  have hnb128 : nb ≤ 128 := by omega
  have b_kb := hkb.1
  have b_s := hs.1
  intro n
  induction n with
  | zero => intro y sg es Z h; omega
  | succ n ih =>
    intro y sg es Z hn hy hch hpil hcf hseen hes hZ hterm hsz
    have hlen := hch_len hch
    refine w_67_24 sg s hs kb nb hkb (nI v) (nI es.length) (nI y) ?_
    cases es with
    | nil =>
      have fin : P (some (.inl 0)) sg := by
        refine hP0 (fun q => ?_) sg hcf hseen
        have hcl : vCl (cV s0 s kb nb) Z := fun x hx => by
          have h1 := hZ x hx
          exact ⟨fun e he => (h1.2.1 e he).resolve_right (by simp), fun a b hp => ⟨((h1.2.2 a b hp).1).resolve_right (by simp), ((h1.2.2 a b hp).2).resolve_right (by simp)⟩⟩
        have ht : Z term := hterm.resolve_right (by simp)
        exact (hZ v (q Z hcl ht)).1 rfl
      exact ⟨fun _ => ⟨fun _ => fin, fun q => absurd (by decide) q⟩, fun _ => ⟨fun _ => ⟨fun _ => fin, fun q => absurd (by decide) q⟩, fun q => absurd (by decide) q⟩⟩
    | cons e es =>
      have hed := hes e List.mem_cons_self
      have hze := hz e hed.1
      have hel := cD_lt hed.1 hw.2.1
      simp only [List.length_cons] at hlen ⊢
      simp only [wsz] at hn hy
      have hes2 : ∀ x ∈ es, cD nb np x ∧ reach (cV s0 s kb nb) term x := fun x hx => hes x (List.mem_cons_of_mem _ hx)
      rw [pk_m1, nI_clamp (by omega), hpil.1, show (1000000 : Int32) = nI 1000000 from rfl, show (256 : Int32) = nI 256 from rfl, show Int32.ofNat 128 = nI 128 from rfl, show Int32.ofNat nb = nI nb from rfl, show (1022 : Int32) = nI 1022 from rfl, nI_1, nI_1]
      refine ⟨fun q => absurd ((nI_leI (by decide) (by omega)).mp q) (by omega), fun _ => ⟨fun q => absurd q (nI_nle (by omega) (by omega)), fun _ => ⟨rIn_nI (by omega) (by decide), fun q => ?_, fun q => ⟨fun _ => ⟨fun h1 => ⟨fun h2 => absurd h2 (nI_pos (by omega)), fun _ => ?_⟩, fun h1 => ?_⟩, fun h1 => absurd (nI_le (by omega) (by decide)) h1⟩⟩⟩⟩
      · have hev : e = v := (nI_eq (by omega) (by omega)).mp q
        exact hP1 (by rw [← hev]; exact hed.2) sg hcf hseen
      · -- no pair
        have hne : e ≠ v := fun q2 => q (by rw [q2])
        have h256 := (nI_ltI (by omega) (by decide)).mp h1
        -- nothing behind it
        have skip : (∀ x, cV s0 s kb nb e = some (.inl x) → Z e) → (∀ a b, cV s0 s kb nb e ≠ some (.inr (.inr (a, b)))) → ∀ s1 : rSg, cfi s0 s1 → (∀ j, j < es.length → s1 3 j = sg 3 j) → (∀ j, j < 128 → ∃ a, a ≤ l ∧ s1 5 j = nI a) → (∀ x, x < 128 → s1 5 x = nI l → Z x ∨ x = e) → g_67_24 s kb nb (nI v) (nI es.length) (nI (y + 1)) s1 P := by
          intro hr hnp s1 c1 p1 w1 z1
          refine ih (y + 1) s1 es (fun x => Z x ∨ x = e) (by omega) (by omega) hch.2 (pilk_ext p1 hpil.2) c1 w1 hes2 ?_ ?_ (fun x hx h => z1 x hx h)
          · intro x hx
            have key : Z x → x ≠ v ∧ (∀ e1, cV s0 s kb nb x = some (.inl e1) → (Z e1 ∨ e1 = e) ∨ e1 ∈ es) ∧ (∀ a b, cV s0 s kb nb x = some (.inr (.inr (a, b))) → ((Z a ∨ a = e) ∨ a ∈ es) ∧ ((Z b ∨ b = e) ∨ b ∈ es)) := by
              intro hx
              have h5 := hZ x hx
              have mv : ∀ q, Z q ∨ q ∈ e :: es → (Z q ∨ q = e) ∨ q ∈ es := fun q h => by
                rcases h with h | h
                · exact Or.inl (Or.inl h)
                · rcases List.mem_cons.mp h with h | h
                  · exact Or.inl (Or.inr h)
                  · exact Or.inr h
              exact ⟨h5.1, fun e1 he1 => mv e1 (h5.2.1 e1 he1), fun a b hp => ⟨mv a (h5.2.2 a b hp).1, mv b (h5.2.2 a b hp).2⟩⟩
            rcases hx with hx | rfl
            · exact key hx
            · refine ⟨hne, fun e1 he1 => (key (hr e1 he1)).2.1 e1 he1, fun a b hp => absurd hp (hnp a b)⟩
          · rcases hterm with h | h
            · exact Or.inl (Or.inl h)
            · rcases List.mem_cons.mp h with h | h
              · exact Or.inl (Or.inr h)
              · exact Or.inr h
        have hnp : ∀ a b, cV s0 s kb nb e ≠ some (.inr (.inr (a, b))) := by
          intro a b h
          unfold cV at h
          split at h
          · split at h <;> cases h
          · first
              | (cases h; done)
              | (rw [if_pos h256] at h; cases h)
        refine ⟨fun h2 => ?_, fun h2 => ?_⟩
        · have h128 := (nI_leI (by decide) (by omega)).mp h2
          refine skip (fun x hx => ?_) hnp sg hcf (fun _ _ => rfl) hseen (fun x hx h => Or.inl (hsz x hx h))
          rw [cV_atom h128 h256] at hx
          cases hx
        · have h128 : e < 128 := by
            by_cases q2 : e < 128
            · exact q2
            · exact absurd ((nI_leI (by decide) (by omega)).mpr (by omega)) h2
          refine ⟨fun h3 => ?_, fun h3 => ?_⟩
          · have h5 := (nI_leI (by omega) (by omega)).mp h3
            exfalso
            have := hed.1
            unfold cD cF at this
            omega
          · have hnbe : e < nb := by
              by_cases q2 : e < nb
              · exact q2
              · exact absurd ((nI_leI (by omega) (by omega)).mpr (by omega)) h3
            rw [nI_clamp (by omega)]
            have hk1 : sg 1 4 = nI l := by rw [hcf 1 (by decide) (by decide)]; exact hl
            rw [hk1]
            refine ⟨rIn_nI h128 (by decide), fun h4 => ?_, fun h4 => ⟨rIn_nI h128 (by decide), rIn_nI hnbe (by omega), ?_⟩⟩
            · exact skip (fun _ _ => hsz e h128 h4) hnp sg hcf (fun _ _ => rfl) hseen (fun x hx h => Or.inl (hsz x hx h))
            · have hkbe : sg kb = s0 kb := hcf kb (by omega) (by omega)
              rw [hkbe]
              have f1 : cfi s0 (up2 sg 5 e (nI l)) := fun k g1 g2 => by rw [up2_nk _ _ _ g2]; exact hcf k g1 g2
              have w1 : ∀ j, j < 128 → ∃ a, a ≤ l ∧ (up2 sg 5 e (nI l)) 5 j = nI a := fun j hj => by
                by_cases hje : j = e
                · subst hje
                  exact ⟨l, Nat.le_refl _, up2_same _ _ _ _⟩
                · rw [up2_nj _ _ _ hje]; exact hseen j hj
              have z1 : ∀ x, x < 128 → (up2 sg 5 e (nI l)) 5 x = nI l → Z x ∨ x = e := fun x hx h => by
                by_cases hxe : x = e
                · exact Or.inr hxe
                · rw [up2_nj _ _ _ hxe] at h; exact Or.inl (hsz x hx h)
              rcases cV_var hw hnbe with ⟨g1, g2⟩ | ⟨c, hc, g1, g2⟩
              · refine ⟨fun _ => ?_, fun h9 => absurd g1 h9⟩
                exact skip (fun x hx => by rw [g2] at hx; cases hx) hnp _ f1 (fun j _ => by rw [up2_nk _ _ _ (by decide)]) w1 z1
              · have hcl := cD_lt hc hw.2.1
                refine ⟨fun h9 => absurd h9 (by rw [g1]; exact nI_nem1 (by omega)), fun _ => ⟨rIn_nI hnbe (by omega), rIn_nI (by omega) (by decide), ?_⟩⟩
                rw [g1]
                have hzc := hze.2.1 c g2
                have hhc := (hht e hed.1).1 c g2
                have hh1 := hch.1
                have key := ih (y + 1) (up2 (up2 sg 5 e (nI l)) 3 es.length (nI c)) (c :: es) (fun x => Z x ∨ x = e) (by simp only [wsz]; omega) (by simp only [wsz]; omega) ⟨by omega, hch.2⟩ ⟨up2_same _ _ _ _, pilk_ext (fun j hj => by rw [up2_nj _ _ _ (by omega), up2_nk _ _ _ (by decide)]) hpil.2⟩ (fun k g1 g2 => by rw [up2_nk _ _ _ g1]; exact f1 k g1 g2) (fun j hj => by rw [up2_nk _ _ _ (by decide)]; exact w1 j hj) ?_ ?_ ?_ (fun x hx h => by rw [up2_nk _ _ _ (by decide)] at h; exact z1 x hx h)
                · exact key
                · intro x hx
                  rcases List.mem_cons.mp hx with rfl | hx
                  · exact ⟨hc, hed.2.trans (reach.ref g2)⟩
                  · exact hes2 x hx
                · intro x hx
                  have mv : ∀ q, Z q ∨ q ∈ e :: es → (Z q ∨ q = e) ∨ q ∈ c :: es := fun q h => by
                    rcases h with h | h
                    · exact Or.inl (Or.inl h)
                    · rcases List.mem_cons.mp h with h | h
                      · exact Or.inl (Or.inr h)
                      · exact Or.inr (List.mem_cons_of_mem _ h)
                  rcases hx with hx | rfl
                  · have h5 := hZ x hx
                    exact ⟨h5.1, fun e1 he1 => mv e1 (h5.2.1 e1 he1), fun a b hp => ⟨mv a (h5.2.2 a b hp).1, mv b (h5.2.2 a b hp).2⟩⟩
                  · refine ⟨hne, fun e1 he1 => ?_, fun a b hp => absurd hp (hnp a b)⟩
                    rw [g2] at he1
                    cases he1
                    exact Or.inr List.mem_cons_self
                · rcases hterm with h | h
                  · exact Or.inl (Or.inl h)
                  · rcases List.mem_cons.mp h with h | h
                    · exact Or.inl (Or.inr h)
                    · exact Or.inr (List.mem_cons_of_mem _ h)
      · -- a pair
        have hne : e ≠ v := fun q2 => q (by rw [q2])
        have h256 : 256 ≤ e := by
          by_cases q2 : e < 256
          · exact absurd ((nI_ltI (by omega) (by decide)).mpr q2) h1
          · omega
        obtain ⟨a, b, hab, da, db, hev⟩ := c_half hs hw h256 hed.1
        have e3 : sg (s + 3) = s0 (s + 3) := hcf (s + 3) (by omega) (by omega)
        refine ((hev sg e3).2).imp ?_
        rintro _ s9 ⟨rfl, e9⟩
        rw [e9]
        refine ⟨_, rfl, rIn_nI (by omega) (by decide), ?_⟩
        have e4 : (up2 sg 3 es.length (nI b)) (s + 3) = s0 (s + 3) := by rw [up2_nk _ _ _ (by omega)]; exact e3
        refine ((hev _ e4).1).imp ?_
        rintro _ s8 ⟨rfl, e8⟩
        rw [e8, nI_clamp (by omega)]
        refine ⟨_, rfl, rIn_nI (by omega) (by decide), ?_⟩
        have hzab := hze.2.2 a b hab
        have hhab := (hht e hed.1).2 a b hab
        have hh1 := hch.1
        rw [show nI es.length + 2 = nI (es.length + 1 + 1) by rw [show (2 : Int32) = nI 2 from rfl, nI_add]]
        refine ih (y + 1) (up2 (up2 sg 3 es.length (nI b)) 3 (es.length + 1) (nI a)) (a :: b :: es) (fun x => Z x ∨ x = e) (by simp only [wsz]; omega) (by simp only [wsz]; omega) ⟨by simp only [List.length_cons]; omega, by omega, hch.2⟩ ⟨up2_same _ _ _ _, by rw [up2_nj _ _ _ (by omega), up2_same], pilk_ext (fun j hj => by rw [up2_nj _ _ _ (by omega), up2_nj _ _ _ (by omega)]) hpil.2⟩ (fun k g1 g2 => by rw [up2_nk _ _ _ g1, up2_nk _ _ _ g1]; exact hcf k g1 g2) (fun j hj => by rw [up2_nk _ _ _ (by decide), up2_nk _ _ _ (by decide)]; exact hseen j hj) ?_ ?_ ?_ (fun x hx h => by rw [up2_nk _ _ _ (by decide), up2_nk _ _ _ (by decide)] at h; exact Or.inl (hsz x hx h))
        · intro x hx
          rcases List.mem_cons.mp hx with rfl | hx
          · exact ⟨da, hed.2.trans (reach.left hab)⟩
          · rcases List.mem_cons.mp hx with rfl | hx
            · exact ⟨db, hed.2.trans (reach.right hab)⟩
            · exact hes2 x hx
        · intro x hx
          have mv : ∀ q, Z q ∨ q ∈ e :: es → (Z q ∨ q = e) ∨ q ∈ a :: b :: es := fun q h => by
            rcases h with h | h
            · exact Or.inl (Or.inl h)
            · rcases List.mem_cons.mp h with h | h
              · exact Or.inl (Or.inr h)
              · exact Or.inr (List.mem_cons_of_mem _ (List.mem_cons_of_mem _ h))
          rcases hx with hx | rfl
          · have h5 := hZ x hx
            exact ⟨h5.1, fun e1 he1 => mv e1 (h5.2.1 e1 he1), fun a b hp => ⟨mv a (h5.2.2 a b hp).1, mv b (h5.2.2 a b hp).2⟩⟩
          · refine ⟨hne, fun e1 he1 => ?_, fun a2 b2 hp => ?_⟩
            · rw [hab] at he1; cases he1
            · rw [hab] at hp
              cases hp
              exact ⟨Or.inr (by simp), Or.inr (by simp)⟩
        · rcases hterm with h | h
          · exact Or.inl (Or.inl h)
          · rcases List.mem_cons.mp h with h | h
            · exact Or.inl (Or.inr h)
            · exact Or.inr (by simp [h])
/-- the marks of what was looked at: none above l -/
def cSn (sg : rSg) (l : Nat) : Prop := sg 1 4 = nI l ∧ ∀ j, j < 128 → ∃ a, a ≤ l ∧ sg 5 j = nI a
/-- isIn -/
theorem c_isIn {sg : rSg} {s kb nb np : Nat} (hs : isScr s) (hkb : isArr kb nb) (hw : cWF sg s kb nb np) {rk : Nat → Nat} (hok : vOK (cV sg s kb nb) (cD nb np) rk) {hh z : Nat → Nat} (hht : vHt (cV sg s kb nb) (cD nb np) hh) (hz : vSz (cV sg s kb nb) (cD nb np) z) {v c l : Nat} (hR : hh c ≤ 1000) (hzc : z c ≤ 1000000) (hv : v < nb) (ho : cV sg s kb nb v = none) (hc : cD nb np c) (hl : cSn sg l) (hl9 : l + 1 < 2 ^ 31) : EvS rSkel 3 67 [.inr (.inr (some 1)), .inr (.inr (some s)), .inr (.inr (some kb)), .inl (nI v), .inl (nI c)] sg (fun r s2 => ((r = some (.inl 1) ∧ reach (cV sg s kb nb) c v) ∨ (r = some (.inl 0) ∧ ¬ reach (cV sg s kb nb) c v)) ∧ (∀ k, k ≠ 1 → k ≠ 3 → k ≠ 5 → s2 k = sg k) ∧ (∀ j, j ≠ 4 → s2 1 j = sg 1 j) ∧ cSn s2 (l + 1)) := by
  have b_kb := hkb.1
  have b_s := hs.1
  refine w_67 sg s hs kb nb hkb (nI v) (nI c) ?_
  rw [hl.1, nI_1]
  generalize e0 : up2 (up2 sg 1 4 (nI (l + 1))) 3 0 (nI c) = t0
  have k0 : ∀ k, k ≠ 1 → k ≠ 3 → t0 k = sg k := fun k g1 g2 => by rw [← e0, up2_nk _ _ _ g2, up2_nk _ _ _ g1]
  have k1 : ∀ j, j ≠ 4 → t0 1 j = sg 1 j := fun j hj => by rw [← e0, up2_nk _ _ _ (by decide), up2_nj _ _ _ hj]
  have k4 : t0 1 4 = nI (l + 1) := by rw [← e0, up2_nk _ _ _ (by decide), up2_same]
  have k5 : t0 5 = sg 5 := k0 5 (by decide) (by decide)
  have V0 : cV t0 s kb nb = cV sg s kb nb := cV_ext (k0 _ (by omega) (by omega)) (k0 _ (by omega) (by omega))
  have W0 : cWF t0 s kb nb np := (cWF_ext (k0 _ (by omega) (by omega)) (k0 _ (by omega) (by omega))).mpr hw
  have fin : ∀ s2 : rSg, cfi t0 s2 → (∀ j, j < 128 → ∃ a, a ≤ l + 1 ∧ s2 5 j = nI a) → (∀ k, k ≠ 1 → k ≠ 3 → k ≠ 5 → s2 k = sg k) ∧ (∀ j, j ≠ 4 → s2 1 j = sg 1 j) ∧ cSn s2 (l + 1) := fun s2 h1 h2 => ⟨fun k g1 g2 g3 => by rw [h1 k g2 g3, k0 k g1 g2], fun j hj => by rw [h1 1 (by decide) (by decide), k1 j hj], by rw [h1 1 (by decide) (by decide)]; exact k4, h2⟩
  refine c_isIn_loop hs hkb W0 (V0 ▸ hok) (V0 ▸ hht) (V0 ▸ hz) (R := hh c) (term := c) (l := l + 1) hR hv (by rw [V0]; exact ho) k4 hl9 ?_ ?_ (wsz z [c] + 1) 0 t0 [c] (fun _ => False) (by omega) (by simp only [wsz]; omega) ⟨by simp, trivial⟩ ⟨by rw [← e0]; exact up2_same _ _ _ _, trivial⟩ cfi.rfl' (fun j hj => ?_) (fun e he => ?_) (fun x hx => False.elim hx) (Or.inr (by simp)) (fun x hx h => ?_)
  · rw [V0]
    exact fun h s2 h1 h2 => ⟨Or.inl ⟨rfl, h⟩, fin s2 h1 h2⟩
  · rw [V0]
    exact fun h s2 h1 h2 => ⟨Or.inr ⟨rfl, h⟩, fin s2 h1 h2⟩
  · obtain ⟨a, ha, hb⟩ := hl.2 j hj
    exact ⟨a, by omega, by rw [k5]; exact hb⟩
  · simp at he
    subst he
    exact ⟨hc, reach.rfl'⟩
  · obtain ⟨a, ha, hb⟩ := hl.2 x hx
    rw [k5, hb] at h
    have := (nI_eq (by omega) (by omega)).mp h
    omega
theorem c_push (sg : rSg) {w : Nat} (a b : Int32) (hw : sg 1 5 = nI w) (hw9 : w ≤ 1022) : EvS rSkel 1 66 [.inr (.inr (some 1)), .inl a, .inl b] sg (fun v s2 => v = some (.inl 1) ∧ (∀ k, k ≠ 1 → k ≠ 2 → s2 k = sg k) ∧ (∀ j, j ≠ 5 → s2 1 j = sg 1 j) ∧ s2 1 5 = nI (w + 2) ∧ s2 2 w = a ∧ s2 2 (w + 1) = b ∧ ∀ j, j < w → s2 2 j = sg 2 j) := by
  refine w_66 sg a b ?_
  rw [hw, show (1022 : Int32) = nI 1022 from rfl, nI_1, show nI w + 2 = nI (w + 2) by rw [show (2 : Int32) = nI 2 from rfl, nI_add], nI_clamp (by omega), nI_clamp (by omega)]
  refine ⟨fun q => absurd q (nI_pos (by omega)), fun _ => ⟨fun _ => ⟨rIn_nI (by omega) (by decide), rIn_nI (by omega) (by decide), rfl, fun k g1 g2 => ?_, fun j hj => ?_, up2_same _ _ _ _, ?_, ?_, fun j hj => ?_⟩, fun q => absurd (nI_le hw9 (by decide)) q⟩⟩
  · rw [up2_nk _ _ _ g1, up2_nk _ _ _ g2, up2_nk _ _ _ g2]
  · rw [up2_nj _ _ _ hj, up2_nk _ _ _ (by decide), up2_nk _ _ _ (by decide)]
  · rw [up2_nk _ _ _ (by decide), up2_nj _ _ _ (by omega), up2_same]
  · rw [up2_nk _ _ _ (by decide), up2_same]
  · rw [up2_nk _ _ _ (by decide), up2_nj _ _ _ (by omega), up2_nj _ _ _ (by omega)]
theorem c_binds (sg : rSg) {kb nb : Nat} (hkb : isArr kb nb) (hnb : nb ≤ 128) {i m : Nat} (c : Int32) (hi : i < nb) (hm : sg 1 6 = nI m) (hm9 : m < 128) : EvS rSkel 1 68 [.inr (.inr (some 1)), .inr (.inr (some kb)), .inl (nI i), .inl c] sg (fun v s2 => v = some (.inl 1) ∧ (∀ k, k ≠ 1 → k ≠ 4 → k ≠ kb → s2 k = sg k) ∧ (∀ j, j ≠ 6 → s2 1 j = sg 1 j) ∧ s2 1 6 = nI (m + 1) ∧ s2 kb = upd (sg kb) i c ∧ s2 4 m = nI i ∧ ∀ j, j ≠ m → s2 4 j = sg 4 j) := by
  have b_kb := hkb.1
  refine w_68 sg kb nb hkb (nI i) c ?_
  rw [hm, show Int32.ofNat nb = nI nb from rfl, show Int32.ofNat 128 = nI 128 from rfl, nI_1, nI_clamp (by omega), nI_clamp (by omega)]
  refine ⟨fun q => absurd q (nI_pos (by omega)), fun _ => ⟨fun q => absurd ((nI_leI (by omega) (by omega)).mp q) (by omega), fun _ => ⟨fun q => absurd q (nI_pos (by omega)), fun _ => ⟨fun _ => ⟨rIn_nI hi (by omega), rIn_nI hm9 (by decide), rfl, fun k g1 g2 g3 => ?_, fun j hj => ?_, up2_same _ _ _ _, ?_, ?_, fun j hj => ?_⟩, fun q => absurd (nI_lt hm9 (by decide)) q⟩⟩⟩⟩
  · rw [up2_nk _ _ _ g1, up2_nk _ _ _ g2, up2_nk _ _ _ g3]
  · rw [up2_nj _ _ _ hj, up2_nk _ _ _ (by decide), up2_nk _ _ _ (by omega)]
  · rw [up2_nk _ _ _ (by omega), up2_nk _ _ _ (by omega), up2_eq, upC_same]
  · rw [up2_nk _ _ _ (by decide), up2_same]
  · rw [up2_nk _ _ _ (by decide), up2_nj _ _ _ hj, up2_nk _ _ _ (by omega)]
