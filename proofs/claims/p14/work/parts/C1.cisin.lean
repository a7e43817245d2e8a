/-! THE CLASS: is a variable in a term, over a domain; turns counted by the direct pairs of what is looked at and the variables not yet seen; looks below 2^32 -/
theorem nI_eq32 {a b : Nat} (ha : a < 2 ^ 32) (hb : b < 2 ^ 32) (h : nI a = nI b) : a = b := by
  have h1 : a % 2 ^ 32 = b % 2 ^ 32 := congrArg (fun z : Int32 => z.toBitVec.toNat) h
  rw [Nat.mod_eq_of_lt ha, Nat.mod_eq_of_lt hb] at h1
  exact h1
/-- the direct pairs of a code, at most B -/
def dSz (V : Nat → TV) (D : Nat → Prop) (B : Nat) (p : Nat → Nat) : Prop := ∀ c, D c → 0 < p c ∧ p c ≤ B ∧ ∀ a b, V c = some (.inr (.inr (a, b))) → p a + p b < p c
/-- the variables not yet seen -/
def uns (sg : rSg) (l : Nat) : Nat := (List.range 128).countP (fun x => decide (¬ sg 5 x = nI l))
theorem uns_le (sg : rSg) (l : Nat) : uns sg l ≤ 128 := by
  have := List.countP_le_length (p := fun x => decide (¬ sg 5 x = nI l)) (l := List.range 128)
  simpa [uns] using this
theorem uns_ext {sg s2 : rSg} {l : Nat} (h : s2 5 = sg 5) : uns s2 l = uns sg l := by
  unfold uns
  rw [h]
theorem uns_mark {sg : rSg} {l e : Nat} (he : e < 128) (h : ¬ sg 5 e = nI l) : uns (up2 sg 5 e (nI l)) l < uns sg l := by
  unfold uns
  refine countP_lt (fun x _ hx => ?_) ⟨e, List.mem_range.mpr he, by simp [h], by simp [up2_same]⟩
  by_cases hxe : x = e
  · subst hxe
    simp [up2_same] at hx
  · rw [up2_nj _ _ _ hxe] at hx
    exact hx
theorem cG_isIn_loop {s0 : rSg} {s kb nb np : Nat} (hs : isScr s) (hkb : isArr kb nb) {D : Nat → Prop} (hw : cWG s0 s kb nb np D) {rk : Nat → Nat} (hok : vOK (cV s0 s kb nb) D rk) {hh z : Nat → Nat} (hht : vHt (cV s0 s kb nb) D hh) {B : Nat} (hB : B ≤ 7000) (hz : dSz (cV s0 s kb nb) D B z) {R v term l : Nat} (hR : R ≤ 1000) (hv : v < nb) (ho : cV s0 s kb nb v = none) (hl : s0 1 4 = nI l) (hl9 : l < 2 ^ 32) {P : Option rv → rSg → Prop}
    (hP1 : reach (cV s0 s kb nb) term v → ∀ s2 : rSg, cfi s0 s2 → (∀ j, j < 128 → ∃ a, a ≤ l ∧ s2 5 j = nI a) → P (some (.inl 1)) s2) (hP0 : ¬ reach (cV s0 s kb nb) term v → ∀ s2 : rSg, cfi s0 s2 → (∀ j, j < 128 → ∃ a, a ≤ l ∧ s2 5 j = nI a) → P (some (.inl 0)) s2) :
    ∀ (n y : Nat) (sg : rSg) (es : List Nat) (Z : Nat → Prop), wsz z es + uns sg l * (B + 1) < n → wsz z es + uns sg l * (B + 1) + y ≤ 1000000 → hch hh R es → pilk 3 sg es → cfi s0 sg → (∀ j, j < 128 → ∃ a, a ≤ l ∧ sg 5 j = nI a) → (∀ e ∈ es, D e ∧ reach (cV s0 s kb nb) term e) →
      (∀ x, Z x → x ≠ v ∧ (∀ e, cV s0 s kb nb x = some (.inl e) → Z e ∨ e ∈ es) ∧ (∀ a b, cV s0 s kb nb x = some (.inr (.inr (a, b))) → (Z a ∨ a ∈ es) ∧ (Z b ∨ b ∈ es))) → (Z term ∨ term ∈ es) → (∀ x, x < 128 → sg 5 x = nI l → Z x) → g_67_24 s kb nb (nI v) (nI es.length) (nI y) sg P := by
  have hnb := hw.1
  have hnb128 : nb ≤ 128 := by omega
  have b_kb := hkb.1
  have b_s := hs.1
  intro n
  induction n with
  | zero => intro y sg es Z h; omega
  | succ n ih =>
    intro y sg es Z hn hy hch hpil hcf hseen hes hZ hterm hsz
    have hlen := hch_len hch
    refine w_67_24 sg s hs kb nb hkb (nI v) (nI es.length) (nI y) ?_
    cases es with
    | nil =>
      have fin : P (some (.inl 0)) sg := by
        refine hP0 (fun q => ?_) sg hcf hseen
        have hcl : vCl (cV s0 s kb nb) Z := fun x hx => by
          have h1 := hZ x hx
          exact ⟨fun e he => (h1.2.1 e he).resolve_right (by simp), fun a b hp => ⟨((h1.2.2 a b hp).1).resolve_right (by simp), ((h1.2.2 a b hp).2).resolve_right (by simp)⟩⟩
        have ht : Z term := hterm.resolve_right (by simp)
        exact (hZ v (q Z hcl ht)).1 rfl
      exact ⟨fun _ => ⟨fun _ => fin, fun q => absurd (by decide) q⟩, fun _ => ⟨fun _ => ⟨fun _ => fin, fun q => absurd (by decide) q⟩, fun q => absurd (by decide) q⟩⟩
    | cons e es =>
      have hed := hes e List.mem_cons_self
      have hze := hz e hed.1
      have hel := cWG_lt hw hed.1
      simp only [List.length_cons] at hlen ⊢
      simp only [wsz] at hn hy
      have hes2 : ∀ x ∈ es, D x ∧ reach (cV s0 s kb nb) term x := fun x hx => hes x (List.mem_cons_of_mem _ hx)
      rw [pk_m1, nI_clamp (by omega), hpil.1, show (1000000 : Int32) = nI 1000000 from rfl, show (256 : Int32) = nI 256 from rfl, show Int32.ofNat 128 = nI 128 from rfl, show Int32.ofNat nb = nI nb from rfl, show (1022 : Int32) = nI 1022 from rfl, nI_1, nI_1]
      refine ⟨fun q => absurd ((nI_leI (by decide) (by omega)).mp q) (by omega), fun _ => ⟨fun q => absurd q (nI_nle (by omega) (by omega)), fun _ => ⟨rIn_nI (by omega) (by decide), fun q => ?_, fun q => ⟨fun _ => ⟨fun h1 => ⟨fun h2 => absurd h2 (nI_pos (by omega)), fun _ => ?_⟩, fun h1 => ?_⟩, fun h1 => absurd (nI_le (by omega) (by decide)) h1⟩⟩⟩⟩
      · have hev : e = v := (nI_eq (by omega) (by omega)).mp q
        exact hP1 (by rw [← hev]; exact hed.2) sg hcf hseen
      · -- no pair
        have hne : e ≠ v := fun q2 => q (by rw [q2])
        have h256 := (nI_ltI (by omega) (by decide)).mp h1
        -- nothing behind it
        have skip : (∀ x, cV s0 s kb nb e = some (.inl x) → Z e) → (∀ a b, cV s0 s kb nb e ≠ some (.inr (.inr (a, b)))) → ∀ s1 : rSg, cfi s0 s1 → (∀ j, j < es.length → s1 3 j = sg 3 j) → (∀ j, j < 128 → ∃ a, a ≤ l ∧ s1 5 j = nI a) → (∀ x, x < 128 → s1 5 x = nI l → Z x ∨ x = e) → uns s1 l ≤ uns sg l → g_67_24 s kb nb (nI v) (nI es.length) (nI (y + 1)) s1 P := by
          intro hr hnp s1 c1 p1 w1 z1 u1
          have u2 : uns s1 l * (B + 1) ≤ uns sg l * (B + 1) := Nat.mul_le_mul_right _ u1
          refine ih (y + 1) s1 es (fun x => Z x ∨ x = e) (by omega) (by omega) hch.2 (pilk_ext p1 hpil.2) c1 w1 hes2 ?_ ?_ (fun x hx h => z1 x hx h)
          · intro x hx
            have key : Z x → x ≠ v ∧ (∀ e1, cV s0 s kb nb x = some (.inl e1) → (Z e1 ∨ e1 = e) ∨ e1 ∈ es) ∧ (∀ a b, cV s0 s kb nb x = some (.inr (.inr (a, b))) → ((Z a ∨ a = e) ∨ a ∈ es) ∧ ((Z b ∨ b = e) ∨ b ∈ es)) := by
              intro hx
              have h5 := hZ x hx
              have mv : ∀ q, Z q ∨ q ∈ e :: es → (Z q ∨ q = e) ∨ q ∈ es := fun q h => by
                rcases h with h | h
                · exact Or.inl (Or.inl h)
                · rcases List.mem_cons.mp h with h | h
                  · exact Or.inl (Or.inr h)
                  · exact Or.inr h
              exact ⟨h5.1, fun e1 he1 => mv e1 (h5.2.1 e1 he1), fun a b hp => ⟨mv a (h5.2.2 a b hp).1, mv b (h5.2.2 a b hp).2⟩⟩
            rcases hx with hx | rfl
            · exact key hx
            · refine ⟨hne, fun e1 he1 => (key (hr e1 he1)).2.1 e1 he1, fun a b hp => absurd hp (hnp a b)⟩
          · rcases hterm with h | h
            · exact Or.inl (Or.inl h)
            · rcases List.mem_cons.mp h with h | h
              · exact Or.inl (Or.inr h)
              · exact Or.inr h
        have hnp : ∀ a b, cV s0 s kb nb e ≠ some (.inr (.inr (a, b))) := by
          intro a b h
          unfold cV at h
          split at h
          · split at h <;> cases h
          · first
              | (cases h; done)
              | (rw [if_pos h256] at h; cases h)
        refine ⟨fun h2 => ?_, fun h2 => ?_⟩
        · have h128 := (nI_leI (by decide) (by omega)).mp h2
          refine skip (fun x hx => ?_) hnp sg hcf (fun _ _ => rfl) hseen (fun x hx h => Or.inl (hsz x hx h)) (Nat.le_refl _)
          rw [cV_atom h128 h256] at hx
          cases hx
        · have h128 : e < 128 := by
            by_cases q2 : e < 128
            · exact q2
            · exact absurd ((nI_leI (by decide) (by omega)).mpr (by omega)) h2
          refine ⟨fun h3 => ?_, fun h3 => ?_⟩
          · have h5 := (nI_leI (by omega) (by omega)).mp h3
            exfalso
            have := hw.2.2.1 e hed.1
            unfold cD cF at this
            omega
          · have hnbe : e < nb := by
              by_cases q2 : e < nb
              · exact q2
              · exact absurd ((nI_leI (by omega) (by omega)).mpr (by omega)) h3
            rw [nI_clamp (by omega)]
            have hk1 : sg 1 4 = nI l := by rw [hcf 1 (by decide) (by decide)]; exact hl
            rw [hk1]
            refine ⟨rIn_nI h128 (by decide), fun h4 => ?_, fun h4 => ⟨rIn_nI h128 (by decide), rIn_nI hnbe (by omega), ?_⟩⟩
            · exact skip (fun _ _ => hsz e h128 h4) hnp sg hcf (fun _ _ => rfl) hseen (fun x hx h => Or.inl (hsz x hx h)) (Nat.le_refl _)
            · have hkbe : sg kb = s0 kb := hcf kb (by omega) (by omega)
              rw [hkbe]
              have u0 : uns (up2 sg 5 e (nI l)) l < uns sg l := uns_mark h128 h4
              have f1 : cfi s0 (up2 sg 5 e (nI l)) := fun k g1 g2 => by rw [up2_nk _ _ _ g2]; exact hcf k g1 g2
              have w1 : ∀ j, j < 128 → ∃ a, a ≤ l ∧ (up2 sg 5 e (nI l)) 5 j = nI a := fun j hj => by
                by_cases hje : j = e
                · subst hje
                  exact ⟨l, Nat.le_refl _, up2_same _ _ _ _⟩
                · rw [up2_nj _ _ _ hje]; exact hseen j hj
              have z1 : ∀ x, x < 128 → (up2 sg 5 e (nI l)) 5 x = nI l → Z x ∨ x = e := fun x hx h => by
                by_cases hxe : x = e
                · exact Or.inr hxe
                · rw [up2_nj _ _ _ hxe] at h; exact Or.inl (hsz x hx h)
              rcases cG_var hw hed.1 hnbe with ⟨g1, g2⟩ | ⟨c, hc, g1, g2⟩
              · refine ⟨fun _ => ?_, fun h9 => absurd g1 h9⟩
                exact skip (fun x hx => by rw [g2] at hx; cases hx) hnp _ f1 (fun j _ => by rw [up2_nk _ _ _ (by decide)]) w1 z1 (Nat.le_of_lt u0)
              · have hcl := cWG_lt hw hc
                refine ⟨fun h9 => absurd h9 (by rw [g1]; exact nI_nem1 (by omega)), fun _ => ⟨rIn_nI hnbe (by omega), rIn_nI (by omega) (by decide), ?_⟩⟩
                rw [g1]
                have hzc := (hz c hc).2.1
                have u3 : uns (up2 (up2 sg 5 e (nI l)) 3 es.length (nI c)) l = uns (up2 sg 5 e (nI l)) l := uns_ext (by funext j; rw [up2_nk _ _ _ (by decide)])
                have u4 : (uns (up2 sg 5 e (nI l)) l + 1) * (B + 1) ≤ uns sg l * (B + 1) := Nat.mul_le_mul_right _ u0
                rw [Nat.add_mul] at u4
                have hhc := (hht e hed.1).1 c g2
                have hh1 := hch.1
                have key := ih (y + 1) (up2 (up2 sg 5 e (nI l)) 3 es.length (nI c)) (c :: es) (fun x => Z x ∨ x = e) (by rw [u3]; simp only [wsz]; omega) (by rw [u3]; simp only [wsz]; omega) ⟨by omega, hch.2⟩ ⟨up2_same _ _ _ _, pilk_ext (fun j hj => by rw [up2_nj _ _ _ (by omega), up2_nk _ _ _ (by decide)]) hpil.2⟩ (fun k g1 g2 => by rw [up2_nk _ _ _ g1]; exact f1 k g1 g2) (fun j hj => by rw [up2_nk _ _ _ (by decide)]; exact w1 j hj) ?_ ?_ ?_ (fun x hx h => by rw [up2_nk _ _ _ (by decide)] at h; exact z1 x hx h)
                · exact key
                · intro x hx
                  rcases List.mem_cons.mp hx with rfl | hx
                  · exact ⟨hc, hed.2.trans (reach.ref g2)⟩
                  · exact hes2 x hx
                · intro x hx
                  have mv : ∀ q, Z q ∨ q ∈ e :: es → (Z q ∨ q = e) ∨ q ∈ c :: es := fun q h => by
                    rcases h with h | h
                    · exact Or.inl (Or.inl h)
                    · rcases List.mem_cons.mp h with h | h
                      · exact Or.inl (Or.inr h)
                      · exact Or.inr (List.mem_cons_of_mem _ h)
                  rcases hx with hx | rfl
                  · have h5 := hZ x hx
                    exact ⟨h5.1, fun e1 he1 => mv e1 (h5.2.1 e1 he1), fun a b hp => ⟨mv a (h5.2.2 a b hp).1, mv b (h5.2.2 a b hp).2⟩⟩
                  · refine ⟨hne, fun e1 he1 => ?_, fun a b hp => absurd hp (hnp a b)⟩
                    rw [g2] at he1
                    cases he1
                    exact Or.inr List.mem_cons_self
                · rcases hterm with h | h
                  · exact Or.inl (Or.inl h)
                  · rcases List.mem_cons.mp h with h | h
                    · exact Or.inl (Or.inr h)
                    · exact Or.inr (List.mem_cons_of_mem _ h)
      · -- a pair
        have hne : e ≠ v := fun q2 => q (by rw [q2])
        have h256 : 256 ≤ e := by
          by_cases q2 : e < 256
          · exact absurd ((nI_ltI (by omega) (by decide)).mpr q2) h1
          · omega
        obtain ⟨a, b, hab, da, db, hev⟩ := cG_half hs hw h256 hed.1
        have e3 : sg (s + 3) = s0 (s + 3) := hcf (s + 3) (by omega) (by omega)
        refine ((hev sg e3).2).imp ?_
        rintro _ s9 ⟨rfl, e9⟩
        rw [e9]
        refine ⟨_, rfl, rIn_nI (by omega) (by decide), ?_⟩
        have e4 : (up2 sg 3 es.length (nI b)) (s + 3) = s0 (s + 3) := by rw [up2_nk _ _ _ (by omega)]; exact e3
        refine ((hev _ e4).1).imp ?_
        rintro _ s8 ⟨rfl, e8⟩
        rw [e8, nI_clamp (by omega)]
        refine ⟨_, rfl, rIn_nI (by omega) (by decide), ?_⟩
        have hzab := hze.2.2 a b hab
        have u3 : uns (up2 (up2 sg 3 es.length (nI b)) 3 (es.length + 1) (nI a)) l = uns sg l := uns_ext (by funext j; rw [up2_nk _ _ _ (by decide), up2_nk _ _ _ (by decide)])
        have hhab := (hht e hed.1).2 a b hab
        have hh1 := hch.1
        rw [show nI es.length + 2 = nI (es.length + 1 + 1) by rw [show (2 : Int32) = nI 2 from rfl, nI_add]]
        refine ih (y + 1) (up2 (up2 sg 3 es.length (nI b)) 3 (es.length + 1) (nI a)) (a :: b :: es) (fun x => Z x ∨ x = e) (by rw [u3]; simp only [wsz]; omega) (by rw [u3]; simp only [wsz]; omega) ⟨by simp only [List.length_cons]; omega, by omega, hch.2⟩ ⟨up2_same _ _ _ _, by rw [up2_nj _ _ _ (by omega), up2_same], pilk_ext (fun j hj => by rw [up2_nj _ _ _ (by omega), up2_nj _ _ _ (by omega)]) hpil.2⟩ (fun k g1 g2 => by rw [up2_nk _ _ _ g1, up2_nk _ _ _ g1]; exact hcf k g1 g2) (fun j hj => by rw [up2_nk _ _ _ (by decide), up2_nk _ _ _ (by decide)]; exact hseen j hj) ?_ ?_ ?_ (fun x hx h => by rw [up2_nk _ _ _ (by decide), up2_nk _ _ _ (by decide)] at h; exact Or.inl (hsz x hx h))
        · intro x hx
          rcases List.mem_cons.mp hx with rfl | hx
          · exact ⟨da, hed.2.trans (reach.left hab)⟩
          · rcases List.mem_cons.mp hx with rfl | hx
            · exact ⟨db, hed.2.trans (reach.right hab)⟩
            · exact hes2 x hx
        · intro x hx
          have mv : ∀ q, Z q ∨ q ∈ e :: es → (Z q ∨ q = e) ∨ q ∈ a :: b :: es := fun q h => by
            rcases h with h | h
            · exact Or.inl (Or.inl h)
            · rcases List.mem_cons.mp h with h | h
              · exact Or.inl (Or.inr h)
              · exact Or.inr (List.mem_cons_of_mem _ (List.mem_cons_of_mem _ h))
          rcases hx with hx | rfl
          · have h5 := hZ x hx
            exact ⟨h5.1, fun e1 he1 => mv e1 (h5.2.1 e1 he1), fun a b hp => ⟨mv a (h5.2.2 a b hp).1, mv b (h5.2.2 a b hp).2⟩⟩
          · refine ⟨hne, fun e1 he1 => ?_, fun a2 b2 hp => ?_⟩
            · rw [hab] at he1; cases he1
            · rw [hab] at hp
              cases hp
              exact ⟨Or.inr (by simp), Or.inr (by simp)⟩
        · rcases hterm with h | h
          · exact Or.inl (Or.inl h)
          · rcases List.mem_cons.mp h with h | h
            · exact Or.inl (Or.inr h)
            · exact Or.inr (by simp [h])
theorem cG_isIn {sg : rSg} {s kb nb np : Nat} (hs : isScr s) (hkb : isArr kb nb) {D : Nat → Prop} (hw : cWG sg s kb nb np D) {rk : Nat → Nat} (hok : vOK (cV sg s kb nb) D rk) {hh z : Nat → Nat} (hht : vHt (cV sg s kb nb) D hh) {B : Nat} (hB : B ≤ 7000) (hz : dSz (cV sg s kb nb) D B z) {v c l : Nat} (hR : hh c ≤ 1000) (hv : v < nb) (ho : cV sg s kb nb v = none) (hc : D c) (hl : cSn sg l) (hl9 : l + 1 < 2 ^ 32) : EvS rSkel 3 67 [.inr (.inr (some 1)), .inr (.inr (some s)), .inr (.inr (some kb)), .inl (nI v), .inl (nI c)] sg (fun r s2 => ((r = some (.inl 1) ∧ reach (cV sg s kb nb) c v) ∨ (r = some (.inl 0) ∧ ¬ reach (cV sg s kb nb) c v)) ∧ (∀ k, k ≠ 1 → k ≠ 3 → k ≠ 5 → s2 k = sg k) ∧ (∀ j, j ≠ 4 → s2 1 j = sg 1 j) ∧ cSn s2 (l + 1)) := by
  have b_kb := hkb.1
  have b_s := hs.1
  refine w_67 sg s hs kb nb hkb (nI v) (nI c) ?_
  rw [hl.1, nI_1]
  generalize e0 : up2 (up2 sg 1 4 (nI (l + 1))) 3 0 (nI c) = t0
  have k0 : ∀ k, k ≠ 1 → k ≠ 3 → t0 k = sg k := fun k g1 g2 => by rw [← e0, up2_nk _ _ _ g2, up2_nk _ _ _ g1]
  have k1 : ∀ j, j ≠ 4 → t0 1 j = sg 1 j := fun j hj => by rw [← e0, up2_nk _ _ _ (by decide), up2_nj _ _ _ hj]
  have k4 : t0 1 4 = nI (l + 1) := by rw [← e0, up2_nk _ _ _ (by decide), up2_same]
  have k5 : t0 5 = sg 5 := k0 5 (by decide) (by decide)
  have V0 : cV t0 s kb nb = cV sg s kb nb := cV_ext (k0 _ (by omega) (by omega)) (k0 _ (by omega) (by omega))
  have W0 : cWG t0 s kb nb np D := (cWG_ext (k0 _ (by omega) (by omega)) (k0 _ (by omega) (by omega))).mpr hw
  have hzc := (hz c hc).2.1
  have hu : uns t0 (l + 1) * (B + 1) ≤ 128 * 7001 := Nat.mul_le_mul (uns_le _ _) (by omega)
  have fin : ∀ s2 : rSg, cfi t0 s2 → (∀ j, j < 128 → ∃ a, a ≤ l + 1 ∧ s2 5 j = nI a) → (∀ k, k ≠ 1 → k ≠ 3 → k ≠ 5 → s2 k = sg k) ∧ (∀ j, j ≠ 4 → s2 1 j = sg 1 j) ∧ cSn s2 (l + 1) := fun s2 h1 h2 => ⟨fun k g1 g2 g3 => by rw [h1 k g2 g3, k0 k g1 g2], fun j hj => by rw [h1 1 (by decide) (by decide), k1 j hj], by rw [h1 1 (by decide) (by decide)]; exact k4, h2⟩
  refine cG_isIn_loop hs hkb W0 (V0 ▸ hok) (V0 ▸ hht) hB (V0 ▸ hz) (R := hh c) (term := c) (l := l + 1) hR hv (by rw [V0]; exact ho) k4 hl9 ?_ ?_ (wsz z [c] + uns t0 (l + 1) * (B + 1) + 1) 0 t0 [c] (fun _ => False) (by omega) (by simp only [wsz]; omega) ⟨by simp, trivial⟩ ⟨by rw [← e0]; exact up2_same _ _ _ _, trivial⟩ cfi.rfl' (fun j hj => ?_) (fun e he => ?_) (fun x hx => False.elim hx) (Or.inr (by simp)) (fun x hx h => ?_)
  · rw [V0]
    exact fun h s2 h1 h2 => ⟨Or.inl ⟨rfl, h⟩, fin s2 h1 h2⟩
  · rw [V0]
    exact fun h s2 h1 h2 => ⟨Or.inr ⟨rfl, h⟩, fin s2 h1 h2⟩
  · obtain ⟨a, ha, hb⟩ := hl.2 j hj
    exact ⟨a, by omega, by rw [k5]; exact hb⟩
  · simp at he
    subst he
    exact ⟨hc, reach.rfl'⟩
  · obtain ⟨a, ha, hb⟩ := hl.2 x hx
    rw [k5, hb] at h
    have := nI_eq32 (by omega) (by omega) h
    omega
