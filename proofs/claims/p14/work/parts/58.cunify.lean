/-! THE CLASS: unify -/
def vExt (V W : Nat → TV) : Prop := ∀ c, W c = V c ∨ (V c = none ∧ ∃ e, W c = some (.inl e))
theorem vExt.rfl' {V : Nat → TV} : vExt V V := fun _ => Or.inl rfl
theorem vExt.bind {V W : Nat → TV} {i c : Nat} (h : vExt V W) (ho : W i = none) : vExt V (vB W i c) := by
  intro x
  by_cases hx : x = i
  · subst hx
    refine Or.inr ⟨?_, c, vB_same W x c⟩
    rcases h x with h | ⟨h, _⟩
    · rw [← h]; exact ho
    · exact h
  · rw [vB_ne W i c hx]
    exact h x
def wsz2 (z : Nat → Nat) : List (Nat × Nat) → Nat
  | [] => 0
  | q :: qs => z q.1 + wsz2 z qs
def wsz3 (z : Nat → Nat) : List (Nat × Nat) → Nat
  | [] => 0
  | q :: qs => z q.2 + wsz3 z qs
def opensC (sg : rSg) (kb nb : Nat) : Nat := (List.range nb).countP (fun i => decide (sg kb i = -1))
theorem opensC_le (sg : rSg) (kb nb : Nat) : opensC sg kb nb ≤ nb := by
  have := List.countP_le_length (p := fun i => decide (sg kb i = -1)) (l := List.range nb)
  simpa [opensC] using this
theorem opensC_bind {sg s2 : rSg} {kb nb : Nat} {i c : Nat} (hi : i < nb) (ho : sg kb i = -1) (h : s2 kb = upd (sg kb) i (nI c)) (hc : c < 2 ^ 31) : opensC s2 kb nb + 1 = opensC sg kb nb := by
  refine countP_upd (p := fun i => decide (sg kb i = -1)) (q := fun i => decide (s2 kb i = -1)) (i := i) (by simp [ho]) ?_ (fun j hj => ?_) List.nodup_range (List.mem_range.mpr hi)
  · have := nI_nem1 hc
    rw [h]
    show decide (upd (sg kb) i (nI c) i = -1) = false
    rw [show upd (sg kb) i (nI c) i = nI c from if_pos rfl]
    simp [this]
  · rw [h]
    show decide (upd (sg kb) i (nI c) j = -1) = _
    rw [show upd (sg kb) i (nI c) j = sg kb j from if_neg hj]
/-- what unify may change: its own cells and the bindings -/
def cfb (kb : Nat) (sg s2 : rSg) : Prop := ∀ k, (k = 0 ∨ 5 < k) → k ≠ kb → s2 k = sg k
theorem cfb.rfl' {kb : Nat} {sg : rSg} : cfb kb sg sg := fun _ _ _ => rfl
theorem cfb.trans {kb : Nat} {a b c : rSg} (h1 : cfb kb a b) (h2 : cfb kb b c) : cfb kb a c := fun k g1 g2 => (h2 k g1 g2).trans (h1 k g1 g2)
/-- what has been bound since s0: these, the last first -/
def cBd (s0 sg : rSg) (kb nb : Nat) (bs : List Nat) : Prop := cfb kb s0 sg ∧ sg 1 6 = nI bs.length ∧ pilk 4 sg bs ∧ (∀ v ∈ bs, v < nb ∧ s0 kb v = -1 ∧ ¬ sg kb v = -1) ∧ (∀ j, j < nb → j ∉ bs → sg kb j = s0 kb j) ∧ bs.length + opensC sg kb nb = opensC s0 kb nb
def cUni (s0 s2 : rSg) (s kb nb np a b l : Nat) (x : Int32) (bs : List Nat) : Prop := cWF s2 s kb nb np ∧ (∃ rk, vOK (cV s2 s kb nb) (cD nb np) rk) ∧ vExt (cV s0 s kb nb) (cV s2 s kb nb) ∧ cBd s0 s2 kb nb bs ∧ (∃ l2, cSn s2 l2 ∧ l2 ≤ l + bs.length + 1) ∧
  ((x = 1 ∧ (∀ th, vSol (cV s2 s kb nb) (cD nb np) th ↔ vSol (cV s0 s kb nb) (cD nb np) th ∧ th a = th b) ∧ (bs = [] ∨ ∃ th, vSol (cV s0 s kb nb) (cD nb np) th ∧ th a ≠ th b)) ∨ (x = 0 ∧ ∀ th, vSol (cV s0 s kb nb) (cD nb np) th → th a ≠ th b))
/-- the terms are small enough, whatever is bound -/
def cSmall (V : Nat → TV) (D : Nat → Prop) (a b : Nat) : Prop := ∀ W, vExt V W → (∃ rk, vOK W D rk) → ∃ hh z, vHt W D hh ∧ vSz W D z ∧ hh a ≤ 500 ∧ hh b ≤ 500 ∧ z a ≤ 999999 ∧ z b ≤ 999999
theorem hch2_r {hh : Nat → Nat} {A B : Nat} : ∀ {qs : List (Nat × Nat)}, hch2 hh A B qs → ∀ q ∈ qs, hh q.2 ≤ B ∧ hh q.1 ≤ A
  | [], _, q, h => by cases h
  | e :: es, h, q, hq => by
    rcases List.mem_cons.mp hq with rfl | hq
    · exact ⟨by have := h.2.1; omega, by have := h.1; omega⟩
    · exact hch2_r h.2.2 q hq
theorem c_fail {s : Nat} (hs : isScr s) {kb nb : Nat} (hkb : isArr kb nb) {sg : rSg} {y : Int32} {P : Option rv → rSg → Prop} (h : P (some (.inl 0)) sg) : g_65_22 s kb nb 0 y sg P := by
  refine w_65_22 sg s hs kb nb hkb 0 y ⟨fun _ => ⟨fun _ => h, fun q => absurd rfl q⟩, fun _ => ⟨fun _ => ⟨fun _ => h, fun q => absurd rfl q⟩, fun q => absurd rfl q⟩⟩
theorem mV_sameC {s0 sg : rSg} {s kb nb : Nat} (h3 : sg (s + 3) = s0 (s + 3)) (h : ∀ j, j < nb → sg kb j = s0 kb j) : cV sg s kb nb = cV s0 s kb nb := by
  funext c
  unfold cV
  rw [h3]
  by_cases h1 : c < nb
  · rw [h c h1]
  · split
    · rw [if_neg (fun q => h1 q.1), if_neg (fun q => h1 q.1)]
    · rfl
theorem c_unify_loop {s0 : rSg} {s kb nb np a0 b0 l0 : Nat} (hs : isScr s) (hkb : isArr kb nb) (hks : kb ≠ s + 3) (hl0 : l0 + 300 < 2 ^ 31) (hsm : cSmall (cV s0 s kb nb) (cD nb np) a0 b0) {P : Option rv → rSg → Prop} (hP : ∀ x bs s2, cUni s0 s2 s kb nb np a0 b0 l0 x bs → P (some (.inl x)) s2) :
    ∀ (n y : Nat) (sg : rSg) (qs : List (Nat × Nat)) (bs : List Nat) (l : Nat), y + n = 1000000 → cWF sg s kb nb np → (∃ rk, vOK (cV sg s kb nb) (cD nb np) rk) → vExt (cV s0 s kb nb) (cV sg s kb nb) → pilk 2 sg (flat qs) → sg 1 5 = nI (2 * qs.length) → (∀ q ∈ qs, cD nb np q.1 ∧ cD nb np q.2) → (∀ hh, vHt (cV sg s kb nb) (cD nb np) hh → hch2 hh (hh a0) (hh b0) qs) → (∀ z, vSz (cV sg s kb nb) (cD nb np) z → wsz2 z qs + y ≤ z a0 ∧ wsz3 z qs + y ≤ z b0) →
    (∀ th, (vSol (cV s0 s kb nb) (cD nb np) th ∧ th a0 = th b0) ↔ (vSol (cV sg s kb nb) (cD nb np) th ∧ ∀ q ∈ qs, th q.1 = th q.2)) → cBd s0 sg kb nb bs → cSn sg l → l ≤ l0 + bs.length → (bs = [] ∨ ∃ th, vSol (cV s0 s kb nb) (cD nb np) th ∧ th a0 ≠ th b0) → g_65_22 s kb nb 1 (nI y) sg P := by
  have b_kb := hkb.1
  have b_s := hs.1
  intro n
  induction n with
  | zero =>
    intro y sg qs bs l hyn hw hrk hext hpil htop hqs hch hzz hsol hbd hsn hll hbs
    obtain ⟨hh, z, hht, hz, r1, r2, r3, r4⟩ := hsm _ hext hrk
    have := hzz z hz
    omega
  | succ n ih =>
    intro y sg qs bs l hyn hw hrk hext hpil htop hqs hch hzz hsol hbd hsn hll hbs
    obtain ⟨hh, z, hht, hz, r1, r2, r3, r4⟩ := hsm _ hext hrk
    obtain ⟨rk, hok⟩ := hrk
    have hnb := hw.1
    have hnp := hw.2.1
    have hzq := hzz z hz
    have hlen := hch2_len (hch hh hht)
    have hop := hbd.2.2.2.2.2
    have hop2 := opensC_le s0 kb nb
    refine w_65_22 sg s hs kb nb hkb 1 (nI y) ?_
    rw [htop, show (1000000 : Int32) = nI 1000000 from rfl, show (1024 : Int32) = nI 1024 from rfl, nI_1]
    refine ⟨fun q => absurd ((nI_leI (by decide) (by omega)).mp q) (by omega), fun _ => ⟨fun q => absurd q (by decide), fun _ => ?_⟩⟩
    cases qs with
    | nil =>
      refine ⟨fun _ => ⟨fun q => absurd q (by decide), fun _ => ⟨fun q => absurd rfl q, fun _ => ?_⟩⟩, fun q => absurd (by decide) q⟩
      refine hP 1 bs sg ⟨hw, ⟨rk, hok⟩, hext, hbd, ⟨l, hsn, by omega⟩, Or.inl ⟨rfl, fun th => ?_, hbs⟩⟩
      rw [hsol th]
      simp
    | cons q qs =>
      obtain ⟨x0, y0⟩ := q
      have hq1 : cD nb np x0 := (hqs (x0, y0) List.mem_cons_self).1
      have hq2 : cD nb np y0 := (hqs (x0, y0) List.mem_cons_self).2
      have hqs2 : ∀ q ∈ qs, cD nb np q.1 ∧ cD nb np q.2 := fun q hq => hqs q (List.mem_cons_of_mem _ hq)
      have hl1 : (flat qs).length = 2 * qs.length := flat_len qs
      simp only [List.length_cons] at hlen htop ⊢
      simp only [wsz2, wsz3] at hzq
      refine ⟨fun q => absurd ((nI_leI (b := 1) (by omega) (by decide)).mp q) (by omega), fun _ => ⟨fun q => absurd ((nI_ltI (by decide) (by omega)).mp q) (by omega), fun _ => ?_⟩⟩
      have e2 : nI (2 * (qs.length + 1)) - 2 = nI (2 * qs.length) := by
        rw [show (2 : Int32) = nI 2 from rfl, pk_sub (by omega), show 2 * (qs.length + 1) - 2 = 2 * qs.length by omega]
      rw [e2, nI_clamp (by omega)]
      have g1 : sg 2 (2 * qs.length) = nI x0 := by have := hpil.2.1; rw [hl1] at this; exact this
      have g2 : sg 2 (2 * qs.length + 1) = nI y0 := by have := hpil.1; simp only [List.length_cons, hl1] at this; exact this
      rw [g1]
      refine ⟨rIn_nI (by omega) (by decide), ?_⟩
      -- the store with one less on the stack
      generalize es1 : up2 sg 1 5 (nI (2 * qs.length)) = s1
      have f1 : ∀ k, k ≠ 1 → s1 k = sg k := fun k hk => by rw [← es1, up2_nk _ _ _ hk]
      have f2 : ∀ j, j ≠ 5 → s1 1 j = sg 1 j := fun j hj => by rw [← es1, up2_nj _ _ _ hj]
      have p1 : s1 1 5 = nI (2 * qs.length) := by rw [← es1, up2_same]
      have V1 : cV s1 s kb nb = cV sg s kb nb := cV_ext (f1 _ (by omega)) (f1 _ (by omega))
      have hw1 : cWF s1 s kb nb np := (cWF_ext (f1 _ (by omega)) (f1 _ (by omega))).mpr hw
      have hok1 : vOK (cV s1 s kb nb) (cD nb np) rk := V1 ▸ hok
      have op1 : opensC s1 kb nb = opensC sg kb nb := by unfold opensC; rw [f1 kb (by omega)]
      have hbd1 : cBd s0 s1 kb nb bs := ⟨fun k g h => by rw [f1 k (by omega)]; exact hbd.1 k g h, by rw [f2 6 (by decide)]; exact hbd.2.1, pilk_ext (fun j _ => by rw [f1 4 (by decide)]) hbd.2.2.1, fun v hv => by rw [f1 kb (by omega)]; exact hbd.2.2.2.1 v hv, fun j hj hb => by rw [f1 kb (by omega)]; exact hbd.2.2.2.2.1 j hj hb, by rw [op1]; exact hop⟩
      have hsn1 : cSn s1 l := ⟨by rw [f2 4 (by decide)]; exact hsn.1, fun j hj => by rw [f1 5 (by decide)]; exact hsn.2 j hj⟩
      have pil1 : pilk 2 s1 (flat qs) := pilk_ext (fun j _ => by rw [f1 2 (by decide)]) hpil.2.2
      refine (cw_walk hkb hw1 hok1 hq1).imp ?_
      rintro _ s9 ⟨e9, x, rfl, hx, rx, wx⟩
      rw [e9, p1, nI_1, nI_clamp (by omega), f1 2 (by decide), g2]
      refine ⟨_, rfl, rIn_nI (by omega) (by decide), ?_⟩
      refine (cw_walk hkb hw1 hok1 hq2).imp ?_
      rintro _ s8 ⟨e8, yy, rfl, hy, ry, wy⟩
      rw [e8]
      rw [V1] at rx wx ry wy
      have hxl := cD_lt hx hnp
      have hyl := cD_lt hy hnp
      -- sizes at what is walked
      have szw : ∀ z, vSz (cV sg s kb nb) (cD nb np) z → ∀ c c2, cD nb np c → wlk (cV sg s kb nb) (cD nb np) c c2 → z c2 ≤ z c := by
        intro z hz c c2 hc hwk
        have := hwk.2.2.1 (fun q => cD nb np q ∧ z q ≤ z c) (fun q hq => ⟨fun e he => ⟨((hok q hq.1).1 e he).1, by have := (hz q hq.1).2.1 e he; have := hq.2; omega⟩, fun a b hp => by
          have h1 := (hok q hq.1).2.2 a b hp
          have h2 := (hz q hq.1).2.2 a b hp
          have h3 := hq.2
          exact ⟨⟨h1.1.1, by omega⟩, ⟨h1.2.1, by omega⟩⟩⟩) ⟨hc, Nat.le_refl _⟩
        exact this.2
      have hzx := szw z hz x0 x hq1 wx
      have hzy := szw z hz y0 yy hq2 wy
      have hch0 := hch hh hht
      have hhx := wx.2.1 hh hht
      have hhy := wy.2.1 hh hht
      have hhx0 : hh x0 + qs.length ≤ hh a0 := hch0.1
      have hhy0 : hh y0 + qs.length ≤ hh b0 := hch0.2.1
      refine ⟨_, rfl, fun h1 => ?_, fun h1 => ?_⟩
      · have hne : x ≠ yy := fun q => h1 (by rw [q])
        -- a binding
        have bind : ∀ i c, ((i = x ∧ c = yy) ∨ (i = yy ∧ c = x)) → i < 128 → cD nb np i → cD nb np c → i ≠ c → vRes (cV sg s kb nb) i → vRes (cV sg s kb nb) c → z c ≤ 1000000 → hh c ≤ 1000 →
            EvS rSkel 3 67 [.inr (.inr (some 1)), .inr (.inr (some s)), .inr (.inr (some kb)), .inl (nI i), .inl (nI c)] s1 (fun v82 t83 => ∃ n85, v82 = some (.inl n85) ∧ (¬ n85 = 0 → g_65_22 s kb nb 0 (nI (y + 1)) t83 P) ∧ (¬ (¬ n85 = 0) → EvS rSkel 1 68 [.inr (.inr (some 1)), .inr (.inr (some kb)), .inl (nI i), .inl (nI c)] t83 (fun v87 t88 => ∃ n90, v87 = some (.inl n90) ∧ (n90 = 0 → g_65_22 s kb nb 0 (nI (y + 1)) t88 P) ∧ (¬ (n90 = 0) → g_65_22 s kb nb 1 (nI (y + 1)) t88 P)))) := by
          intro i c hic hi128 hiD hcD hnic ri rc hzc hhc
          have hinb : i < nb := by unfold cD cF at hiD; omega
          have ho : cV sg s kb nb i = none := by
            rcases cV_var hw hinb with ⟨_, q⟩ | ⟨e, _, _, q⟩
            · exact q
            · exact absurd q (ri e)
          have hclt := cD_lt hcD hnp
          refine (c_isIn hs hkb hw1 hok1 (V1 ▸ hht) (V1 ▸ hz) hhc hzc hinb (by rw [V1]; exact ho) hcD hsn1 (by omega)).imp ?_
          rw [V1]
          rintro _ s3 ⟨h, k1, k2, sn3⟩
          have f3 : ∀ k, (k = 0 ∨ 5 < k) → s3 k = sg k := fun k hk => by rw [k1 k (by omega) (by omega) (by omega), f1 k (by omega)]
          have V3 : cV s3 s kb nb = cV sg s kb nb := cV_ext (f3 _ (by omega)) (f3 _ (by omega))
          have hw3 : cWF s3 s kb nb np := (cWF_ext (f3 _ (by omega)) (f3 _ (by omega))).mpr hw
          have op3 : opensC s3 kb nb = opensC sg kb nb := by unfold opensC; rw [f3 kb (by omega)]
          have hbd3 : cBd s0 s3 kb nb bs := ⟨fun k g h => by rw [f3 k g]; exact hbd.1 k g h, by rw [k2 6 (by decide)]; exact hbd1.2.1, pilk_ext (fun j _ => by rw [k1 4 (by decide) (by decide) (by decide)]) hbd1.2.2.1, fun v hv => by rw [f3 kb (by omega)]; exact hbd.2.2.2.1 v hv, fun j hj hb => by rw [f3 kb (by omega)]; exact hbd.2.2.2.2.1 j hj hb, by rw [op3]; exact hop⟩
          have hxy : ∀ th, vSol (cV sg s kb nb) (cD nb np) th → (th x0 = th y0 ↔ th i = th c) := fun th h => by
            rw [wx.1 th h, wy.1 th h]
            rcases hic with ⟨rfl, rfl⟩ | ⟨rfl, rfl⟩
            · exact Iff.rfl
            · exact ⟨Eq.symm, Eq.symm⟩
          rcases h with ⟨rfl, hr⟩ | ⟨rfl, hr⟩
          · refine ⟨1, rfl, fun _ => c_fail hs hkb ?_, fun q => absurd (by decide) q⟩
            refine hP 0 bs s3 ⟨hw3, ⟨rk, V3 ▸ hok⟩, by rw [V3]; exact hext, hbd3, ⟨l + 1, sn3, by omega⟩, Or.inr ⟨rfl, fun th h0 q => ?_⟩⟩
            have h5 := (hsol th).mp ⟨h0, q⟩
            have h6 : th x0 = th y0 := h5.2 (x0, y0) List.mem_cons_self
            have h7 := (hxy th h5.1).mp h6
            rcases hr.inv with e | ⟨e, he, _⟩ | ⟨a, b, hp2, _⟩
            · exact hnic e.symm
            · exact rc e he
            · have := vSol_lt hok h5.1 hcD hp2 hr (Ne.symm hnic); omega
          · refine ⟨0, rfl, fun q => absurd rfl q, fun _ => ?_⟩
            have hoi : sg kb i = -1 := (cV_open hw hiD ho).2
            have hnbi : i ∉ bs := fun q => (hbd.2.2.2.1 _ q).2.2 hoi
            have hop4 : 0 < opensC sg kb nb := List.countP_pos_iff.mpr ⟨i, List.mem_range.mpr hinb, by simp [hoi]⟩
            refine (c_binds s3 hkb (by omega) (nI c) hinb hbd3.2.1 (by omega)).imp ?_
            rintro _ s4 ⟨rfl, q1, q2, q3, q4, q5, q6⟩
            refine ⟨1, rfl, fun q => absurd q (by decide), fun _ => ?_⟩
            have k3 : s4 (s + 3) = sg (s + 3) := by rw [q1 _ (by omega) (by omega) (by omega), f3 _ (by omega)]
            have k4 : s4 kb = upd (sg kb) i (nI c) := by rw [q4, f3 kb (by omega)]
            have V4 : cV s4 s kb nb = vB (cV sg s kb nb) i c := cV_bind hw k3 k4 hinb hcD
            have hw4 := cWF_bind k3 k4 hcD hw
            have op4 := opensC_bind hinb hoi k4 (by omega)
            obtain ⟨rk2, hok2⟩ := vOK_bind ho hok hcD hr
            refine ih (y + 1) s4 qs (i :: bs) (l + 1) (by omega) hw4 ⟨rk2, V4 ▸ hok2⟩ (by rw [V4]; exact hext.bind ho) (pilk_ext (fun j _ => by rw [q1 2 (by decide) (by decide) (by omega), k1 2 (by decide) (by decide) (by decide)]) pil1) (by rw [q2 5 (by decide), k2 5 (by decide)]; exact p1) hqs2 (fun h9 h8 => (hch h9 (vHt_bind ho (V4 ▸ h8))).2.2) (fun z9 h8 => ?_) (fun th => ?_) ⟨fun k g h => by rw [q1 k (by omega) (by omega) h]; exact hbd3.1 k g h, q3, ⟨q5, pilk_ext (fun j hj => q6 j (by omega)) hbd3.2.2.1⟩, ?_, ?_, ?_⟩ ⟨by rw [q2 4 (by decide)]; exact sn3.1, fun j hj => by rw [q1 5 (by decide) (by decide) (by omega)]; exact sn3.2 j hj⟩ (by simp only [List.length_cons]; omega) (Or.inr ?_)
            · have hz9 := vSz_bind ho (V4 ▸ h8)
              have h7 := hzz z9 hz9
              simp only [wsz2, wsz3] at h7
              have g3 := (hz9 x0 hq1).1
              have g4 := (hz9 y0 hq2).1
              omega
            · rw [hsol th, V4, vSol_bind ho hiD]
              constructor
              · intro h
                exact ⟨⟨h.1, (hxy th h.1).mp (h.2 (x0, y0) List.mem_cons_self)⟩, fun q hq => h.2 q (List.mem_cons_of_mem _ hq)⟩
              · rintro ⟨⟨h3, h4⟩, h5⟩
                refine ⟨h3, fun q hq => ?_⟩
                rcases List.mem_cons.mp hq with rfl | hq
                · exact (hxy th h3).mpr h4
                · exact h5 q hq
            · intro v hv
              rcases List.mem_cons.mp hv with rfl | hv
              · refine ⟨hinb, ?_, ?_⟩
                · rw [← hbd.2.2.2.2.1 v hinb hnbi]
                  exact hoi
                · rw [k4, show upd (sg kb) v (nI c) v = nI c from if_pos rfl]
                  exact nI_nem1 (by omega)
              · have h0 := hbd.2.2.2.1 v hv
                refine ⟨h0.1, h0.2.1, ?_⟩
                rw [k4, show upd (sg kb) i (nI c) v = sg kb v from if_neg (fun (q : v = i) => hnbi (by rw [← q]; exact hv))]
                exact h0.2.2
            · intro j hj hjb
              rw [k4, show upd (sg kb) i (nI c) j = sg kb j from if_neg (fun q => hjb (by rw [q]; exact List.mem_cons_self))]
              exact hbd.2.2.2.2.1 j hj (fun q => hjb (List.mem_cons_of_mem _ q))
            · simp only [List.length_cons]
              omega
            · rcases hbs with rfl | hbs
              · have Vs : cV sg s kb nb = cV s0 s kb nb := mV_sameC (hbd.1 _ (by omega) (Ne.symm hks)) (fun j hj => hbd.2.2.2.2.1 j hj (by simp))
                obtain ⟨th, h3, h4⟩ := vSol_other hok ho hr
                refine ⟨th, Vs ▸ h3, fun q => h4 ?_⟩
                have h5 : th x0 = th y0 := ((hsol th).mp ⟨Vs ▸ h3, q⟩).2 (x0, y0) List.mem_cons_self
                exact (hxy th h3).mp h5
              · exact hbs
        -- they can't be the same
        have fail : (∀ th, vSol (cV sg s kb nb) (cD nb np) th → th x ≠ th yy) → g_65_22 s kb nb 0 (nI (y + 1)) s1 P := by
          intro hno
          refine c_fail hs hkb (hP 0 bs s1 ⟨hw1, ⟨rk, hok1⟩, by rw [V1]; exact hext, hbd1, ⟨l, hsn1, by omega⟩, Or.inr ⟨rfl, fun th h0 q => ?_⟩⟩)
          have h5 := (hsol th).mp ⟨h0, q⟩
          have h6 : th x0 = th y0 := h5.2 (x0, y0) List.mem_cons_self
          rw [wx.1 th h5.1, wy.1 th h5.1] at h6
          exact hno th h5.1 h6
        refine (c_isVar s1 (by omega)).imp ?_
        rintro _ s7 ⟨rfl, e7⟩
        rw [e7]
        refine ⟨_, rfl, fun h2 => ?_, fun h2 => ?_⟩
        · have hx128 : ¬ x < 128 := fun q => by rw [if_pos q] at h2; exact absurd h2 (by decide)
          refine (c_isVar s1 (by omega)).imp ?_
          rintro _ s6 ⟨rfl, e6⟩
          rw [e6]
          refine ⟨_, rfl, fun h3 => ?_, fun h3 => ?_⟩
          · have hy128 : ¬ yy < 128 := fun q => by rw [if_pos q] at h3; exact absurd h3 (by decide)
            have val : ∀ c, cD nb np c → ¬ c < 128 → ∀ th, vSol (cV sg s kb nb) (cD nb np) th → (c < 256 ∧ th c = c - 128 ∧ c < 139) ∨ (256 ≤ c ∧ 11 < th c) := by
              intro c hc hn th h
              by_cases q : c < 256
              · refine Or.inl ⟨q, (h c hc).2.1 _ (cV_atom (by omega) q), ?_⟩
                unfold cD cF at hc
                omega
              · obtain ⟨a, b, hv, _⟩ := c_half hs hw (show 256 ≤ c by omega) hc
                refine Or.inr ⟨by omega, ?_⟩
                rw [(h c hc).2.2 _ _ hv]
                exact nd_big _ _
            refine (c_isPair s1 (by omega)).imp ?_
            rintro _ s5 ⟨rfl, e5⟩
            rw [e5]
            refine ⟨_, rfl, fun h4 => ?_, fun h4 => ?_⟩
            · have hx256 : x < 256 := by
                by_cases q : x < 256
                · exact q
                · rw [if_neg q] at h4; exact absurd h4 (by decide)
              refine fail (fun th h => ?_)
              have v1 := val x hx hx128 th h
              have v2 := val yy hy hy128 th h
              omega
            · have hx256 : ¬ x < 256 := fun q => by rw [if_pos q] at h4; exact absurd rfl h4
              refine (c_isPair s1 (by omega)).imp ?_
              rintro _ s5 ⟨rfl, e5⟩
              rw [e5]
              refine ⟨_, rfl, fun h5 => ?_, fun h5 => ?_⟩
              · have hy256 : yy < 256 := by
                  by_cases q : yy < 256
                  · exact q
                  · rw [if_neg q] at h5; exact absurd h5 (by decide)
                refine fail (fun th h => ?_)
                have v1 := val x hx hx128 th h
                have v2 := val yy hy hy128 th h
                omega
              · have hy256 : ¬ yy < 256 := fun q => by rw [if_pos q] at h5; exact absurd rfl h5
                obtain ⟨a, b, hvx, da, db, hevx⟩ := c_half hs hw (show 256 ≤ x by omega) hx
                obtain ⟨c, d, hvy, dc, dd, hevy⟩ := c_half hs hw (show 256 ≤ yy by omega) hy
                have e3 : s1 (s + 3) = sg (s + 3) := f1 _ (by omega)
                refine ((hevx s1 e3).2).imp ?_
                rintro _ t1 ⟨rfl, q1⟩
                rw [q1]
                refine ⟨_, rfl, ((hevy s1 e3).2).imp ?_⟩
                rintro _ t2 ⟨rfl, q2⟩
                rw [q2]
                refine ⟨_, rfl, (c_push s1 (nI b) (nI d) p1 (by omega)).imp ?_⟩
                rintro _ t3 ⟨rfl, u1, u2, u3, u4, u5, u6⟩
                refine ⟨1, rfl, fun q => absurd q (by decide), fun _ => ?_⟩
                have e4 : t3 (s + 3) = sg (s + 3) := by rw [u1 _ (by omega) (by omega)]; exact e3
                refine ((hevx t3 e4).1).imp ?_
                rintro _ t4 ⟨rfl, q4⟩
                rw [q4]
                refine ⟨_, rfl, ((hevy t3 e4).1).imp ?_⟩
                rintro _ t5 ⟨rfl, q5⟩
                rw [q5]
                refine ⟨_, rfl, (c_push t3 (nI a) (nI c) u3 (by omega)).imp ?_⟩
                rintro _ t6 ⟨rfl, w1, w2, w3, w4, w5, w6⟩
                refine ⟨1, rfl, fun q => absurd q (by decide), fun _ => ?_⟩
                have f6 : ∀ k, k ≠ 1 → k ≠ 2 → t6 k = sg k := fun k g h => by rw [w1 k g h, u1 k g h, f1 k g]
                have f6j : ∀ j, j ≠ 5 → t6 1 j = sg 1 j := fun j h => by rw [w2 j h, u2 j h, f2 j h]
                have V6 : cV t6 s kb nb = cV sg s kb nb := cV_ext (f6 _ (by omega) (by omega)) (f6 _ (by omega) (by omega))
                have op6 : opensC t6 kb nb = opensC sg kb nb := by unfold opensC; rw [f6 kb (by omega) (by omega)]
                refine ih (y + 1) t6 ((a, c) :: (b, d) :: qs) bs l (by omega) ((cWF_ext (f6 _ (by omega) (by omega)) (f6 _ (by omega) (by omega))).mpr hw) ⟨rk, V6 ▸ hok⟩ (by rw [V6]; exact hext) ⟨?_, ?_, ?_, ?_, pilk_ext (fun j hj => by rw [hl1] at hj; rw [w6 j (by omega), u6 j (by omega)]) pil1⟩ (by rw [w3]; simp only [List.length_cons]; congr 1) ?_ (fun h9 h8 => ?_) (fun z9 h8 => ?_) (fun th => ?_) ⟨fun k g h => by rw [f6 k (by omega) (by omega)]; exact hbd.1 k g h, by rw [f6j 6 (by decide)]; exact hbd.2.1, pilk_ext (fun j _ => by rw [f6 4 (by decide) (by decide)]) hbd.2.2.1, fun v hv => by rw [f6 kb (by omega) (by omega)]; exact hbd.2.2.2.1 v hv, fun j hj hb => by rw [f6 kb (by omega) (by omega)]; exact hbd.2.2.2.2.1 j hj hb, by rw [op6]; exact hop⟩ ⟨by rw [f6j 4 (by decide)]; exact hsn.1, fun j hj => by rw [f6 5 (by decide) (by decide)]; exact hsn.2 j hj⟩ hll hbs
                · simp only [List.length_cons, hl1, flat]; exact w5
                · simp only [List.length_cons, hl1, flat]; exact w4
                · simp only [List.length_cons, hl1, flat]; rw [w6 _ (by omega)]; exact u5
                · simp only [hl1]; rw [w6 _ (by omega)]; exact u4
                · intro q hq
                  rcases List.mem_cons.mp hq with rfl | hq
                  · exact ⟨da, dc⟩
                  · rcases List.mem_cons.mp hq with rfl | hq
                    · exact ⟨db, dd⟩
                    · exact hqs2 q hq
                · rw [V6] at h8
                  have h0 := hch h9 h8
                  have hx9 := wx.2.1 h9 h8
                  have hy9 := wy.2.1 h9 h8
                  have hab9 := (h8 x hx).2 a b hvx
                  have hcd9 := (h8 yy hy).2 c d hvy
                  have z1 : h9 x0 + qs.length ≤ h9 a0 := h0.1
                  have z2 : h9 y0 + qs.length ≤ h9 b0 := h0.2.1
                  exact ⟨by simp only [List.length_cons]; omega, by simp only [List.length_cons]; omega, by simp only []; omega, by simp only []; omega, h0.2.2⟩
                · rw [V6] at h8
                  have h7 := hzz z9 h8
                  simp only [wsz2, wsz3] at h7 ⊢
                  have g3 := szw z9 h8 x0 x hq1 wx
                  have g4 := szw z9 h8 y0 yy hq2 wy
                  have g5 := (h8 x hx).2.2 a b hvx
                  have g6 := (h8 yy hy).2.2 c d hvy
                  omega
                · rw [hsol th, V6]
                  have key : vSol (cV sg s kb nb) (cD nb np) th → (th x0 = th y0 ↔ th a = th c ∧ th b = th d) := by
                    intro h
                    rw [wx.1 th h, wy.1 th h, (h x hx).2.2 a b hvx, (h yy hy).2.2 c d hvy]
                    constructor
                    · exact fun q => nd_inj q
                    · rintro ⟨q1, q2⟩
                      rw [q1, q2]
                  constructor
                  · intro h
                    have := (key h.1).mp (h.2 (x0, y0) List.mem_cons_self)
                    refine ⟨h.1, fun q hq => ?_⟩
                    rcases List.mem_cons.mp hq with rfl | hq
                    · exact this.1
                    · rcases List.mem_cons.mp hq with rfl | hq
                      · exact this.2
                      · exact h.2 q (List.mem_cons_of_mem _ hq)
                  · intro h
                    refine ⟨h.1, fun q hq => ?_⟩
                    rcases List.mem_cons.mp hq with rfl | hq
                    · exact (key h.1).mpr ⟨h.2 (a, c) (by simp), h.2 (b, d) (by simp)⟩
                    · exact h.2 q (by simp [hq])
          · have hy128 : yy < 128 := by
              by_cases q : yy < 128
              · exact q
              · rw [if_neg q] at h3; exact absurd rfl h3
            exact bind yy x (Or.inr ⟨rfl, rfl⟩) hy128 hy hx (Ne.symm hne) ry rx (by omega) (by omega)
        · have hx128 : x < 128 := by
            by_cases q : x < 128
            · exact q
            · rw [if_neg q] at h2; exact absurd rfl h2
          exact bind x yy (Or.inl ⟨rfl, rfl⟩) hx128 hx hy hne rx ry (by omega) (by omega)
      · have hxy : x = yy := (nI_eq (by omega) (by omega)).mp (Classical.not_not.mp h1)
        refine ih (y + 1) s1 qs bs l (by omega) hw1 ⟨rk, hok1⟩ (by rw [V1]; exact hext) pil1 p1 hqs2 (fun h9 h8 => (hch h9 (V1 ▸ h8)).2.2) (fun z9 h8 => ?_) (fun th => ?_) hbd1 hsn1 hll hbs
        · rw [V1] at h8
          have h7 := hzz z9 h8
          simp only [wsz2, wsz3] at h7
          have g3 := (h8 x0 hq1).1
          have g4 := (h8 y0 hq2).1
          omega
        · rw [hsol th, V1]
          constructor
          · exact fun h => ⟨h.1, fun q hq => h.2 q (List.mem_cons_of_mem _ hq)⟩
          · refine fun h => ⟨h.1, fun q hq => ?_⟩
            rcases List.mem_cons.mp hq with rfl | hq
            · show th x0 = th y0
              rw [wx.1 th h.1, wy.1 th h.1, hxy]
            · exact h.2 q hq
theorem c_unify {s0 : rSg} {s kb nb np a b l : Nat} (hs : isScr s) (hkb : isArr kb nb) (hks : kb ≠ s + 3) (hw : cWF s0 s kb nb np) (hrk : ∃ rk, vOK (cV s0 s kb nb) (cD nb np) rk) (hl : cSn s0 l) (hl0 : l + 300 < 2 ^ 31) (ha : cD nb np a) (hb : cD nb np b) (hsm : cSmall (cV s0 s kb nb) (cD nb np) a b) : EvS rSkel 4 65 [.inr (.inr (some 1)), .inr (.inr (some s)), .inr (.inr (some kb)), .inl (nI a), .inl (nI b)] s0 (fun r s2 => ∃ x bs, r = some (.inl x) ∧ cUni s0 s2 s kb nb np a b l x bs) := by
  have b_kb := hkb.1
  have b_s := hs.1
  refine w_65 s0 s hs kb nb hkb (nI a) (nI b) ((c_push (up2 (up2 s0 1 5 0) 1 6 0) (w := 0) (nI a) (nI b) (by rw [up2_nj _ _ _ (by decide), up2_same]; rfl) (by decide)).imp ?_)
  rintro _ s1 ⟨rfl, u1, u2, u3, u4, u5, u6⟩
  refine ⟨1, rfl, ?_⟩
  have f1 : ∀ k, k ≠ 1 → k ≠ 2 → s1 k = s0 k := fun k g h => by rw [u1 k g h, up2_nk _ _ _ g, up2_nk _ _ _ g]
  have f2 : ∀ j, j ≠ 5 → j ≠ 6 → s1 1 j = s0 1 j := fun j g h => by rw [u2 j g, up2_nj _ _ _ h, up2_nj _ _ _ g]
  have V1 : cV s1 s kb nb = cV s0 s kb nb := cV_ext (f1 _ (by omega) (by omega)) (f1 _ (by omega) (by omega))
  have op : opensC s1 kb nb = opensC s0 kb nb := by unfold opensC; rw [f1 kb (by omega) (by omega)]
  obtain ⟨rk, hok⟩ := hrk
  refine c_unify_loop hs hkb hks hl0 hsm (fun x bs s2 h => ⟨x, bs, rfl, h⟩) 1000000 0 s1 [(a, b)] [] l (by decide) ((cWF_ext (f1 _ (by omega) (by omega)) (f1 _ (by omega) (by omega))).mpr hw) ⟨rk, V1 ▸ hok⟩ (by rw [V1]; exact vExt.rfl') ⟨u5, u4, trivial⟩ u3 ?_ (fun h9 _ => ⟨by simp, by simp, trivial⟩) (fun z _ => ⟨by simp [wsz2], by simp [wsz3]⟩) (fun th => ?_) ⟨fun k g h => f1 k (by omega) (by omega), by rw [u2 6 (by decide), up2_same]; rfl, trivial, fun v hv => (by cases hv), fun j _ _ => by rw [f1 kb (by omega) (by omega)], by rw [op]; simp⟩ ⟨by rw [f2 4 (by decide) (by decide)]; exact hl.1, fun j hj => by rw [f1 5 (by decide) (by decide)]; exact hl.2 j hj⟩ (by simp) (Or.inl rfl)
  · intro q hq
    rcases List.mem_cons.mp hq with rfl | hq
    · exact ⟨ha, hb⟩
    · cases hq
  · rw [V1]
    simp
/-- undo: what was bound is open again -/
theorem c_undo_loop {s0 sg : rSg} {kb nb : Nat} (hkb : isArr kb nb) (hnb : nb ≤ 128) {bs : List Nat} (hbl : bs.length ≤ 128) (hv : ∀ v ∈ bs, v < nb ∧ s0 kb v = -1) {P : Option rv → rSg → Prop} (hP : ∀ s2, (∀ k, k ≠ 1 → k ≠ kb → s2 k = sg k) → (∀ j, j ≠ 6 → s2 1 j = sg 1 j) → (∀ j, j < nb → s2 kb j = s0 kb j) → P none s2) : ∀ (n y : Nat) (t : rSg), y + n = bs.length → (∀ k, k ≠ kb → t k = sg k) → t 1 6 = nI bs.length → pilk 4 t bs → (∀ j, j < nb → (∀ i, y ≤ i → i < bs.length → t 4 i ≠ nI j) → t kb j = s0 kb j) → (∀ i, i < bs.length → ∃ v, v ∈ bs ∧ t 4 i = nI v) → g_69_2 kb nb (nI y) t P := by
  have b_kb := hkb.1
  intro n
  induction n with
  | zero =>
    intro y t hy hf h6 hp hj hi
    refine w_69_2 t kb nb hkb (nI y) ?_
    rw [h6]
    have fin : P none (up2 t 1 6 0) := hP _ (fun k g h => by rw [up2_nk _ _ _ g]; exact hf k h) (fun j h => by rw [up2_nj _ _ _ h, hf 1 (by omega)]) (fun j h => by rw [up2_nk _ _ _ (by omega)]; exact hj j h (fun i h1 h2 => absurd h2 (by omega)))
    exact ⟨fun _ => fin, fun q => absurd (nI_le (by omega) (by omega)) q⟩
  | succ n ih =>
    intro y t hy hf h6 hp hj hi
    obtain ⟨v, hvb, hv4⟩ := hi y (by omega)
    have hv0 := hv v hvb
    refine w_69_2 t kb nb hkb (nI y) ?_
    rw [h6, show Int32.ofNat 128 = nI 128 from rfl, show Int32.ofNat nb = nI nb from rfl, nI_clamp (by omega), hv4, nI_clamp (by omega), nI_1]
    refine ⟨fun q => absurd ((nI_leI (by omega) (by omega)).mp q) (by omega), fun _ => ⟨fun q => absurd ((nI_leI (by decide) (by omega)).mp q) (by omega), fun _ => ⟨rIn_nI (by omega) (by decide), fun q => absurd q (nI_pos (by omega)), fun _ => ⟨fun q => absurd ((nI_leI (by omega) (by omega)).mp q) (by omega), fun _ => ⟨rIn_nI hv0.1 (by omega), ?_⟩⟩⟩⟩⟩
    refine ih (y + 1) (up2 t kb v (-1)) (by omega) (fun k h => by rw [up2_nk _ _ _ h]; exact hf k h) (by rw [up2_nk _ _ _ (by omega)]; exact h6) (pilk_ext (fun j _ => by rw [up2_nk _ _ _ (by omega)]) hp) (fun j h hi2 => ?_) (fun i h => by rw [up2_nk _ _ _ (by omega)]; exact hi i h)
    by_cases hjv : j = v
    · subst hjv
      rw [up2_same, hv0.2]
    · rw [up2_nj _ _ _ hjv]
      refine hj j h (fun i h1 h2 => ?_)
      by_cases hiy : i = y
      · subst hiy
        rw [hv4]
        exact fun q => hjv ((nI_eq (by omega) (by omega)).mp q).symm
      · have := hi2 i (by omega) h2
        rw [up2_nk _ _ _ (by omega)] at this
        exact this
theorem pilk_at {k : Nat} {sg : rSg} : ∀ {es : List Nat}, pilk k sg es → ∀ i, i < es.length → ∃ v, v ∈ es ∧ sg k i = nI v
  | [], _, i, h => by simp at h
  | e :: es, hp, i, h => by
    by_cases q : i = es.length
    · subst q
      exact ⟨e, List.mem_cons_self, hp.1⟩
    · obtain ⟨v, h1, h2⟩ := pilk_at hp.2 i (by simp at h; omega)
      exact ⟨v, List.mem_cons_of_mem _ h1, h2⟩
theorem pilk_all {k : Nat} {sg : rSg} : ∀ {es : List Nat}, pilk k sg es → ∀ v ∈ es, ∃ i, i < es.length ∧ sg k i = nI v
  | [], _, v, h => by cases h
  | e :: es, hp, v, h => by
    rcases List.mem_cons.mp h with rfl | h
    · exact ⟨es.length, by simp, hp.1⟩
    · obtain ⟨i, h1, h2⟩ := pilk_all hp.2 v h
      exact ⟨i, by simp; omega, h2⟩
theorem c_undo {s0 sg : rSg} {kb nb : Nat} (hkb : isArr kb nb) (hnb : nb ≤ 128) {bs : List Nat} (h : cBd s0 sg kb nb bs) : EvS rSkel 1 69 [.inr (.inr (some 1)), .inr (.inr (some kb))] sg (fun r s2 => r = none ∧ (∀ k, k ≠ 1 → k ≠ kb → s2 k = sg k) ∧ (∀ j, j ≠ 6 → s2 1 j = sg 1 j) ∧ (∀ j, j < nb → s2 kb j = s0 kb j)) := by
  have h7 := h.2.2.2.2.2
  have := opensC_le s0 kb nb
  refine w_69 sg kb nb hkb (c_undo_loop (s0 := s0) (sg := sg) hkb hnb (bs := bs) (by omega) (fun v hv => ⟨(h.2.2.2.1 v hv).1, (h.2.2.2.1 v hv).2.1⟩) (fun s2 h1 h2 h3 => ⟨rfl, h1, h2, h3⟩) bs.length 0 sg (by omega) (fun _ _ => rfl) h.2.1 h.2.2.1 (fun j hj hi => ?_) (pilk_at h.2.2.1))
  by_cases q : j ∈ bs
  · obtain ⟨i, h1, h2⟩ := pilk_all h.2.2.1 j q
    exact absurd h2 (hi i (Nat.zero_le _) h1)
  · exact h.2.2.2.2.1 j hj q
