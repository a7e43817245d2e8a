/-! THE CLASS: unify over a domain; its turns as a pure machine -/
/-- one turn: a view of the bindings and the pairs of codes still to be made the same -/
def uSt (D : Nat → Prop) (V : Nat → TV) (ps : List (Nat × Nat)) (W : Nat → TV) (rs : List (Nat × Nat)) : Prop := ∃ x0 y0 x y : Nat, ∃ qs : List (Nat × Nat), ps = (x0, y0) :: qs ∧ (D x0 ∧ D y0 ∧ D x ∧ D y) ∧ (wlk V D x0 x ∧ wlk V D y0 y ∧ vRes V x ∧ vRes V y) ∧ ((x = y ∧ W = V ∧ rs = qs) ∨ (∃ i c : Nat, ((i = x ∧ c = y) ∨ (i = y ∧ c = x)) ∧ i ≠ c ∧ V i = none ∧ ¬ reach V c i ∧ W = vB V i c ∧ rs = qs) ∨ (∃ a b c d : Nat, x ≠ y ∧ V x = some (.inr (.inr (a, b))) ∧ V y = some (.inr (.inr (c, d))) ∧ W = V ∧ rs = (a, c) :: (b, d) :: qs))
/-- so many turns -/
def uRun (D : Nat → Prop) (V : Nat → TV) (qs : List (Nat × Nat)) : Nat → (Nat → TV) → List (Nat × Nat) → Prop
  | 0, W, rs => W = V ∧ rs = qs
  | n + 1, U, ts => ∃ W rs, uRun D V qs n W rs ∧ uSt D W rs U ts
theorem uRun_step {D : Nat → Prop} {V : Nat → TV} {qs : List (Nat × Nat)} {n : Nat} {W U : Nat → TV} {rs ts : List (Nat × Nat)} (h1 : uRun D V qs n W rs) (h2 : uSt D W rs U ts) : uRun D V qs (n + 1) U ts := ⟨W, rs, h1, h2⟩
theorem dSz_ext {V W : Nat → TV} {D : Nat → Prop} {B : Nat} {p : Nat → Nat} (h : vExt V W) (hz : dSz V D B p) : dSz W D B p := by
  intro c hc
  have h1 := hz c hc
  refine ⟨h1.1, h1.2.1, fun a b hp => ?_⟩
  rcases h c with q | ⟨_, e, q⟩
  · rw [q] at hp
    exact h1.2.2 a b hp
  · rw [q] at hp
    cases hp
def cUnG (s0 s2 : rSg) (s kb nb np : Nat) (D : Nat → Prop) (a b l : Nat) (x : Int32) (bs : List Nat) : Prop := cWG s2 s kb nb np D ∧ (∃ rk, vOK (cV s2 s kb nb) D rk) ∧ vExt (cV s0 s kb nb) (cV s2 s kb nb) ∧ cBd s0 s2 kb nb bs ∧ (∃ l2, cSn s2 l2 ∧ l2 ≤ l + bs.length + 1) ∧
  ((x = 1 ∧ (∀ th, vSol (cV s2 s kb nb) D th ↔ vSol (cV s0 s kb nb) D th ∧ th a = th b) ∧ (bs = [] ∨ ∃ th, vSol (cV s0 s kb nb) D th ∧ th a ≠ th b) ∧ ∃ n, uRun D (cV s0 s kb nb) [(a, b)] n (cV s2 s kb nb) []) ∨ (x = 0 ∧ ∀ th, vSol (cV s0 s kb nb) D th → th a ≠ th b) ∨ (x = 0 ∧ ∃ n W rs, n = 1000000 ∧ uRun D (cV s0 s kb nb) [(a, b)] n W rs ∧ rs ≠ []))
/-- heights whatever is bound -/
def cLow (V : Nat → TV) (D : Nat → Prop) (a b : Nat) : Prop := ∀ W, vExt V W → (∃ rk, vOK W D rk) → ∃ hh, vHt W D hh ∧ hh a ≤ 500 ∧ hh b ≤ 500
theorem cG_unify_loop {s0 : rSg} {s kb nb np a0 b0 l0 : Nat} (hs : isScr s) (hkb : isArr kb nb) (hks : kb ≠ s + 3) (hl0 : l0 + 300 < 2 ^ 32) {D : Nat → Prop} (hsm : cLow (cV s0 s kb nb) D a0 b0) {B : Nat} {z : Nat → Nat} (hB : B ≤ 7000) (hz0 : dSz (cV s0 s kb nb) D B z) {P : Option rv → rSg → Prop} (hP : ∀ x bs s2, cUnG s0 s2 s kb nb np D a0 b0 l0 x bs → P (some (.inl x)) s2) :
    ∀ (n y : Nat) (sg : rSg) (qs : List (Nat × Nat)) (bs : List Nat) (l : Nat), y + n = 1000000 → cWG sg s kb nb np D → (∃ rk, vOK (cV sg s kb nb) D rk) → vExt (cV s0 s kb nb) (cV sg s kb nb) → pilk 2 sg (flat qs) → sg 1 5 = nI (2 * qs.length) → (∀ q ∈ qs, D q.1 ∧ D q.2) → (∀ hh, vHt (cV sg s kb nb) D hh → hch2 hh (hh a0) (hh b0) qs) → uRun D (cV s0 s kb nb) [(a0, b0)] y (cV sg s kb nb) qs →
    (∀ th, (vSol (cV s0 s kb nb) D th ∧ th a0 = th b0) ↔ (vSol (cV sg s kb nb) D th ∧ ∀ q ∈ qs, th q.1 = th q.2)) → cBd s0 sg kb nb bs → cSn sg l → l ≤ l0 + bs.length → (bs = [] ∨ ∃ th, vSol (cV s0 s kb nb) D th ∧ th a0 ≠ th b0) → g_65_22 s kb nb 1 (nI y) sg P := by
  have b_kb := hkb.1
  have b_s := hs.1
  intro n
  induction n with
  | zero =>
    intro y sg qs bs l hyn hw hrk hext hpil htop hqs hch hzz hsol hbd hsn hll hbs
    have hy : y = 1000000 := by omega
    refine w_65_22 sg s hs kb nb hkb 1 (nI y) ?_
    rw [htop, show (1000000 : Int32) = nI 1000000 from rfl]
    refine ⟨fun _ => ⟨fun q => absurd q (by decide), fun _ => ?_⟩, fun q => absurd ((nI_leI (a := 1000000) (b := y) (by omega) (by omega)).mpr (by omega)) q⟩
    cases qs with
    | nil =>
      refine ⟨fun q => absurd rfl q, fun _ => ?_⟩
      refine hP 1 bs sg ⟨hw, hrk, hext, hbd, ⟨l, hsn, by omega⟩, Or.inl ⟨rfl, fun th => ?_, hbs, y, hzz⟩⟩
      rw [hsol th]
      simp
    | cons q qs =>
      obtain ⟨hh, hht, r1, r2⟩ := hsm _ hext hrk
      have hlen := hch2_len (hch hh hht)
      refine ⟨fun _ => hP 0 bs sg ⟨hw, hrk, hext, hbd, ⟨l, hsn, by omega⟩, Or.inr (Or.inr ⟨rfl, y, _, _, hy, hzz, by simp⟩)⟩, fun q => ?_⟩
      simp only [List.length_cons] at q hlen
      have q2 := (nI_eq (a := 2 * (qs.length + 1)) (b := 0) (by omega) (by omega)).mp (Classical.not_not.mp q)
      omega
  | succ n ih =>
    intro y sg qs bs l hyn hw hrk hext hpil htop hqs hch hzz hsol hbd hsn hll hbs
    obtain ⟨hh, hht, r1, r2⟩ := hsm _ hext hrk
    have hz := dSz_ext hext hz0
    obtain ⟨rk, hok⟩ := hrk
    have hnb := hw.1
    have hnp := hw.2.1
    have hlen := hch2_len (hch hh hht)
    have hop := hbd.2.2.2.2.2
    have hop2 := opensC_le s0 kb nb
    refine w_65_22 sg s hs kb nb hkb 1 (nI y) ?_
    rw [htop, show (1000000 : Int32) = nI 1000000 from rfl, show (1024 : Int32) = nI 1024 from rfl, nI_1]
    refine ⟨fun q => absurd ((nI_leI (by decide) (by omega)).mp q) (by omega), fun _ => ⟨fun q => absurd q (by decide), fun _ => ?_⟩⟩
    cases qs with
    | nil =>
      refine ⟨fun _ => ⟨fun q => absurd q (by decide), fun _ => ⟨fun q => absurd rfl q, fun _ => ?_⟩⟩, fun q => absurd (by decide) q⟩
      refine hP 1 bs sg ⟨hw, ⟨rk, hok⟩, hext, hbd, ⟨l, hsn, by omega⟩, Or.inl ⟨rfl, fun th => ?_, hbs, y, hzz⟩⟩
      rw [hsol th]
      simp
    | cons q qs =>
      obtain ⟨x0, y0⟩ := q
      have hq1 : D x0 := (hqs (x0, y0) List.mem_cons_self).1
      have hq2 : D y0 := (hqs (x0, y0) List.mem_cons_self).2
      have hqs2 : ∀ q ∈ qs, D q.1 ∧ D q.2 := fun q hq => hqs q (List.mem_cons_of_mem _ hq)
      have hl1 : (flat qs).length = 2 * qs.length := flat_len qs
      simp only [List.length_cons] at hlen htop ⊢
      refine ⟨fun q => absurd ((nI_leI (b := 1) (by omega) (by decide)).mp q) (by omega), fun _ => ⟨fun q => absurd ((nI_ltI (by decide) (by omega)).mp q) (by omega), fun _ => ?_⟩⟩
      have e2 : nI (2 * (qs.length + 1)) - 2 = nI (2 * qs.length) := by
        rw [show (2 : Int32) = nI 2 from rfl, pk_sub (by omega), show 2 * (qs.length + 1) - 2 = 2 * qs.length by omega]
      rw [e2, nI_clamp (by omega)]
      have g1 : sg 2 (2 * qs.length) = nI x0 := by have := hpil.2.1; rw [hl1] at this; exact this
      have g2 : sg 2 (2 * qs.length + 1) = nI y0 := by have := hpil.1; simp only [List.length_cons, hl1] at this; exact this
      rw [g1]
      refine ⟨rIn_nI (by omega) (by decide), ?_⟩
      -- the store with one less on the stack
      generalize es1 : up2 sg 1 5 (nI (2 * qs.length)) = s1
      have f1 : ∀ k, k ≠ 1 → s1 k = sg k := fun k hk => by rw [← es1, up2_nk _ _ _ hk]
      have f2 : ∀ j, j ≠ 5 → s1 1 j = sg 1 j := fun j hj => by rw [← es1, up2_nj _ _ _ hj]
      have p1 : s1 1 5 = nI (2 * qs.length) := by rw [← es1, up2_same]
      have V1 : cV s1 s kb nb = cV sg s kb nb := cV_ext (f1 _ (by omega)) (f1 _ (by omega))
      have hw1 : cWG s1 s kb nb np D := (cWG_ext (f1 _ (by omega)) (f1 _ (by omega))).mpr hw
      have hok1 : vOK (cV s1 s kb nb) D rk := V1 ▸ hok
      have op1 : opensC s1 kb nb = opensC sg kb nb := by unfold opensC; rw [f1 kb (by omega)]
      have hbd1 : cBd s0 s1 kb nb bs := ⟨fun k g h => by rw [f1 k (by omega)]; exact hbd.1 k g h, by rw [f2 6 (by decide)]; exact hbd.2.1, pilk_ext (fun j _ => by rw [f1 4 (by decide)]) hbd.2.2.1, fun v hv => by rw [f1 kb (by omega)]; exact hbd.2.2.2.1 v hv, fun j hj hb => by rw [f1 kb (by omega)]; exact hbd.2.2.2.2.1 j hj hb, by rw [op1]; exact hop⟩
      have hsn1 : cSn s1 l := ⟨by rw [f2 4 (by decide)]; exact hsn.1, fun j hj => by rw [f1 5 (by decide)]; exact hsn.2 j hj⟩
      have pil1 : pilk 2 s1 (flat qs) := pilk_ext (fun j _ => by rw [f1 2 (by decide)]) hpil.2.2
      refine (cG_walk hkb hw1 hok1 hq1).imp ?_
      rintro _ s9 ⟨e9, x, rfl, hx, rx, wx⟩
      rw [e9, p1, nI_1, nI_clamp (by omega), f1 2 (by decide), g2]
      refine ⟨_, rfl, rIn_nI (by omega) (by decide), ?_⟩
      refine (cG_walk hkb hw1 hok1 hq2).imp ?_
      rintro _ s8 ⟨e8, yy, rfl, hy, ry, wy⟩
      rw [e8]
      rw [V1] at rx wx ry wy
      have hxl := cWG_lt hw hx
      have hyl := cWG_lt hw hy
      have hch0 := hch hh hht
      have hhx := wx.2.1 hh hht
      have hhy := wy.2.1 hh hht
      have hhx0 : hh x0 + qs.length ≤ hh a0 := hch0.1
      have hhy0 : hh y0 + qs.length ≤ hh b0 := hch0.2.1
      refine ⟨_, rfl, fun h1 => ?_, fun h1 => ?_⟩
      · have hne : x ≠ yy := fun q => h1 (by rw [q])
        -- a binding
        have bind : ∀ i c, ((i = x ∧ c = yy) ∨ (i = yy ∧ c = x)) → i < 128 → D i → D c → i ≠ c → vRes (cV sg s kb nb) i → vRes (cV sg s kb nb) c → hh c ≤ 1000 →
            EvS rSkel 3 67 [.inr (.inr (some 1)), .inr (.inr (some s)), .inr (.inr (some kb)), .inl (nI i), .inl (nI c)] s1 (fun v82 t83 => ∃ n85, v82 = some (.inl n85) ∧ (¬ n85 = 0 → g_65_22 s kb nb 0 (nI (y + 1)) t83 P) ∧ (¬ (¬ n85 = 0) → EvS rSkel 1 68 [.inr (.inr (some 1)), .inr (.inr (some kb)), .inl (nI i), .inl (nI c)] t83 (fun v87 t88 => ∃ n90, v87 = some (.inl n90) ∧ (n90 = 0 → g_65_22 s kb nb 0 (nI (y + 1)) t88 P) ∧ (¬ (n90 = 0) → g_65_22 s kb nb 1 (nI (y + 1)) t88 P)))) := by
          intro i c hic hi128 hiD hcD hnic ri rc hhc
          have hinb : i < nb := by have hicd := hw.2.2.1 i hiD; unfold cD cF at hicd; omega
          have ho : cV sg s kb nb i = none := by
            rcases cG_var hw hiD hinb with ⟨_, q⟩ | ⟨e, _, _, q⟩
            · exact q
            · exact absurd q (ri e)
          have hclt := cWG_lt hw hcD
          refine (cG_isIn hs hkb hw1 hok1 (V1 ▸ hht) hB (V1 ▸ hz) hhc hinb (by rw [V1]; exact ho) hcD hsn1 (by omega)).imp ?_
          rw [V1]
          rintro _ s3 ⟨h, k1, k2, sn3⟩
          have f3 : ∀ k, (k = 0 ∨ 5 < k) → s3 k = sg k := fun k hk => by rw [k1 k (by omega) (by omega) (by omega), f1 k (by omega)]
          have V3 : cV s3 s kb nb = cV sg s kb nb := cV_ext (f3 _ (by omega)) (f3 _ (by omega))
          have hw3 : cWG s3 s kb nb np D := (cWG_ext (f3 _ (by omega)) (f3 _ (by omega))).mpr hw
          have op3 : opensC s3 kb nb = opensC sg kb nb := by unfold opensC; rw [f3 kb (by omega)]
          have hbd3 : cBd s0 s3 kb nb bs := ⟨fun k g h => by rw [f3 k g]; exact hbd.1 k g h, by rw [k2 6 (by decide)]; exact hbd1.2.1, pilk_ext (fun j _ => by rw [k1 4 (by decide) (by decide) (by decide)]) hbd1.2.2.1, fun v hv => by rw [f3 kb (by omega)]; exact hbd.2.2.2.1 v hv, fun j hj hb => by rw [f3 kb (by omega)]; exact hbd.2.2.2.2.1 j hj hb, by rw [op3]; exact hop⟩
          have hxy : ∀ th, vSol (cV sg s kb nb) D th → (th x0 = th y0 ↔ th i = th c) := fun th h => by
            rw [wx.1 th h, wy.1 th h]
            rcases hic with ⟨rfl, rfl⟩ | ⟨rfl, rfl⟩
            · exact Iff.rfl
            · exact ⟨Eq.symm, Eq.symm⟩
          rcases h with ⟨rfl, hr⟩ | ⟨rfl, hr⟩
          · refine ⟨1, rfl, fun _ => c_fail hs hkb ?_, fun q => absurd (by decide) q⟩
            refine hP 0 bs s3 ⟨hw3, ⟨rk, V3 ▸ hok⟩, by rw [V3]; exact hext, hbd3, ⟨l + 1, sn3, by omega⟩, Or.inr (Or.inl ⟨rfl, fun th h0 q => ?_⟩)⟩
            have h5 := (hsol th).mp ⟨h0, q⟩
            have h6 : th x0 = th y0 := h5.2 (x0, y0) List.mem_cons_self
            have h7 := (hxy th h5.1).mp h6
            rcases hr.inv with e | ⟨e, he, _⟩ | ⟨a, b, hp2, _⟩
            · exact hnic e.symm
            · exact rc e he
            · have := vSol_lt hok h5.1 hcD hp2 hr (Ne.symm hnic); omega
          · refine ⟨0, rfl, fun q => absurd rfl q, fun _ => ?_⟩
            have hoi : sg kb i = -1 := (cG_open hw hiD ho).2
            have hnbi : i ∉ bs := fun q => (hbd.2.2.2.1 _ q).2.2 hoi
            have hop4 : 0 < opensC sg kb nb := List.countP_pos_iff.mpr ⟨i, List.mem_range.mpr hinb, by simp [hoi]⟩
            refine (c_binds s3 hkb (by omega) (nI c) hinb hbd3.2.1 (by omega)).imp ?_
            rintro _ s4 ⟨rfl, q1, q2, q3, q4, q5, q6⟩
            refine ⟨1, rfl, fun q => absurd q (by decide), fun _ => ?_⟩
            have k3 : s4 (s + 3) = sg (s + 3) := by rw [q1 _ (by omega) (by omega) (by omega), f3 _ (by omega)]
            have k4 : s4 kb = upd (sg kb) i (nI c) := by rw [q4, f3 kb (by omega)]
            have V4 : cV s4 s kb nb = vB (cV sg s kb nb) i c := cG_bind hw k3 k4 hinb hcD
            have hw4 := cWG_bind k3 k4 hcD hw
            have op4 := opensC_bind hinb hoi k4 (by omega)
            obtain ⟨rk2, hok2⟩ := vOK_bind ho hok hcD hr
            refine ih (y + 1) s4 qs (i :: bs) (l + 1) (by omega) hw4 ⟨rk2, V4 ▸ hok2⟩ (by rw [V4]; exact hext.bind ho) (pilk_ext (fun j _ => by rw [q1 2 (by decide) (by decide) (by omega), k1 2 (by decide) (by decide) (by decide)]) pil1) (by rw [q2 5 (by decide), k2 5 (by decide)]; exact p1) hqs2 (fun h9 h8 => (hch h9 (vHt_bind ho (V4 ▸ h8))).2.2) (by rw [V4]; exact uRun_step hzz ⟨x0, y0, x, yy, qs, rfl, ⟨hq1, hq2, hx, hy⟩, ⟨wx, wy, rx, ry⟩, Or.inr (Or.inl ⟨i, c, hic, hnic, ho, hr, rfl, rfl⟩)⟩) (fun th => ?_) ⟨fun k g h => by rw [q1 k (by omega) (by omega) h]; exact hbd3.1 k g h, q3, ⟨q5, pilk_ext (fun j hj => q6 j (by omega)) hbd3.2.2.1⟩, ?_, ?_, ?_⟩ ⟨by rw [q2 4 (by decide)]; exact sn3.1, fun j hj => by rw [q1 5 (by decide) (by decide) (by omega)]; exact sn3.2 j hj⟩ (by simp only [List.length_cons]; omega) (Or.inr ?_)
            · rw [hsol th, V4, vSol_bind ho hiD]
              constructor
              · intro h
                exact ⟨⟨h.1, (hxy th h.1).mp (h.2 (x0, y0) List.mem_cons_self)⟩, fun q hq => h.2 q (List.mem_cons_of_mem _ hq)⟩
              · rintro ⟨⟨h3, h4⟩, h5⟩
                refine ⟨h3, fun q hq => ?_⟩
                rcases List.mem_cons.mp hq with rfl | hq
                · exact (hxy th h3).mpr h4
                · exact h5 q hq
            · intro v hv
              rcases List.mem_cons.mp hv with rfl | hv
              · refine ⟨hinb, ?_, ?_⟩
                · rw [← hbd.2.2.2.2.1 v hinb hnbi]
                  exact hoi
                · rw [k4, show upd (sg kb) v (nI c) v = nI c from if_pos rfl]
                  exact nI_nem1 (by omega)
              · have h0 := hbd.2.2.2.1 v hv
                refine ⟨h0.1, h0.2.1, ?_⟩
                rw [k4, show upd (sg kb) i (nI c) v = sg kb v from if_neg (fun (q : v = i) => hnbi (by rw [← q]; exact hv))]
                exact h0.2.2
            · intro j hj hjb
              rw [k4, show upd (sg kb) i (nI c) j = sg kb j from if_neg (fun q => hjb (by rw [q]; exact List.mem_cons_self))]
              exact hbd.2.2.2.2.1 j hj (fun q => hjb (List.mem_cons_of_mem _ q))
            · simp only [List.length_cons]
              omega
            · rcases hbs with rfl | hbs
              · have Vs : cV sg s kb nb = cV s0 s kb nb := mV_sameC (hbd.1 _ (by omega) (Ne.symm hks)) (fun j hj => hbd.2.2.2.2.1 j hj (by simp))
                obtain ⟨th, h3, h4⟩ := vSol_other hok ho hr
                refine ⟨th, Vs ▸ h3, fun q => h4 ?_⟩
                have h5 : th x0 = th y0 := ((hsol th).mp ⟨Vs ▸ h3, q⟩).2 (x0, y0) List.mem_cons_self
                exact (hxy th h3).mp h5
              · exact hbs
        -- they can't be the same
        have fail : (∀ th, vSol (cV sg s kb nb) D th → th x ≠ th yy) → g_65_22 s kb nb 0 (nI (y + 1)) s1 P := by
          intro hno
          refine c_fail hs hkb (hP 0 bs s1 ⟨hw1, ⟨rk, hok1⟩, by rw [V1]; exact hext, hbd1, ⟨l, hsn1, by omega⟩, Or.inr (Or.inl ⟨rfl, fun th h0 q => ?_⟩)⟩)
          have h5 := (hsol th).mp ⟨h0, q⟩
          have h6 : th x0 = th y0 := h5.2 (x0, y0) List.mem_cons_self
          rw [wx.1 th h5.1, wy.1 th h5.1] at h6
          exact hno th h5.1 h6
        refine (c_isVar s1 (by omega)).imp ?_
        rintro _ s7 ⟨rfl, e7⟩
        rw [e7]
        refine ⟨_, rfl, fun h2 => ?_, fun h2 => ?_⟩
        · have hx128 : ¬ x < 128 := fun q => by rw [if_pos q] at h2; exact absurd h2 (by decide)
          refine (c_isVar s1 (by omega)).imp ?_
          rintro _ s6 ⟨rfl, e6⟩
          rw [e6]
          refine ⟨_, rfl, fun h3 => ?_, fun h3 => ?_⟩
          · have hy128 : ¬ yy < 128 := fun q => by rw [if_pos q] at h3; exact absurd h3 (by decide)
            have val : ∀ c, D c → ¬ c < 128 → ∀ th, vSol (cV sg s kb nb) D th → (c < 256 ∧ th c = c - 128 ∧ c < 139) ∨ (256 ≤ c ∧ 11 < th c) := by
              intro c hc hn th h
              by_cases q : c < 256
              · refine Or.inl ⟨q, (h c hc).2.1 _ (cV_atom (by omega) q), ?_⟩
                have hcd := hw.2.2.1 c hc
                unfold cD cF at hcd
                omega
              · obtain ⟨a, b, hv, _⟩ := cG_half hs hw (show 256 ≤ c by omega) hc
                refine Or.inr ⟨by omega, ?_⟩
                rw [(h c hc).2.2 _ _ hv]
                exact nd_big _ _
            refine (c_isPair s1 (by omega)).imp ?_
            rintro _ s5 ⟨rfl, e5⟩
            rw [e5]
            refine ⟨_, rfl, fun h4 => ?_, fun h4 => ?_⟩
            · have hx256 : x < 256 := by
                by_cases q : x < 256
                · exact q
                · rw [if_neg q] at h4; exact absurd h4 (by decide)
              refine fail (fun th h => ?_)
              have v1 := val x hx hx128 th h
              have v2 := val yy hy hy128 th h
              omega
            · have hx256 : ¬ x < 256 := fun q => by rw [if_pos q] at h4; exact absurd rfl h4
              refine (c_isPair s1 (by omega)).imp ?_
              rintro _ s5 ⟨rfl, e5⟩
              rw [e5]
              refine ⟨_, rfl, fun h5 => ?_, fun h5 => ?_⟩
              · have hy256 : yy < 256 := by
                  by_cases q : yy < 256
                  · exact q
                  · rw [if_neg q] at h5; exact absurd h5 (by decide)
                refine fail (fun th h => ?_)
                have v1 := val x hx hx128 th h
                have v2 := val yy hy hy128 th h
                omega
              · have hy256 : ¬ yy < 256 := fun q => by rw [if_pos q] at h5; exact absurd rfl h5
                obtain ⟨a, b, hvx, da, db, hevx⟩ := cG_half hs hw (show 256 ≤ x by omega) hx
                obtain ⟨c, d, hvy, dc, dd, hevy⟩ := cG_half hs hw (show 256 ≤ yy by omega) hy
                have e3 : s1 (s + 3) = sg (s + 3) := f1 _ (by omega)
                refine ((hevx s1 e3).2).imp ?_
                rintro _ t1 ⟨rfl, q1⟩
                rw [q1]
                refine ⟨_, rfl, ((hevy s1 e3).2).imp ?_⟩
                rintro _ t2 ⟨rfl, q2⟩
                rw [q2]
                refine ⟨_, rfl, (c_push s1 (nI b) (nI d) p1 (by omega)).imp ?_⟩
                rintro _ t3 ⟨rfl, u1, u2, u3, u4, u5, u6⟩
                refine ⟨1, rfl, fun q => absurd q (by decide), fun _ => ?_⟩
                have e4 : t3 (s + 3) = sg (s + 3) := by rw [u1 _ (by omega) (by omega)]; exact e3
                refine ((hevx t3 e4).1).imp ?_
                rintro _ t4 ⟨rfl, q4⟩
                rw [q4]
                refine ⟨_, rfl, ((hevy t3 e4).1).imp ?_⟩
                rintro _ t5 ⟨rfl, q5⟩
                rw [q5]
                refine ⟨_, rfl, (c_push t3 (nI a) (nI c) u3 (by omega)).imp ?_⟩
                rintro _ t6 ⟨rfl, w1, w2, w3, w4, w5, w6⟩
                refine ⟨1, rfl, fun q => absurd q (by decide), fun _ => ?_⟩
                have f6 : ∀ k, k ≠ 1 → k ≠ 2 → t6 k = sg k := fun k g h => by rw [w1 k g h, u1 k g h, f1 k g]
                have f6j : ∀ j, j ≠ 5 → t6 1 j = sg 1 j := fun j h => by rw [w2 j h, u2 j h, f2 j h]
                have V6 : cV t6 s kb nb = cV sg s kb nb := cV_ext (f6 _ (by omega) (by omega)) (f6 _ (by omega) (by omega))
                have op6 : opensC t6 kb nb = opensC sg kb nb := by unfold opensC; rw [f6 kb (by omega) (by omega)]
                refine ih (y + 1) t6 ((a, c) :: (b, d) :: qs) bs l (by omega) ((cWG_ext (f6 _ (by omega) (by omega)) (f6 _ (by omega) (by omega))).mpr hw) ⟨rk, V6 ▸ hok⟩ (by rw [V6]; exact hext) ⟨?_, ?_, ?_, ?_, pilk_ext (fun j hj => by rw [hl1] at hj; rw [w6 j (by omega), u6 j (by omega)]) pil1⟩ (by rw [w3]; simp only [List.length_cons]; congr 1) ?_ (fun h9 h8 => ?_) (by rw [V6]; exact uRun_step hzz ⟨x0, y0, x, yy, qs, rfl, ⟨hq1, hq2, hx, hy⟩, ⟨wx, wy, rx, ry⟩, Or.inr (Or.inr ⟨a, b, c, d, hne, hvx, hvy, rfl, rfl⟩)⟩) (fun th => ?_) ⟨fun k g h => by rw [f6 k (by omega) (by omega)]; exact hbd.1 k g h, by rw [f6j 6 (by decide)]; exact hbd.2.1, pilk_ext (fun j _ => by rw [f6 4 (by decide) (by decide)]) hbd.2.2.1, fun v hv => by rw [f6 kb (by omega) (by omega)]; exact hbd.2.2.2.1 v hv, fun j hj hb => by rw [f6 kb (by omega) (by omega)]; exact hbd.2.2.2.2.1 j hj hb, by rw [op6]; exact hop⟩ ⟨by rw [f6j 4 (by decide)]; exact hsn.1, fun j hj => by rw [f6 5 (by decide) (by decide)]; exact hsn.2 j hj⟩ hll hbs
                · simp only [List.length_cons, hl1, flat]; exact w5
                · simp only [List.length_cons, hl1, flat]; exact w4
                · simp only [List.length_cons, hl1, flat]; rw [w6 _ (by omega)]; exact u5
                · simp only [hl1]; rw [w6 _ (by omega)]; exact u4
                · intro q hq
                  rcases List.mem_cons.mp hq with rfl | hq
                  · exact ⟨da, dc⟩
                  · rcases List.mem_cons.mp hq with rfl | hq
                    · exact ⟨db, dd⟩
                    · exact hqs2 q hq
                · rw [V6] at h8
                  have h0 := hch h9 h8
                  have hx9 := wx.2.1 h9 h8
                  have hy9 := wy.2.1 h9 h8
                  have hab9 := (h8 x hx).2 a b hvx
                  have hcd9 := (h8 yy hy).2 c d hvy
                  have z1 : h9 x0 + qs.length ≤ h9 a0 := h0.1
                  have z2 : h9 y0 + qs.length ≤ h9 b0 := h0.2.1
                  exact ⟨by simp only [List.length_cons]; omega, by simp only [List.length_cons]; omega, by simp only []; omega, by simp only []; omega, h0.2.2⟩
                · rw [hsol th, V6]
                  have key : vSol (cV sg s kb nb) D th → (th x0 = th y0 ↔ th a = th c ∧ th b = th d) := by
                    intro h
                    rw [wx.1 th h, wy.1 th h, (h x hx).2.2 a b hvx, (h yy hy).2.2 c d hvy]
                    constructor
                    · exact fun q => nd_inj q
                    · rintro ⟨q1, q2⟩
                      rw [q1, q2]
                  constructor
                  · intro h
                    have := (key h.1).mp (h.2 (x0, y0) List.mem_cons_self)
                    refine ⟨h.1, fun q hq => ?_⟩
                    rcases List.mem_cons.mp hq with rfl | hq
                    · exact this.1
                    · rcases List.mem_cons.mp hq with rfl | hq
                      · exact this.2
                      · exact h.2 q (List.mem_cons_of_mem _ hq)
                  · intro h
                    refine ⟨h.1, fun q hq => ?_⟩
                    rcases List.mem_cons.mp hq with rfl | hq
                    · exact (key h.1).mpr ⟨h.2 (a, c) (by simp), h.2 (b, d) (by simp)⟩
                    · exact h.2 q (by simp [hq])
          · have hy128 : yy < 128 := by
              by_cases q : yy < 128
              · exact q
              · rw [if_neg q] at h3; exact absurd rfl h3
            exact bind yy x (Or.inr ⟨rfl, rfl⟩) hy128 hy hx (Ne.symm hne) ry rx (by omega)
        · have hx128 : x < 128 := by
            by_cases q : x < 128
            · exact q
            · rw [if_neg q] at h2; exact absurd rfl h2
          exact bind x yy (Or.inl ⟨rfl, rfl⟩) hx128 hx hy hne rx ry (by omega)
      · have hxy : x = yy := (nI_eq (by omega) (by omega)).mp (Classical.not_not.mp h1)
        refine ih (y + 1) s1 qs bs l (by omega) hw1 ⟨rk, hok1⟩ (by rw [V1]; exact hext) pil1 p1 hqs2 (fun h9 h8 => (hch h9 (V1 ▸ h8)).2.2) (by rw [V1]; exact uRun_step hzz ⟨x0, y0, x, yy, qs, rfl, ⟨hq1, hq2, hx, hy⟩, ⟨wx, wy, rx, ry⟩, Or.inl ⟨hxy, rfl, rfl⟩⟩) (fun th => ?_) hbd1 hsn1 hll hbs
        · rw [hsol th, V1]
          constructor
          · exact fun h => ⟨h.1, fun q hq => h.2 q (List.mem_cons_of_mem _ hq)⟩
          · refine fun h => ⟨h.1, fun q hq => ?_⟩
            rcases List.mem_cons.mp hq with rfl | hq
            · show th x0 = th y0
              rw [wx.1 th h.1, wy.1 th h.1, hxy]
            · exact h.2 q hq
theorem cG_unify {s0 : rSg} {s kb nb np a b l : Nat} (hs : isScr s) (hkb : isArr kb nb) (hks : kb ≠ s + 3) {D : Nat → Prop} (hw : cWG s0 s kb nb np D) (hrk : ∃ rk, vOK (cV s0 s kb nb) D rk) (hl : cSn s0 l) (hl0 : l + 300 < 2 ^ 32) (ha : D a) (hb : D b) (hsm : cLow (cV s0 s kb nb) D a b) {B : Nat} {z : Nat → Nat} (hB : B ≤ 7000) (hz0 : dSz (cV s0 s kb nb) D B z) : EvS rSkel 4 65 [.inr (.inr (some 1)), .inr (.inr (some s)), .inr (.inr (some kb)), .inl (nI a), .inl (nI b)] s0 (fun r s2 => ∃ x bs, r = some (.inl x) ∧ cUnG s0 s2 s kb nb np D a b l x bs) := by
  have b_kb := hkb.1
  have b_s := hs.1
  refine w_65 s0 s hs kb nb hkb (nI a) (nI b) ((c_push (up2 (up2 s0 1 5 0) 1 6 0) (w := 0) (nI a) (nI b) (by rw [up2_nj _ _ _ (by decide), up2_same]; rfl) (by decide)).imp ?_)
  rintro _ s1 ⟨rfl, u1, u2, u3, u4, u5, u6⟩
  refine ⟨1, rfl, ?_⟩
  have f1 : ∀ k, k ≠ 1 → k ≠ 2 → s1 k = s0 k := fun k g h => by rw [u1 k g h, up2_nk _ _ _ g, up2_nk _ _ _ g]
  have f2 : ∀ j, j ≠ 5 → j ≠ 6 → s1 1 j = s0 1 j := fun j g h => by rw [u2 j g, up2_nj _ _ _ h, up2_nj _ _ _ g]
  have V1 : cV s1 s kb nb = cV s0 s kb nb := cV_ext (f1 _ (by omega) (by omega)) (f1 _ (by omega) (by omega))
  have op : opensC s1 kb nb = opensC s0 kb nb := by unfold opensC; rw [f1 kb (by omega) (by omega)]
  obtain ⟨rk, hok⟩ := hrk
  refine cG_unify_loop hs hkb hks hl0 hsm hB hz0 (fun x bs s2 h => ⟨x, bs, rfl, h⟩) 1000000 0 s1 [(a, b)] [] l (by decide) ((cWG_ext (f1 _ (by omega) (by omega)) (f1 _ (by omega) (by omega))).mpr hw) ⟨rk, V1 ▸ hok⟩ (by rw [V1]; exact vExt.rfl') ⟨u5, u4, trivial⟩ u3 ?_ (fun h9 _ => ⟨by simp, by simp, trivial⟩) (by rw [V1]; exact ⟨rfl, rfl⟩) (fun th => ?_) ⟨fun k g h => f1 k (by omega) (by omega), by rw [u2 6 (by decide), up2_same]; rfl, trivial, fun v hv => (by cases hv), fun j _ _ => by rw [f1 kb (by omega) (by omega)], by rw [op]; simp⟩ ⟨by rw [f2 4 (by decide) (by decide)]; exact hl.1, fun j hj => by rw [f1 5 (by decide) (by decide)]; exact hl.2 j hj⟩ (by simp) (Or.inl rfl)
  · intro q hq
    rcases List.mem_cons.mp hq with rfl | hq
    · exact ⟨ha, hb⟩
    · cases hq
  · rw [V1]
    simp
