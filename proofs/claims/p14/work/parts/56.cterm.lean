/-! THE CLASS's TERMS -/
def sec (c : Nat) : Nat := if 256 ≤ c then c + 1024 else if c < 128 then c + 64 else c
/-- a code of what a script has, with np pairs -/
def cF (np c : Nat) : Prop := c < 64 ∨ (128 ≤ c ∧ c < 139) ∨ (256 ≤ c ∧ c < 256 + np)
def cD (nb np : Nat) (c : Nat) : Prop := cF np c ∨ (nb = 128 ∧ ((64 ≤ c ∧ c < 128) ∨ (1280 ≤ c ∧ c < 1280 + np)))
def cV (sg : rSg) (s kb nb : Nat) (c : Nat) : TV := if c < 128 then (if c < nb ∧ ¬ sg kb c = -1 then some (.inl (sg kb c).toNatClampNeg) else none) else if c < 256 then some (.inr (.inl (c - 128))) else if c < 1280 then some (.inr (.inr ((sg (s + 3) (2 * (c - 256))).toNatClampNeg, (sg (s + 3) (2 * (c - 256) + 1)).toNatClampNeg))) else some (.inr (.inr (sec (sg (s + 3) (2 * (c - 1280))).toNatClampNeg, sec (sg (s + 3) (2 * (c - 1280) + 1)).toNatClampNeg)))
def cWF (sg : rSg) (s kb nb np : Nat) : Prop := (nb = 64 ∨ nb = 128) ∧ np ≤ 640 ∧ (∀ j, j < 2 * np → ∃ a, sg (s + 3) j = nI a ∧ cF np a) ∧ (∀ i, i < nb → sg kb i = -1 ∨ ∃ c, sg kb i = nI c ∧ cD nb np c)
theorem cF_lt {np c : Nat} (h : cF np c) (hn : np ≤ 640) : c < 896 := by unfold cF at h; omega
theorem cD_lt {nb np c : Nat} (h : cD nb np c) (hn : np ≤ 640) : c < 1920 := by unfold cD cF at h; omega
theorem cD_sec {np c : Nat} (h : cF np c) (hn : np ≤ 640) : cD 128 np (sec c) := by
  unfold cF at h
  unfold cD sec cF
  by_cases h1 : 256 ≤ c
  · rw [if_pos h1]; omega
  · rw [if_neg h1]
    by_cases h2 : c < 128
    · rw [if_pos h2]; omega
    · rw [if_neg h2]; omega
theorem nI_nem1 {c : Nat} (h : c < 2 ^ 31) : nI c ≠ -1 := by
  intro q
  have h1 := nI_pos h
  rw [q] at h1
  exact h1 (by decide)
theorem cV_var {sg : rSg} {s kb nb np : Nat} (hw : cWF sg s kb nb np) {c : Nat} (h : c < nb) : (sg kb c = -1 ∧ cV sg s kb nb c = none) ∨ ∃ e, cD nb np e ∧ sg kb c = nI e ∧ cV sg s kb nb c = some (.inl e) := by
  have hnb : nb ≤ 128 := by have := hw.1; omega
  unfold cV
  rw [if_pos (by omega)]
  rcases hw.2.2.2 c h with q | ⟨e, q, he⟩
  · exact Or.inl ⟨q, by rw [if_neg (by rw [q]; exact fun x => x.2 rfl)]⟩
  · have := cD_lt he hw.2.1
    exact Or.inr ⟨e, he, q, by rw [q, if_pos ⟨h, nI_nem1 (by omega)⟩, nI_clamp (by omega)]⟩
theorem cV_atom {sg : rSg} {s kb nb c : Nat} (h1 : 128 ≤ c) (h2 : c < 256) : cV sg s kb nb c = some (.inr (.inl (c - 128))) := by
  unfold cV
  rw [if_neg (by omega), if_pos h2]
theorem cV_pair1 {sg : rSg} {s kb nb np : Nat} (hw : cWF sg s kb nb np) {c : Nat} (h1 : 256 ≤ c) (h2 : c < 256 + np) : ∃ a b, sg (s + 3) (2 * (c - 256)) = nI a ∧ sg (s + 3) (2 * (c - 256) + 1) = nI b ∧ cF np a ∧ cF np b ∧ cV sg s kb nb c = some (.inr (.inr (a, b))) := by
  have hn := hw.2.1
  obtain ⟨a, ha, fa⟩ := hw.2.2.1 (2 * (c - 256)) (by omega)
  obtain ⟨b, hb, fb⟩ := hw.2.2.1 (2 * (c - 256) + 1) (by omega)
  have := cF_lt fa hn
  have := cF_lt fb hn
  refine ⟨a, b, ha, hb, fa, fb, ?_⟩
  unfold cV
  rw [if_neg (by omega), if_neg (by omega), if_pos (by omega), ha, hb, nI_clamp (by omega), nI_clamp (by omega)]
theorem cV_pair2 {sg : rSg} {s kb nb np : Nat} (hw : cWF sg s kb nb np) {c : Nat} (h1 : 1280 ≤ c) (h2 : c < 1280 + np) : ∃ a b, sg (s + 3) (2 * (c - 1280)) = nI a ∧ sg (s + 3) (2 * (c - 1280) + 1) = nI b ∧ cF np a ∧ cF np b ∧ cV sg s kb nb c = some (.inr (.inr (sec a, sec b))) := by
  have hn := hw.2.1
  obtain ⟨a, ha, fa⟩ := hw.2.2.1 (2 * (c - 1280)) (by omega)
  obtain ⟨b, hb, fb⟩ := hw.2.2.1 (2 * (c - 1280) + 1) (by omega)
  have := cF_lt fa hn
  have := cF_lt fb hn
  refine ⟨a, b, ha, hb, fa, fb, ?_⟩
  unfold cV
  rw [if_neg (by omega), if_neg (by omega), if_neg (by omega), ha, hb, nI_clamp (by omega), nI_clamp (by omega)]
theorem cV_ext {sg s2 : rSg} {s kb nb : Nat} (h1 : s2 (s + 3) = sg (s + 3)) (h2 : s2 kb = sg kb) : cV s2 s kb nb = cV sg s kb nb := by
  funext c
  unfold cV
  rw [h1, h2]
theorem cWF_ext {sg s2 : rSg} {s kb nb np : Nat} (h1 : s2 (s + 3) = sg (s + 3)) (h2 : s2 kb = sg kb) : cWF s2 s kb nb np ↔ cWF sg s kb nb np := by
  unfold cWF
  rw [h1, h2]
theorem cV_open {sg : rSg} {s kb nb np : Nat} (hw : cWF sg s kb nb np) {c : Nat} (hD : cD nb np c) (h : cV sg s kb nb c = none) : c < nb ∧ sg kb c = -1 := by
  have hnb := hw.1
  by_cases h1 : c < nb
  · rcases cV_var hw h1 with ⟨q, _⟩ | ⟨e, _, _, q⟩
    · exact ⟨h1, q⟩
    · rw [q] at h; cases h
  · exfalso
    have h128 : 128 ≤ c := by unfold cD cF at hD; omega
    unfold cV at h
    rw [if_neg (by omega)] at h
    split at h
    · cases h
    · split at h <;> cases h
theorem cV_bind {sg s2 : rSg} {s kb nb np : Nat} (hw : cWF sg s kb nb np) {x c : Nat} (h1 : s2 (s + 3) = sg (s + 3)) (h3 : s2 kb = upd (sg kb) x (nI c)) (hx : x < nb) (hc : cD nb np c) : cV s2 s kb nb = vB (cV sg s kb nb) x c := by
  have hnb := hw.1
  have hcl := cD_lt hc hw.2.1
  funext y
  unfold vB
  by_cases hy : y = x
  · subst hy
    rw [if_pos rfl]
    unfold cV
    rw [if_pos (by omega), h3, show upd (sg kb) y (nI c) y = nI c from if_pos rfl, if_pos ⟨hx, nI_nem1 (by omega)⟩, nI_clamp (by omega)]
  · rw [if_neg hy]
    unfold cV
    rw [h1, h3, show upd (sg kb) x (nI c) y = sg kb y from if_neg hy]
theorem cWF_bind {sg s2 : rSg} {s kb nb np : Nat} {i c : Nat} (h1 : s2 (s + 3) = sg (s + 3)) (h3 : s2 kb = upd (sg kb) i (nI c)) (hc : cD nb np c) (hw : cWF sg s kb nb np) : cWF s2 s kb nb np := by
  refine ⟨hw.1, hw.2.1, by rw [h1]; exact hw.2.2.1, fun j hj => ?_⟩
  rw [h3]
  by_cases hji : j = i
  · subst hji
    exact Or.inr ⟨c, if_pos rfl, hc⟩
  · rw [show upd (sg kb) i (nI c) j = sg kb j from if_neg hji]
    exact hw.2.2.2 j hj
theorem c_isPair (sg : rSg) {c : Nat} (h : c < 2 ^ 31) : EvS rSkel 1 74 [.inl (nI c)] sg (fun v s2 => v = some (.inl (if c < 256 then 0 else 1)) ∧ s2 = sg) := by
  refine w_74 sg (nI c) ?_
  rw [show (256 : Int32) = nI 256 from rfl]
  refine ⟨fun q => ⟨by rw [if_pos ((nI_ltI h (by decide)).mp q)], rfl⟩, fun q => ⟨by rw [if_neg (fun q2 => q ((nI_ltI h (by decide)).mpr q2))], rfl⟩⟩
theorem c_isVar (sg : rSg) {c : Nat} (h : c < 2 ^ 31) : EvS rSkel 1 77 [.inl (nI c)] sg (fun v s2 => v = some (.inl (if c < 128 then 1 else 0)) ∧ s2 = sg) := by
  refine w_77 sg (nI c) ?_
  rw [show (128 : Int32) = nI 128 from rfl]
  refine ⟨fun q => absurd q (nI_pos h), fun _ => ⟨fun q => ⟨?_, rfl⟩, fun q => ⟨?_, rfl⟩⟩⟩
  · have := (nI_leI (by decide) h).mp q
    rw [if_neg (by omega)]
  · rw [if_pos]
    by_cases q2 : c < 128
    · exact q2
    · exact absurd ((nI_leI (by decide) h).mpr (by omega)) q
theorem c_sec (sg : rSg) {c : Nat} (h : c < 100000) : EvS rSkel 1 78 [.inl (nI c)] sg (fun v s2 => v = some (.inl (nI (sec c))) ∧ s2 = sg) := by
  refine w_78 sg (nI c) ?_
  rw [show (256 : Int32) = nI 256 from rfl, show (128 : Int32) = nI 128 from rfl, show (64 : Int32) = nI 64 from rfl, show (1280 : Int32) = nI 1280 from rfl, nI_add, nI_add, pk_sub (by omega)]
  unfold sec
  refine ⟨fun q => ⟨fun q2 => absurd q2 (nI_pos (by omega)), fun _ => ⟨fun q2 => ⟨?_, rfl⟩, fun q2 => ⟨?_, rfl⟩⟩⟩, fun q => ⟨?_, rfl⟩⟩
  · have h1 := (nI_ltI (by omega) (by decide)).mp q
    have h2 := (nI_leI (by decide) (by omega)).mp q2
    rw [if_neg (by omega), if_neg (by omega)]
  · have h1 := (nI_ltI (by omega) (by decide)).mp q
    have h2 : c < 128 := by
      by_cases q3 : c < 128
      · exact q3
      · exact absurd ((nI_leI (by decide) (by omega)).mpr (by omega)) q2
    rw [if_neg (by omega), if_pos h2]
  · have h1 : 256 ≤ c := by
      by_cases q3 : c < 256
      · exact absurd ((nI_ltI (by omega) (by decide)).mpr q3) q
      · omega
    rw [if_pos h1, show c + 1280 - 256 = c + 1024 by omega]
theorem c_half0 {sg : rSg} {s : Nat} (hs : isScr s) {j : Nat} (hj : j < 1280) {k z c : Nat} (hk : k < 2) (hz : z ≤ c) (hc : c < 100000) (hjc : 2 * (c - z) + k = j) {a : Nat} (ha : sg (s + 3) j = nI a) {P : Option rv → rSg → Prop} (hP : P (some (.inl (nI a))) sg) : g_30_28 s (nI k) 0 (nI z) (nI c) 2 sg P := by
  refine w_30_28 sg s hs _ _ _ _ _ ?_
  rw [pk_sub hz, nI_2, hjc, show (1 : Int32) = nI 1 from rfl, show Int32.ofNat 1280 = nI 1280 from rfl, nI_clamp (by omega), ha]
  refine ⟨fun q => absurd q (nI_pos (by omega)), fun _ => ⟨fun q => absurd ((nI_ltI (by decide) (by omega)).mp q) (by omega), fun _ => ⟨fun q => absurd q (nI_pos (by omega)), fun _ => ⟨fun _ => ⟨fun _ => ⟨rIn_nI hj (by decide), hP⟩, fun q => absurd rfl q⟩, fun q => absurd (nI_lt hj (by decide)) q⟩⟩⟩⟩
theorem c_half1 {sg : rSg} {s : Nat} (hs : isScr s) {j : Nat} (hj : j < 1280) {k z c : Nat} (hk : k < 2) (hz : z ≤ c) (hc : c < 100000) (hjc : 2 * (c - z) + k = j) {a : Nat} (ha : sg (s + 3) j = nI a) (ha9 : a < 100000) {P : Option rv → rSg → Prop} (hP : P (some (.inl (nI (sec a)))) sg) : g_30_28 s (nI k) 1 (nI z) (nI c) 2 sg P := by
  refine w_30_28 sg s hs _ _ _ _ _ ?_
  rw [pk_sub hz, nI_2, hjc, show (1 : Int32) = nI 1 from rfl, show Int32.ofNat 1280 = nI 1280 from rfl, nI_clamp (by omega), ha]
  refine ⟨fun q => absurd q (nI_pos (by omega)), fun _ => ⟨fun q => absurd ((nI_ltI (by decide) (by omega)).mp q) (by omega), fun _ => ⟨fun q => absurd q (nI_pos (by omega)), fun _ => ⟨fun _ => ⟨fun q => absurd q (by decide), fun _ => ⟨rIn_nI hj (by decide), (c_sec sg ha9).imp ?_⟩⟩, fun q => absurd (nI_lt hj (by decide)) q⟩⟩⟩⟩
  rintro _ s9 ⟨rfl, e9⟩
  rw [e9]
  exact ⟨_, rfl, hP⟩
/-- the halves of a pair -/
theorem c_half {sg : rSg} {s kb nb np : Nat} (hs : isScr s) (hw : cWF sg s kb nb np) {c : Nat} (h1 : 256 ≤ c) (hD : cD nb np c) : ∃ a b, cV sg s kb nb c = some (.inr (.inr (a, b))) ∧ cD nb np a ∧ cD nb np b ∧ (∀ s2 : rSg, s2 (s + 3) = sg (s + 3) → EvS rSkel 2 30 [.inr (.inr (some s)), .inl (nI c), .inl 0] s2 (fun v s3 => v = some (.inl (nI a)) ∧ s3 = s2) ∧ EvS rSkel 2 30 [.inr (.inr (some s)), .inl (nI c), .inl 1] s2 (fun v s3 => v = some (.inl (nI b)) ∧ s3 = s2)) := by
  have hn := hw.2.1
  have hcl := cD_lt hD hn
  by_cases h2 : c < 1280
  · have h3 : c < 256 + np := by unfold cD cF at hD; omega
    obtain ⟨a, b, ha, hb, fa, fb, hv⟩ := cV_pair1 hw h1 h3
    refine ⟨a, b, hv, Or.inl fa, Or.inl fb, fun s2 e2 => ⟨w_30 s2 s hs _ _ ⟨fun _ => ?_, fun q => absurd (nI_lt h2 (by decide)) q⟩, w_30 s2 s hs _ _ ⟨fun _ => ?_, fun q => absurd (nI_lt h2 (by decide)) q⟩⟩⟩
    · exact c_half0 hs (k := 0) (z := 256) (j := 2 * (c - 256)) (by omega) (by decide) h1 (by omega) (by omega) (by rw [e2]; exact ha) ⟨rfl, rfl⟩
    · exact c_half0 hs (k := 1) (z := 256) (j := 2 * (c - 256) + 1) (by omega) (by decide) h1 (by omega) (by omega) (by rw [e2]; exact hb) ⟨rfl, rfl⟩
  · have h3 : nb = 128 ∧ c < 1280 + np := by unfold cD cF at hD; omega
    obtain ⟨a, b, ha, hb, fa, fb, hv⟩ := cV_pair2 hw (show 1280 ≤ c by omega) h3.2
    have la := cF_lt fa hn
    have lb := cF_lt fb hn
    refine ⟨sec a, sec b, hv, by rw [h3.1]; exact cD_sec fa hn, by rw [h3.1]; exact cD_sec fb hn, fun s2 e2 => ⟨w_30 s2 s hs _ _ ⟨fun q => absurd ((nI_ltI (b := 1280) (by omega) (by decide)).mp q) h2, fun _ => ?_⟩, w_30 s2 s hs _ _ ⟨fun q => absurd ((nI_ltI (b := 1280) (by omega) (by decide)).mp q) h2, fun _ => ?_⟩⟩⟩
    · exact c_half1 hs (k := 0) (z := 1280) (j := 2 * (c - 1280)) (by omega) (by decide) (by omega) (by omega) (by omega) (by rw [e2]; exact ha) (by omega) ⟨rfl, rfl⟩
    · exact c_half1 hs (k := 1) (z := 1280) (j := 2 * (c - 1280) + 1) (by omega) (by decide) (by omega) (by omega) (by omega) (by rw [e2]; exact hb) (by omega) ⟨rfl, rfl⟩
/-- a walk: at most as many turns as there are variables -/
theorem c_walk_loop {sg : rSg} {s kb nb np : Nat} (hkb : isArr kb nb) (hw : cWF sg s kb nb np) {rk : Nat → Nat} (hok : vOK (cV sg s kb nb) (cD nb np) rk) {P : Option rv → rSg → Prop} : ∀ (n c y : Nat), (List.range nb).countP (fun v => decide (rk v ≤ rk c)) = n → y + n ≤ 128 → cD nb np c → (∀ c2, cD nb np c2 → vRes (cV sg s kb nb) c2 → wlk (cV sg s kb nb) (cD nb np) c c2 → P (some (.inl (nI c2))) sg) → g_76_4 kb nb (nI c) (nI y) sg P := by
  intro n
  induction n using Nat.strongRecOn with
  | ind n ih =>
    intro c y hcl hy hD hP
    have hnb := hw.1
    have hc := cD_lt hD hw.2.1
    have hres : ¬ c < nb → vRes (cV sg s kb nb) c := by
      intro h1 e he
      have h128 : 128 ≤ c := by unfold cD cF at hD; omega
      unfold cV at he
      rw [if_neg (by omega)] at he
      split at he
      · cases he
      · split at he <;> cases he
    refine w_76_4 sg kb nb hkb (nI c) (nI y) ?_
    rw [show (128 : Int32) = nI 128 from rfl, show Int32.ofNat nb = nI nb from rfl, nI_1]
    by_cases h1 : c < nb
    · have hself : 0 < n := by
        rw [← hcl]
        exact List.countP_pos_iff.mpr ⟨c, List.mem_range.mpr h1, by simp⟩
      refine ⟨fun q => absurd ((nI_leI (by decide) (by omega)).mp q) (by omega), fun _ => ⟨fun q => absurd q (nI_pos (by omega)), fun _ => ⟨fun q => absurd ((nI_leI (by decide) (by omega)).mp q) (by omega), fun _ => ⟨fun q => absurd ((nI_leI (by omega) (by omega)).mp q) (by omega), fun _ => ?_⟩⟩⟩⟩
      rw [nI_clamp (by omega)]
      refine ⟨rIn_nI h1 (by omega), ?_⟩
      rcases cV_var hw h1 with ⟨q, q2⟩ | ⟨e, he, q, q2⟩
      · exact ⟨fun h9 => absurd q h9, fun _ => hP c hD (fun e he => by rw [q2] at he; cases he) wlk.rfl'⟩
      · have hr := (hok c hD).1 e q2
        have := cD_lt he hw.2.1
        refine ⟨fun _ => ⟨rIn_nI h1 (by omega), ?_⟩, fun h9 => absurd (Classical.not_not.mp h9) (by rw [q]; exact nI_nem1 (by omega))⟩
        rw [q]
        have hlt : (List.range nb).countP (fun v => decide (rk v ≤ rk e)) < n := by
          rw [← hcl]
          exact countP_lt (fun x _ hx => by simp at hx ⊢; omega) ⟨c, List.mem_range.mpr h1, by simp, by simp; omega⟩
        exact ih _ hlt e (y + 1) rfl (by omega) he (fun c2 g1 g2 g3 => hP c2 g1 g2 (wlk.step hD q2 g3))
    · have fin := hP c hD (hres h1) wlk.rfl'
      exact ⟨fun _ => fin, fun _ => ⟨fun _ => fin, fun _ => ⟨fun _ => fin, fun _ => ⟨fun _ => fin, fun q => absurd (nI_le (by omega) (by omega)) q⟩⟩⟩⟩
theorem cw_walk {sg : rSg} {s kb nb np : Nat} (hkb : isArr kb nb) (hw : cWF sg s kb nb np) {rk : Nat → Nat} (hok : vOK (cV sg s kb nb) (cD nb np) rk) {c : Nat} (hD : cD nb np c) : EvS rSkel 1 76 [.inr (.inr (some kb)), .inl (nI c)] sg (fun v s2 => s2 = sg ∧ ∃ c2, v = some (.inl (nI c2)) ∧ cD nb np c2 ∧ vRes (cV sg s kb nb) c2 ∧ wlk (cV sg s kb nb) (cD nb np) c c2) := by
  have hnb := hw.1
  refine w_76 sg kb nb hkb (nI c) (c_walk_loop hkb hw hok _ c 0 rfl ?_ hD (fun c2 h1 h2 h3 => ⟨rfl, c2, rfl, h1, h2, h3⟩))
  have := List.countP_le_length (p := fun v => decide (rk v ≤ rk c)) (l := List.range nb)
  simp at this
  omega
