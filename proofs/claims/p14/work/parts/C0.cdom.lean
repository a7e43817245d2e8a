/-! THE CLASS's TERMS, over a domain of codes D: what a state may reach; rows of bindings and pairs outside it hold what they will -/
def cWG (sg : rSg) (s kb nb np : Nat) (D : Nat → Prop) : Prop := (nb = 64 ∨ nb = 128) ∧ np ≤ 640 ∧ (∀ c, D c → cD nb np c) ∧ (∀ c, D c → 256 ≤ c → c < 1280 → ∃ a b, sg (s + 3) (2 * (c - 256)) = nI a ∧ sg (s + 3) (2 * (c - 256) + 1) = nI b ∧ D a ∧ D b) ∧ (∀ c, D c → 1280 ≤ c → ∃ a b, sg (s + 3) (2 * (c - 1280)) = nI a ∧ sg (s + 3) (2 * (c - 1280) + 1) = nI b ∧ cF np a ∧ cF np b ∧ D (sec a) ∧ D (sec b)) ∧ (∀ i, D i → i < nb → sg kb i = -1 ∨ ∃ c, sg kb i = nI c ∧ D c)
theorem cWG_lt {sg : rSg} {s kb nb np : Nat} {D : Nat → Prop} (hw : cWG sg s kb nb np D) {c : Nat} (h : D c) : c < 1920 := cD_lt (hw.2.2.1 c h) hw.2.1
theorem cG_var {sg : rSg} {s kb nb np : Nat} {D : Nat → Prop} (hw : cWG sg s kb nb np D) {c : Nat} (hD : D c) (h : c < nb) : (sg kb c = -1 ∧ cV sg s kb nb c = none) ∨ ∃ e, D e ∧ sg kb c = nI e ∧ cV sg s kb nb c = some (.inl e) := by
  have hnb : nb ≤ 128 := by have := hw.1; omega
  unfold cV
  rw [if_pos (by omega)]
  rcases hw.2.2.2.2.2 c hD h with q | ⟨e, q, he⟩
  · exact Or.inl ⟨q, by rw [if_neg (by rw [q]; exact fun x => x.2 rfl)]⟩
  · have := cWG_lt hw he
    exact Or.inr ⟨e, he, q, by rw [q, if_pos ⟨h, nI_nem1 (by omega)⟩, nI_clamp (by omega)]⟩
theorem cWG_ext {sg s2 : rSg} {s kb nb np : Nat} {D : Nat → Prop} (h1 : s2 (s + 3) = sg (s + 3)) (h2 : s2 kb = sg kb) : cWG s2 s kb nb np D ↔ cWG sg s kb nb np D := by
  unfold cWG
  rw [h1, h2]
theorem cG_open {sg : rSg} {s kb nb np : Nat} {D : Nat → Prop} (hw : cWG sg s kb nb np D) {c : Nat} (hD : D c) (h : cV sg s kb nb c = none) : c < nb ∧ sg kb c = -1 := by
  have hnb := hw.1
  by_cases h1 : c < nb
  · rcases cG_var hw hD h1 with ⟨q, _⟩ | ⟨e, _, _, q⟩
    · exact ⟨h1, q⟩
    · rw [q] at h; cases h
  · exfalso
    have hcd := hw.2.2.1 c hD
    have h128 : 128 ≤ c := by unfold cD cF at hcd; omega
    unfold cV at h
    rw [if_neg (by omega)] at h
    split at h
    · cases h
    · split at h <;> cases h
theorem cG_bind {sg s2 : rSg} {s kb nb np : Nat} {D : Nat → Prop} (hw : cWG sg s kb nb np D) {x c : Nat} (h1 : s2 (s + 3) = sg (s + 3)) (h3 : s2 kb = upd (sg kb) x (nI c)) (hx : x < nb) (hc : D c) : cV s2 s kb nb = vB (cV sg s kb nb) x c := by
  have hnb := hw.1
  have hcl := cWG_lt hw hc
  funext y
  unfold vB
  by_cases hy : y = x
  · subst hy
    rw [if_pos rfl]
    unfold cV
    rw [if_pos (by omega), h3, show upd (sg kb) y (nI c) y = nI c from if_pos rfl, if_pos ⟨hx, nI_nem1 (by omega)⟩, nI_clamp (by omega)]
  · rw [if_neg hy]
    unfold cV
    rw [h1, h3, show upd (sg kb) x (nI c) y = sg kb y from if_neg hy]
theorem cWG_bind {sg s2 : rSg} {s kb nb np : Nat} {D : Nat → Prop} {i c : Nat} (h1 : s2 (s + 3) = sg (s + 3)) (h3 : s2 kb = upd (sg kb) i (nI c)) (hc : D c) (hw : cWG sg s kb nb np D) : cWG s2 s kb nb np D := by
  refine ⟨hw.1, hw.2.1, hw.2.2.1, by rw [h1]; exact hw.2.2.2.1, by rw [h1]; exact hw.2.2.2.2.1, fun j hd hj => ?_⟩
  rw [h3]
  by_cases hji : j = i
  · subst hji
    exact Or.inr ⟨c, if_pos rfl, hc⟩
  · rw [show upd (sg kb) i (nI c) j = sg kb j from if_neg hji]
    exact hw.2.2.2.2.2 j hd hj
theorem cG_half {sg : rSg} {s kb nb np : Nat} (hs : isScr s) {D : Nat → Prop} (hw : cWG sg s kb nb np D) {c : Nat} (h1 : 256 ≤ c) (hD : D c) : ∃ a b, cV sg s kb nb c = some (.inr (.inr (a, b))) ∧ D a ∧ D b ∧ (∀ s2 : rSg, s2 (s + 3) = sg (s + 3) → EvS rSkel 2 30 [.inr (.inr (some s)), .inl (nI c), .inl 0] s2 (fun v s3 => v = some (.inl (nI a)) ∧ s3 = s2) ∧ EvS rSkel 2 30 [.inr (.inr (some s)), .inl (nI c), .inl 1] s2 (fun v s3 => v = some (.inl (nI b)) ∧ s3 = s2)) := by
  have hn := hw.2.1
  have hcl := cWG_lt hw hD
  have hcd := hw.2.2.1 c hD
  by_cases h2 : c < 1280
  · have h3 : c < 256 + np := by unfold cD cF at hcd; omega
    obtain ⟨a, b, ha, hb, fa, fb⟩ := hw.2.2.2.1 c hD h1 h2
    have la := cWG_lt hw fa
    have lb := cWG_lt hw fb
    have hv : cV sg s kb nb c = some (.inr (.inr (a, b))) := by
      unfold cV
      rw [if_neg (by omega), if_neg (by omega), if_pos (by omega), ha, hb, nI_clamp (by omega), nI_clamp (by omega)]
    refine ⟨a, b, hv, fa, fb, fun s2 e2 => ⟨w_30 s2 s hs _ _ ⟨fun _ => ?_, fun q => absurd (nI_lt h2 (by decide)) q⟩, w_30 s2 s hs _ _ ⟨fun _ => ?_, fun q => absurd (nI_lt h2 (by decide)) q⟩⟩⟩
    · exact c_half0 hs (k := 0) (z := 256) (j := 2 * (c - 256)) (by omega) (by decide) h1 (by omega) (by omega) (by rw [e2]; exact ha) ⟨rfl, rfl⟩
    · exact c_half0 hs (k := 1) (z := 256) (j := 2 * (c - 256) + 1) (by omega) (by decide) h1 (by omega) (by omega) (by rw [e2]; exact hb) ⟨rfl, rfl⟩
  · have h3 : nb = 128 ∧ c < 1280 + np := by unfold cD cF at hcd; omega
    obtain ⟨a, b, ha, hb, fa, fb, ga, gb⟩ := hw.2.2.2.2.1 c hD (by omega)
    have la := cF_lt fa hn
    have lb := cF_lt fb hn
    have hv : cV sg s kb nb c = some (.inr (.inr (sec a, sec b))) := by
      unfold cV
      rw [if_neg (by omega), if_neg (by omega), if_neg (by omega), ha, hb, nI_clamp (by omega), nI_clamp (by omega)]
    refine ⟨sec a, sec b, hv, ga, gb, fun s2 e2 => ⟨w_30 s2 s hs _ _ ⟨fun q => absurd ((nI_ltI (b := 1280) (by omega) (by decide)).mp q) h2, fun _ => ?_⟩, w_30 s2 s hs _ _ ⟨fun q => absurd ((nI_ltI (b := 1280) (by omega) (by decide)).mp q) h2, fun _ => ?_⟩⟩⟩
    · exact c_half1 hs (k := 0) (z := 1280) (j := 2 * (c - 1280)) (by omega) (by decide) (by omega) (by omega) (by omega) (by rw [e2]; exact ha) (by omega) ⟨rfl, rfl⟩
    · exact c_half1 hs (k := 1) (z := 1280) (j := 2 * (c - 1280) + 1) (by omega) (by decide) (by omega) (by omega) (by omega) (by rw [e2]; exact hb) (by omega) ⟨rfl, rfl⟩
theorem cG_walk_loop {sg : rSg} {s kb nb np : Nat} (hkb : isArr kb nb) {D : Nat → Prop} (hw : cWG sg s kb nb np D) {rk : Nat → Nat} (hok : vOK (cV sg s kb nb) D rk) {P : Option rv → rSg → Prop} : ∀ (n c y : Nat), (List.range nb).countP (fun v => decide (rk v ≤ rk c)) = n → y + n ≤ 128 → D c → (∀ c2, D c2 → vRes (cV sg s kb nb) c2 → wlk (cV sg s kb nb) D c c2 → P (some (.inl (nI c2))) sg) → g_76_4 kb nb (nI c) (nI y) sg P := by
  intro n
  induction n using Nat.strongRecOn with
  | ind n ih =>
    intro c y hcl hy hD hP
    have hnb := hw.1
    have hc := cWG_lt hw hD
    have hcd := hw.2.2.1 c hD
    have hres : ¬ c < nb → vRes (cV sg s kb nb) c := by
      intro h1 e he
      have h128 : 128 ≤ c := by unfold cD cF at hcd; omega
      unfold cV at he
      rw [if_neg (by omega)] at he
      split at he
      · cases he
      · split at he <;> cases he
    refine w_76_4 sg kb nb hkb (nI c) (nI y) ?_
    rw [show (128 : Int32) = nI 128 from rfl, show Int32.ofNat nb = nI nb from rfl, nI_1]
    by_cases h1 : c < nb
    · have hself : 0 < n := by
        rw [← hcl]
        exact List.countP_pos_iff.mpr ⟨c, List.mem_range.mpr h1, by simp⟩
      refine ⟨fun q => absurd ((nI_leI (by decide) (by omega)).mp q) (by omega), fun _ => ⟨fun q => absurd q (nI_pos (by omega)), fun _ => ⟨fun q => absurd ((nI_leI (by decide) (by omega)).mp q) (by omega), fun _ => ⟨fun q => absurd ((nI_leI (by omega) (by omega)).mp q) (by omega), fun _ => ?_⟩⟩⟩⟩
      rw [nI_clamp (by omega)]
      refine ⟨rIn_nI h1 (by omega), ?_⟩
      rcases cG_var hw hD h1 with ⟨q, q2⟩ | ⟨e, he, q, q2⟩
      · exact ⟨fun h9 => absurd q h9, fun _ => hP c hD (fun e he => by rw [q2] at he; cases he) wlk.rfl'⟩
      · have hr := (hok c hD).1 e q2
        have := cWG_lt hw he
        refine ⟨fun _ => ⟨rIn_nI h1 (by omega), ?_⟩, fun h9 => absurd (Classical.not_not.mp h9) (by rw [q]; exact nI_nem1 (by omega))⟩
        rw [q]
        have hlt : (List.range nb).countP (fun v => decide (rk v ≤ rk e)) < n := by
          rw [← hcl]
          exact countP_lt (fun x _ hx => by simp at hx ⊢; omega) ⟨c, List.mem_range.mpr h1, by simp, by simp; omega⟩
        exact ih _ hlt e (y + 1) rfl (by omega) he (fun c2 g1 g2 g3 => hP c2 g1 g2 (wlk.step hD q2 g3))
    · have fin := hP c hD (hres h1) wlk.rfl'
      exact ⟨fun _ => fin, fun _ => ⟨fun _ => fin, fun _ => ⟨fun _ => fin, fun _ => ⟨fun _ => fin, fun q => absurd (nI_le (by omega) (by omega)) q⟩⟩⟩⟩
theorem cG_walk {sg : rSg} {s kb nb np : Nat} (hkb : isArr kb nb) {D : Nat → Prop} (hw : cWG sg s kb nb np D) {rk : Nat → Nat} (hok : vOK (cV sg s kb nb) D rk) {c : Nat} (hD : D c) : EvS rSkel 1 76 [.inr (.inr (some kb)), .inl (nI c)] sg (fun v s2 => s2 = sg ∧ ∃ c2, v = some (.inl (nI c2)) ∧ D c2 ∧ vRes (cV sg s kb nb) c2 ∧ wlk (cV sg s kb nb) D c c2) := by
  have hnb := hw.1
  refine w_76 sg kb nb hkb (nI c) (cG_walk_loop hkb hw hok _ c 0 rfl ?_ hD (fun c2 h1 h2 h3 => ⟨rfl, c2, rfl, h1, h2, h3⟩))
  have := List.countP_le_length (p := fun v => decide (rk v ≤ rk c)) (l := List.range nb)
  simp at this
  omega
