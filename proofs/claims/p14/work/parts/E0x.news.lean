/-! NEW PAIRS: links and types, the history -/
theorem cAb_same {V W : Nat → TV} {fs : List Nat} (h : ∀ c ∈ fs, W c = V c) : cAb W fs = cAb V fs := funext fun b => propext ⟨fun ⟨b2, c, hc, hv⟩ => ⟨b2, c, hc, by rw [← h c hc]; exact hv⟩, fun ⟨b2, c, hc, hv⟩ => ⟨b2, c, hc, by rw [h c hc]; exact hv⟩⟩
section
variable {sg t : rSg} {s kb tp np np2 nv nv2 : Nat} {p : Nat → Nat} {fs ms nm : List Nat} {H H2 : Nat → Prop}
theorem cAb_D (hf : cFr (cV sg s kb 64) tp np p nv fs ms H) : ∀ b, cAb (cV sg s kb 64) fs b → cDm nv tp fs ms b := fun b ⟨_, c, hc, hv⟩ => by
  obtain ⟨_, x, t, e, hx, _⟩ := hf.2.1 c hc
  rw [hv] at e
  cases e
  exact Or.inl (hf.2.2.2.1 b hx).2
/-- which pairs are new -/
theorem new_pr {nf : List Nat} (htn : tp ≤ np2) (hf2 : cFr (cV t s kb 64) tp np2 p nv2 (nf ++ fs) (nm ++ ms) H2) {c a b : Nat} (hc : cDm nv2 tp (nf ++ fs) (nm ++ ms) c) (hn : ¬ cDm nv tp fs ms c) (hv : cV t s kb 64 c = some (.inr (.inr (a, b)))) : c ∈ nf ∨ ¬ H2 a := by
  rcases cFr_code hf2 htn hc with q | q | ⟨q, _⟩
  · exact absurd hv (cV_nopair (by have := hf2.1; omega))
  · exact absurd hv (cV_nopair (by omega))
  · rcases q with q | q | q
    · exact absurd (Or.inr (Or.inr (Or.inl q))) hn
    · rcases List.mem_append.mp q with q | q
      · exact Or.inl q
      · exact absurd (Or.inr (Or.inr (Or.inr (Or.inl q)))) hn
    · obtain ⟨_, x, u, e, g2, _⟩ := hf2.2.2.1 c q
      rw [hv] at e
      cases e
      refine Or.inr (fun z => ?_)
      have := hf2.2.2.2.1 a z
      have := hf2.1
      omega
theorem cJS_G0 (htn : tp ≤ np) (htn2 : tp ≤ np2) (hf : cFr (cV sg s kb 64) tp np p nv fs ms H) (hj : cJS (cV sg s kb 64) tp p nv fs ms H) (hf2 : cFr (cV t s kb 64) tp np2 p nv2 ([] ++ fs) (nm ++ ms) H2) (hg : grw (cV sg s kb 64) (cV t s kb 64) (cDm nv tp fs ms) (cDm nv2 tp ([] ++ fs) (nm ++ ms)) H H2 (cRt tp p fs ms) (cRt tp p ([] ++ fs) (nm ++ ms)) (cTp ([] ++ fs) (nm ++ ms))) : cJS (cV t s kb 64) tp p nv2 ([] ++ fs) (nm ++ ms) H2 := by
  have e : cAb (cV t s kb 64) ([] ++ fs) = cAb (cV sg s kb 64) fs := cAb_same (fun c hc => hg.1 c (Or.inr (Or.inr (Or.inr (Or.inl hc)))))
  unfold cJS
  rw [e]
  exact JSg_G0 hg (cFr_stru hf htn) (cFr_stru hf2 htn2) (cAb_D hf) (fun c a b hc hn hv => (new_pr htn2 hf2 hc hn hv).resolve_left (fun z => by cases z)) hj
theorem cJS_G1 {cn h0 : Nat} (htn : tp ≤ np) (htn2 : tp ≤ np2) (hn0 : nv ≤ h0 ∧ h0 < nv2 ∧ H2 h0) (hcn : cV t s kb 64 cn = some (.inr (.inr (h0, h0 + 1)))) (hf : cFr (cV sg s kb 64) tp np p nv fs ms H) (hj : cJS (cV sg s kb 64) tp p nv fs ms H) (hf2 : cFr (cV t s kb 64) tp np2 p nv2 ([cn] ++ fs) (nm ++ ms) H2) (hg : grw (cV sg s kb 64) (cV t s kb 64) (cDm nv tp fs ms) (cDm nv2 tp ([cn] ++ fs) (nm ++ ms)) H H2 (cRt tp p fs ms) (cRt tp p ([cn] ++ fs) (nm ++ ms)) (cTp ([cn] ++ fs) (nm ++ ms))) : cJS (cV t s kb 64) tp p nv2 ([cn] ++ fs) (nm ++ ms) H2 := by
  have e : cAb (cV t s kb 64) ([cn] ++ fs) = cAb (cV sg s kb 64) fs := by
    rw [← cAb_same (W := cV t s kb 64) (fun c hc => hg.1 c (Or.inr (Or.inr (Or.inr (Or.inl hc)))))]
    refine funext fun b => propext ⟨fun ⟨b2, c, hc, hv⟩ => ?_, fun ⟨b2, c, hc, hv⟩ => ⟨b2, c, List.mem_cons_of_mem _ hc, hv⟩⟩
    rcases List.mem_cons.mp hc with rfl | hc
    · rw [hcn] at hv
      simp only [Option.some.injEq, Sum.inr.injEq, Prod.mk.injEq] at hv
      omega
    · exact ⟨b2, c, hc, hv⟩
  have hnv2 := hf2.1
  have nD : ¬ cDm nv tp fs ms h0 := fun q => by
    rcases cFr_code hf htn q with z | z | ⟨_, z⟩ <;> omega
  unfold cJS
  rw [e]
  refine JSg_G1 (cn := cn) (hn0 := h0) hg (cFr_stru hf htn) (cFr_stru hf2 htn2) (cAb_D hf) ⟨nD, hn0.2.2, Or.inl hn0.2.1⟩ (fun c a b hc hn hv => ?_) hj
  rcases new_pr htn2 hf2 hc hn hv with z | z
  · rw [List.mem_singleton] at z
    rw [z, hcn] at hv
    simp only [Option.some.injEq, Sum.inr.injEq, Prod.mk.injEq] at hv
    exact Or.inr ⟨z, hv.1.symm⟩
  · exact Or.inl z
theorem cJS_G3 {cn h0 : Nat} (htn : tp ≤ np) (htn2 : tp ≤ np2) (hn0 : h0 < nv ∧ h0 + 2 < 128) (hcn : cV t s kb 64 cn = some (.inr (.inr (h0, h0 + 2)))) (hw1 : ∀ th, vSol (cV sg s kb 64) (cDm nv tp fs ms) th → nOK (cDm nv tp fs ms) th → ∀ x, tg (cV sg s kb 64) h0 x → xv (cV sg s kb 64) (cDm nv tp fs ms) (tLR (cV sg s kb 64) (cDm nv tp fs ms) H (cRt tp p fs ms) th) (cAb (cV sg s kb 64) fs) th (cV sg s kb 64) x (nd (th h0) (th (h0 + 1)))) (hf : cFr (cV sg s kb 64) tp np p nv fs ms H) (hj : cJS (cV sg s kb 64) tp p nv fs ms H) (hf2 : cFr (cV t s kb 64) tp np2 p nv2 ([cn] ++ fs) (nm ++ ms) H2) (hg : grw (cV sg s kb 64) (cV t s kb 64) (cDm nv tp fs ms) (cDm nv2 tp ([cn] ++ fs) (nm ++ ms)) H H2 (cRt tp p fs ms) (cRt tp p ([cn] ++ fs) (nm ++ ms)) (cTp ([cn] ++ fs) (nm ++ ms))) : cJS (cV t s kb 64) tp p nv2 ([cn] ++ fs) (nm ++ ms) H2 := by
  have e : ∀ b, cAb (cV t s kb 64) ([cn] ++ fs) b ↔ cAb (cV sg s kb 64) fs b ∨ b = h0 := fun b => by
    rw [← cAb_same (W := cV t s kb 64) (fun c hc => hg.1 c (Or.inr (Or.inr (Or.inr (Or.inl hc)))))]
    constructor
    · rintro ⟨b2, c, hc, hv⟩
      rcases List.mem_cons.mp hc with rfl | hc
      · rw [hcn] at hv
        simp only [Option.some.injEq, Sum.inr.injEq, Prod.mk.injEq] at hv
        exact Or.inr hv.1.symm
      · exact Or.inl ⟨b2, c, hc, hv⟩
    · rintro (⟨b2, c, hc, hv⟩ | rfl)
      · exact ⟨b2, c, List.mem_cons_of_mem _ hc, hv⟩
      · exact ⟨hn0.2, cn, List.mem_cons_self, hcn⟩
  refine JSg_G3 (cn := cn) (hh := h0) hg (cFr_stru hf htn) (cFr_stru hf2 htn2) (cAb_D hf) e (Or.inl hn0.1) ⟨Or.inr (Or.inr (Or.inr (Or.inl List.mem_cons_self))), hcn⟩ (fun c a b hc hn hv => ?_) (fun th hs hn => hw1 th (grw_sol hg hs) (grw_nOK hg hn)) hj
  rcases new_pr htn2 hf2 hc hn hv with z | z
  · rw [List.mem_singleton] at z
    exact Or.inr z
  · exact Or.inl z
end
/-- the history, when a state grows -/
theorem hLk_up {C : Cf} {nv nv2 : Nat} {V W : Nat → TV} {fs ms fs2 ms2 : List Nat} {L : List Bk} {q : Bk} (hl : hLk C nv V fs ms L) (hc : ∀ c, cDm nv C.tp fs ms c → W c = V c ∨ V c = none) (hD : ∀ c, cDm nv C.tp fs ms c → cDm nv2 C.tp fs2 ms2 c) (hL : ∀ p ∈ L, bkB p < bkB q) (hg : bkG q < C.ng)
    (hfs : ∀ c ∈ fs2, c ∈ fs ∨ ∃ t, W c = some (.inr (.inr (bkB q, t))) ∧ ((bkK q = 0 ∧ (t = bkB q + 1 ∨ t = bkB q + 2)) ∨ (bkK q = 1 ∧ t = bkB q + 1))) (hfd : ∀ c ∈ fs2, ∀ d ∈ fs2, c ∉ fs → d ∉ fs → W c = W d → c = d)
    (hms : ∀ c ∈ ms2, c ∈ ms ∨ (ms2 = c :: ms ∧ bkK q = 2 ∧ ∃ x, W c = some (.inr (.inr (x, bkB q))) ∧ mPt C x ∧ ∀ th, vSol W (cDm nv2 C.tp fs2 ms2) th → ∀ r, (∀ v, v < 64 → th v = r v) → th x = tb1 C.tb (bkG q) r)) (hfs1 : ∀ c ∈ fs, c ∈ fs2) (hq0 : bkK q = 0 → ∃ c ∈ fs2, W c = some (.inr (.inr (bkB q, bkB q + 2)))) : hLk C nv2 W fs2 ms2 (q :: L) := by
  obtain ⟨h1, h2, h3, h4, h5⟩ := hl
  have f1 : ∀ c ∈ fs, W c = V c := fun c hcf => by
    rcases hc c (Or.inr (Or.inr (Or.inr (Or.inl hcf)))) with z | z
    · exact z
    · obtain ⟨a, b, _, e, _⟩ := h1 c hcf
      rw [z] at e
      cases e
  have f2 : ∀ c ∈ ms, W c = V c := fun c hcm => by
    rcases hc c (Or.inr (Or.inr (Or.inr (Or.inr hcm)))) with z | z
    · exact z
    · obtain ⟨a, b, _, e, _⟩ := h3 c hcm
      rw [z] at e
      cases e
  have hs : ∀ th, vSol W (cDm nv2 C.tp fs2 ms2) th → vSol V (cDm nv C.tp fs ms) th := fun th g c hcd => by
    have h0 := g c (hD c hcd)
    rcases hc c hcd with z | z
    · rw [z] at h0; exact h0
    · rw [z]
      exact ⟨fun _ z => (by cases z), fun _ z => (by cases z), fun _ _ z => (by cases z)⟩
  -- an old pair is none of the new ones
  have no : ∀ c ∈ fs, ∀ t, W c ≠ some (.inr (.inr (bkB q, t))) := fun c hcf t e => by
    obtain ⟨a, b, p, e2, hp, hb, _⟩ := h1 c hcf
    rw [f1 c hcf, e2] at e
    simp only [Option.some.injEq, Sum.inr.injEq, Prod.mk.injEq] at e
    have := hL p hp
    omega
  have nm : ∀ c ∈ ms, ∀ x, W c ≠ some (.inr (.inr (x, bkB q))) := fun c hcm x e => by
    obtain ⟨a, b, p, e2, hp, hb, _⟩ := h3 c hcm
    rw [f2 c hcm, e2] at e
    simp only [Option.some.injEq, Sum.inr.injEq, Prod.mk.injEq] at e
    have := hL p hp
    omega
  refine ⟨fun c hcf => ?_, fun c hcf d hdf e => ?_, fun c hcm => ?_, fun c hcm d hdm xx yy tt e e2 => ?_, fun p hp => ?_⟩
  · rcases hfs c hcf with z | ⟨t, z1, z2⟩
    · obtain ⟨a, b, p, e2, hp, hb⟩ := h1 c z
      exact ⟨a, b, p, by rw [f1 c z]; exact e2, List.mem_cons_of_mem _ hp, hb⟩
    · exact ⟨_, t, q, z1, List.mem_cons_self, rfl, z2⟩
  · rcases hfs c hcf with z | ⟨t, z1, z2⟩
    · rcases hfs d hdf with y | ⟨u, y1, y2⟩
      · rw [f1 c z, f1 d y] at e
        exact h2 c z d y e
      · rw [y1] at e
        exact absurd e (no c z u)
    · rcases hfs d hdf with y | ⟨u, y1, y2⟩
      · rw [z1] at e
        exact absurd e.symm (no d y t)
      · by_cases k1 : c ∈ fs
        · exact absurd z1 (no c k1 t)
        · by_cases k2 : d ∈ fs
          · exact absurd y1 (no d k2 u)
          · exact hfd c hcf d hdf k1 k2 e
  · rcases hms c hcm with z | ⟨_, z1, x, z2, z3⟩
    · obtain ⟨x, t, p, e2, hp, hb, hk, hth⟩ := h3 c z
      exact ⟨x, t, p, by rw [f2 c z]; exact e2, List.mem_cons_of_mem _ hp, hb, hk, hth.1, fun th g => hth.2 th (hs th g)⟩
    · exact ⟨x, _, q, z2, List.mem_cons_self, rfl, z1, z3⟩
  · rcases hms c hcm with z | ⟨z0, z1, x, z2, z3⟩
    · rcases hms d hdm with y | ⟨y0, y1, w, y2, y3⟩
      · rw [f2 c z] at e
        rw [f2 d y] at e2
        exact h4 c z d y xx yy tt e e2
      · rw [y2] at e2
        simp only [Option.some.injEq, Sum.inr.injEq, Prod.mk.injEq] at e2
        rw [← e2.2] at e
        exact absurd e (nm c z xx)
    · rcases hms d hdm with y | ⟨y0, y1, w, y2, y3⟩
      · rw [z2] at e
        simp only [Option.some.injEq, Sum.inr.injEq, Prod.mk.injEq] at e
        rw [← e.2] at e2
        exact absurd e2 (nm d y yy)
      · rw [z0] at y0
        exact (List.cons.inj y0).1
  · rcases List.mem_cons.mp hp with rfl | hp
    · exact ⟨hg, hq0⟩
    · refine ⟨(h5 p hp).1, fun k => ?_⟩
      obtain ⟨c, hc1, e⟩ := (h5 p hp).2 k
      exact ⟨c, hfs1 c hc1, by rw [f1 c hc1]; exact e⟩
