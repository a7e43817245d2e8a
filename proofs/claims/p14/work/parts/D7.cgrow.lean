/-! THE CLASS: a state gets fresh variables and pairs -/
theorem cV_pair {sg : rSg} {s kb c a b : Nat} (h1 : 256 ≤ c) (h2 : c < 1280) (e1 : sg (s + 3) (2 * (c - 256)) = nI a) (e2 : sg (s + 3) (2 * (c - 256) + 1) = nI b) (ha : a < 2 ^ 31) (hb : b < 2 ^ 31) : cV sg s kb 64 c = some (.inr (.inr (a, b))) := by
  have g : ¬ c < 128 := by omega
  have g2 : ¬ c < 256 := by omega
  simp only [cV, if_neg g, if_neg g2, if_pos h2, e1, e2, nI_clamp ha, nI_clamp hb]
theorem cV_opn {sg : rSg} {s kb c : Nat} (h : c < 64) (e : sg kb c = -1) : cV sg s kb 64 c = none := by
  have g : c < 128 := by omega
  simp only [cV, if_pos g]
  rw [if_neg (fun q => q.2 e)]
theorem cCo_grow {sg t : rSg} {s kb tp np np2 nv nv2 : Nat} {p : Nat → Nat} {fs ms nf nm : List Nat} {H H2 : Nat → Prop} {K : Kx} (htn : tp ≤ np) (hc : cCo sg s kb tp np p nv fs ms H K) (hv2 : nv ≤ nv2 ∧ nv2 ≤ 63) (hn2 : np ≤ np2 ∧ np2 ≤ 640) (hrow : ∀ i, i < nv → t kb i = sg kb i) (hnew : ∀ i, nv ≤ i → i < nv2 → t kb i = -1) (hhalf : ∀ j, j < 2 * np → t (s + 3) j = sg (s + 3) j)
    (hnf : ∀ c ∈ nf, (256 + np ≤ c ∧ c < 256 + np2) ∧ ∃ h u, t (s + 3) (2 * (c - 256)) = nI h ∧ t (s + 3) (2 * (c - 256) + 1) = nI u ∧ H2 h ∧ (6 ≤ u ∧ u < nv2) ∧ ¬ H2 u)
    (hnm : ∀ c ∈ nm, (256 + np ≤ c ∧ c < 256 + np2) ∧ ∃ x u, t (s + 3) (2 * (c - 256)) = nI x ∧ t (s + 3) (2 * (c - 256) + 1) = nI u ∧ cTd tp x ∧ (6 ≤ u ∧ u < nv2) ∧ ¬ H2 u)
    (hH : ∀ v, v < nv → (H2 v ↔ H v)) (hHb : ∀ v, H2 v → 6 ≤ v ∧ v < nv2)
    (hJ : cFr (cV sg s kb 64) tp np p nv fs ms H → cJS (cV sg s kb 64) tp p nv fs ms H → cFr (cV t s kb 64) tp np2 p nv2 (nf ++ fs) (nm ++ ms) H2 → grw (cV sg s kb 64) (cV t s kb 64) (cDm nv tp fs ms) (cDm nv2 tp (nf ++ fs) (nm ++ ms)) H H2 (cRt tp p fs ms) (cRt tp p (nf ++ fs) (nm ++ ms)) (cTp (nf ++ fs) (nm ++ ms)) → cJS (cV t s kb 64) tp p nv2 (nf ++ fs) (nm ++ ms) H2) : cCo t s kb tp np2 p nv2 (nf ++ fs) (nm ++ ms) H2 K := by
  obtain ⟨hw, hf, hk, hj⟩ := hc
  obtain ⟨f1, f2, f3, f4, f5, f6, ⟨rk, f7⟩, f8⟩ := id hf
  have hcode : ∀ {c}, cDm nv tp fs ms c → c < nv ∨ (128 ≤ c ∧ c < 139) ∨ (((256 ≤ c ∧ c < 256 + tp) ∨ c ∈ fs ∨ c ∈ ms) ∧ 256 ≤ c ∧ c < 256 + np) := fun h => cFr_code hf htn h
  have hag : vAg (cDm nv tp fs ms) (cV sg s kb 64) (cV t s kb 64) := cSame_ag htn (by omega) hf ⟨hrow, fun c hc => by
    have : 256 ≤ c ∧ c < 256 + np := by
      rcases hc with q | q | q
      · omega
      · have := (f2 c q).1; omega
      · have := (f3 c q).1; omega
    exact ⟨hhalf _ (by omega), hhalf _ (by omega)⟩⟩
  -- the new pairs
  have hnp : ∀ c, c ∈ nf ++ nm → (256 + np ≤ c ∧ c < 256 + np2) ∧ ∃ h u, t (s + 3) (2 * (c - 256)) = nI h ∧ t (s + 3) (2 * (c - 256) + 1) = nI u ∧ cV t s kb 64 c = some (.inr (.inr (h, u))) ∧ (h < nv2 ∨ cTd tp h) ∧ u < nv2 := by
    intro c hc
    rcases List.mem_append.mp hc with q | q
    · obtain ⟨g1, h, u, e1, e2, g2, g3, g4⟩ := hnf c q
      have := hHb h g2
      exact ⟨g1, h, u, e1, e2, cV_pair (by omega) (by omega) e1 e2 (by omega) (by omega), Or.inl this.2, g3.2⟩
    · obtain ⟨g1, x, u, e1, e2, g2, g3, g4⟩ := hnm c q
      have : x < 256 + tp := by omega
      exact ⟨g1, x, u, e1, e2, cV_pair (by omega) (by omega) e1 e2 (by omega) (by omega), Or.inr g2, g3.2⟩
  have hD2 : ∀ {c}, cDm nv2 tp (nf ++ fs) (nm ++ ms) c → cDm nv tp fs ms c ∨ (nv ≤ c ∧ c < nv2) ∨ c ∈ nf ++ nm := by
    intro c hc
    rcases hc with q | q | q | q | q
    · by_cases z : c < nv
      · exact Or.inl (Or.inl z)
      · exact Or.inr (Or.inl (by omega))
    · exact Or.inl (Or.inr (Or.inl q))
    · exact Or.inl (Or.inr (Or.inr (Or.inl q)))
    · rcases List.mem_append.mp q with z | z
      · exact Or.inr (Or.inr (List.mem_append.mpr (Or.inl z)))
      · exact Or.inl (Or.inr (Or.inr (Or.inr (Or.inl z))))
    · rcases List.mem_append.mp q with z | z
      · exact Or.inr (Or.inr (List.mem_append.mpr (Or.inr z)))
      · exact Or.inl (Or.inr (Or.inr (Or.inr (Or.inr z))))
  have hDD : ∀ {c}, cDm nv tp fs ms c → cDm nv2 tp (nf ++ fs) (nm ++ ms) c := by
    intro c hc
    rcases hc with q | q | q | q | q
    · exact Or.inl (by omega)
    · exact Or.inr (Or.inl q)
    · exact Or.inr (Or.inr (Or.inl q))
    · exact Or.inr (Or.inr (Or.inr (Or.inl (List.mem_append.mpr (Or.inr q)))))
    · exact Or.inr (Or.inr (Or.inr (Or.inr (List.mem_append.mpr (Or.inr q)))))
  have hlow : ∀ {h}, h < nv2 ∨ cTd tp h → cDm nv2 tp (nf ++ fs) (nm ++ ms) h ∧ h ∉ nf ++ nm := by
    intro h hh
    refine ⟨?_, fun q => ?_⟩
    · rcases hh with q | q
      · exact Or.inl q
      · exact cTd_D (by omega) q
    · have := (hnp h q).1
      omega
  have hnvar : ∀ {c}, nv ≤ c → c < nv2 → cV t s kb 64 c = none := fun {c} g1 g2 => cV_opn (by omega) (hnew c g1 g2)
  have hold : ∀ {c}, cDm nv tp fs ms c → ¬ (nv ≤ c ∧ c < nv2) ∧ c ∉ nf ++ nm := by
    intro c hc
    have h1 := hcode hc
    refine ⟨fun q => by omega, fun q => ?_⟩
    have := (hnp c q).1
    omega
  have hcw : ∀ {c}, cDm nv2 tp (nf ++ fs) (nm ++ ms) c → cD 64 np2 c := by
    intro c hc
    unfold cD cF
    rcases hD2 hc with q | q | q
    · have := hcode q; omega
    · omega
    · have := (hnp c q).1; omega
  have mk : ∀ (F : Nat → Nat → Nat) (G : Nat → Nat), ∃ R : Nat → Nat, (∀ c h u, c ∈ nf ++ nm → cV t s kb 64 c = some (.inr (.inr (h, u))) → R c = F h u) ∧ ∀ c, c ∉ nf ++ nm → R c = G c := fun F G => ⟨fun c => if c ∈ nf ++ nm then (match cV t s kb 64 c with | some (.inr (.inr (h, u))) => F h u | _ => 0) else G c, fun c h u h1 h2 => by simp only [if_pos h1, h2], fun c h1 => by simp only [if_neg h1]⟩
  obtain ⟨R, hR1, hR2⟩ := mk (fun h u => rk h + rk u + 1) rk
  have main : cWG t s kb 64 np2 (cDm nv2 tp (nf ++ fs) (nm ++ ms)) ∧ cFr (cV t s kb 64) tp np2 p nv2 (nf ++ fs) (nm ++ ms) H2 ∧ vK (cV t s kb 64) (cDm nv2 tp (nf ++ fs) (nm ++ ms)) K := by
    refine ⟨⟨Or.inl rfl, hn2.2, fun c hc => hcw hc, fun c hc g1 g2 => ?_, fun c hc g1 => ?_, fun i hi g1 => ?_⟩, ⟨⟨by omega, hv2.2⟩, fun c hc => ?_, fun c hc => ?_, hHb, fun c g1 g2 => ?_, f6, ⟨R, ?_⟩, ?_⟩, fun r => ?_⟩
    · rcases hD2 hc with q | q | q
      · obtain ⟨a, b, e1, e2, d1, d2⟩ := hw.2.2.2.1 c q g1 g2
        have := hcode q
        exact ⟨a, b, by rw [hhalf _ (by omega)]; exact e1, by rw [hhalf _ (by omega)]; exact e2, hDD d1, hDD d2⟩
      · omega
      · obtain ⟨_, h, u, e1, e2, _, g3, g4⟩ := hnp c q
        exact ⟨h, u, e1, e2, (hlow g3).1, Or.inl g4⟩
    · exfalso
      rcases hD2 hc with q | q | q
      · have := hcode q; omega
      · omega
      · have := (hnp c q).1; omega
    · rcases hD2 hi with q | q | q
      · have h1 := hcode q
        rw [hrow i (by omega)]
        rcases hw.2.2.2.2.2 i q g1 with z | ⟨c, z1, z2⟩
        · exact Or.inl z
        · exact Or.inr ⟨c, z1, hDD z2⟩
      · exact Or.inl (hnew i q.1 q.2)
      · have := (hnp i q).1; omega
    · rcases List.mem_append.mp hc with q | q
      · obtain ⟨g1, h, u, e1, e2, g2, g3, g4⟩ := hnf c q
        have := hHb h g2
        exact ⟨by omega, h, u, cV_pair (by omega) (by omega) e1 e2 (by omega) (by omega), g2, g3, g4⟩
      · obtain ⟨g1, h, u, e, g2, g3, g4⟩ := f2 c q
        exact ⟨by omega, h, u, by rw [hag c (Or.inr (Or.inr (Or.inr (Or.inl q))))]; exact e, (hH h (f4 h g2).2).mpr g2, by omega, fun z => g4 ((hH u g3.2).mp z)⟩
    · rcases List.mem_append.mp hc with q | q
      · obtain ⟨g1, x, u, e1, e2, g2, g3, g4⟩ := hnm c q
        have : x < 256 + tp := by omega
        exact ⟨by omega, x, u, cV_pair (by omega) (by omega) e1 e2 (by omega) (by omega), g2, g3, g4⟩
      · obtain ⟨g1, h, u, e, g2, g3, g4⟩ := f3 c q
        exact ⟨by omega, h, u, by rw [hag c (Or.inr (Or.inr (Or.inr (Or.inr q))))]; exact e, g2, by omega, fun z => g4 ((hH u g3.2).mp z)⟩
    · rw [hag c (Or.inr (Or.inr (Or.inl ⟨g1, g2⟩)))]
      exact f5 c g1 g2
    · intro c hc
      rcases hD2 hc with q | q | q
      · have ho := hold q
        have h0 := f7 c q
        rw [hag c q]
        refine ⟨fun e he => ⟨hDD (h0.1 e he).1, ?_⟩, h0.2.1, fun a b hp => ⟨⟨hDD (h0.2.2 a b hp).1.1, ?_⟩, ⟨hDD (h0.2.2 a b hp).2.1, ?_⟩⟩⟩
        · rw [hR2 _ ho.2, hR2 _ (hold (h0.1 e he).1).2]
          exact (h0.1 e he).2
        · rw [hR2 _ ho.2, hR2 _ (hold (h0.2.2 a b hp).1.1).2]
          exact (h0.2.2 a b hp).1.2
        · rw [hR2 _ ho.2, hR2 _ (hold (h0.2.2 a b hp).2.1).2]
          exact (h0.2.2 a b hp).2.2
      · rw [hnvar q.1 q.2]
        exact ⟨fun _ z => (by cases z), fun _ z => (by cases z), fun _ _ z => (by cases z)⟩
      · obtain ⟨_, h, u, _, _, e, g3, g4⟩ := hnp c q
        rw [e]
        refine ⟨fun _ z => (by cases z), fun _ z => (by cases z), fun a b z => ?_⟩
        cases z
        have l1 := hlow g3
        have l2 := hlow (h := u) (Or.inl g4)
        refine ⟨⟨l1.1, ?_⟩, ⟨l2.1, ?_⟩⟩
        · rw [hR2 _ l1.2, hR1 c _ _ q e]
          omega
        · rw [hR2 _ l2.2, hR1 c _ _ q e]
          omega
    · have hLT : ∀ e, cLT (cV sg s kb 64) tp ms e → cLT (cV t s kb 64) tp (nm ++ ms) e := by
        rintro e ⟨c, b, hc, hv⟩
        refine ⟨c, b, ?_, ?_⟩
        · rcases hc with q | q
          · exact Or.inl q
          · exact Or.inr (List.mem_append.mpr (Or.inr q))
        · rw [hag c ?_]
          · exact hv
          · rcases hc with q | q
            · exact Or.inr (Or.inr (Or.inl q))
            · exact Or.inr (Or.inr (Or.inr (Or.inr q)))
      intro h hd hh
      rcases hD2 hd with q | q | q
      · have h1 := hcode q
        have hhv := hHb h hh
        have hold2 : H h := (hH h (by omega)).mp hh
        rcases f8 h q hold2 with ⟨e, x, he, t1, t2⟩ | ⟨o, t1, t2, t3⟩
        · exact Or.inl ⟨e, x, hLT e he, (tg_ag hag f7 q).mpr t1, (tg_ag hag f7 (cTd_D f1.1 (cLT_D hf he))).mpr t2⟩
        · have dO := tg_D f7 q t1
          refine Or.inr ⟨o, (tg_ag hag f7 q).mpr t1, by rw [hag o dO]; exact t2, fun v dv tv => ?_⟩
          rcases hD2 dv with z | z | z
          · have hv := t3 v z ((tg_ag hag f7 z).mp tv)
            exact (hH v (f4 v hv).2).mpr hv
          · exfalso
            have := tg_uniq tv (tg_self (fun e he => by rw [hnvar z.1 z.2] at he; cases he))
            subst this
            exact (hold dO).1 z
          · exfalso
            obtain ⟨_, h9, u, _, _, e, _⟩ := hnp v z
            have := tg_uniq tv (tg_self (fun e9 he => by rw [e] at he; cases he))
            subst this
            exact (hold dO).2 z
      · refine Or.inr ⟨h, tg_self (fun e he => by rw [hnvar q.1 q.2] at he; cases he), hnvar q.1 q.2, fun v dv tv => ?_⟩
        rcases hD2 dv with z | z | z
        · exfalso
          have := tg_D f7 z ((tg_ag hag f7 z).mp tv)
          exact (hold this).1 q
        · have := tg_uniq tv (tg_self (fun e he => by rw [hnvar z.1 z.2] at he; cases he))
          subst this
          exact hh
        · exfalso
          obtain ⟨_, h9, u, _, _, e, _⟩ := hnp v z
          have := tg_uniq tv (tg_self (fun e9 he => by rw [e] at he; cases he))
          subst this
          exact (hlow (h := h) (Or.inl q.2)).2 z
      · exfalso
        have h1 := hHb h hh
        have := (hnp h q).1
        omega
    · rw [hk r]
      constructor
      · rintro ⟨th, g1, g2⟩
        obtain ⟨S, hS1, hS2⟩ := mk (fun h u => nd (th h) (th u)) th
        refine ⟨S, fun c hc => ?_, fun v hv => ?_⟩
        · rcases hD2 hc with q | q | q
          · have h0 := g1 c q
            have h9 := f7 c q
            rw [hag c q, hS2 c (hold q).2]
            refine ⟨fun e he => ?_, h0.2.1, fun a b hp => ?_⟩
            · rw [hS2 e (hold (h9.1 e he).1).2]
              exact h0.1 e he
            · rw [hS2 a (hold (h9.2.2 a b hp).1.1).2, hS2 b (hold (h9.2.2 a b hp).2.1).2]
              exact h0.2.2 a b hp
          · rw [hnvar q.1 q.2]
            exact ⟨fun _ z => (by cases z), fun _ z => (by cases z), fun _ _ z => (by cases z)⟩
          · obtain ⟨_, h, u, _, _, e, g3, g4⟩ := hnp c q
            rw [hS1 c h u q e, e]
            refine ⟨fun _ z => (by cases z), fun _ z => (by cases z), fun a b z => ?_⟩
            cases z
            rw [hS2 _ (hlow g3).2, hS2 _ (hlow (h := u) (Or.inl g4)).2]
        · rw [hS2 v (fun q => by have := (hnp v q).1; omega)]
          exact g2 v hv
      · rintro ⟨th, g1, g2⟩
        refine ⟨th, fun c hc => ?_, g2⟩
        have := g1 c (hDD hc)
        rw [hag c hc] at this
        exact this
  refine ⟨main.1, main.2.1, main.2.2, hJ hf hj main.2.1 ⟨hag, fun c hc => hDD hc, ⟨rk, f7⟩, fun c hc hn e he => ?_, fun c hc => ?_, fun c _ h => ?_, fun c hc h => ?_⟩⟩
  · rcases hD2 hc with q | q | q
    · exact hn q
    · rw [hnvar q.1 q.2] at he
      cases he
    · obtain ⟨_, h9, u, _, _, e9, _⟩ := hnp c q
      rw [e9] at he
      cases he
  · have h1 := hcode hc
    by_cases z : c < nv
    · exact hH c z
    · constructor
      · intro y
        have := hHb c y
        omega
      · intro y
        exact absurd (f4 c y).2 z
  · rcases h with h | h | h
    · exact Or.inl h
    · exact Or.inr (Or.inl (List.mem_append.mpr (Or.inr h)))
    · exact Or.inr (Or.inr (List.mem_append.mpr (Or.inr h)))
  · rcases h with h | h
    · rcases List.mem_append.mp h with h | h
      · exact absurd (List.mem_append.mpr (Or.inl h)) (hold hc).2
      · exact Or.inr (Or.inl h)
    · rcases List.mem_append.mp h with h | h
      · exact absurd (List.mem_append.mpr (Or.inr h)) (hold hc).2
      · exact Or.inr (Or.inr h)
theorem dnt_pair {V : Nat → TV} {D : Nat → Prop} {c a b : Nat} {f g : Tf} (hc : D c) (hv : V c = some (.inr (.inr (a, b)))) (ha : dnt V D a f) (hb : dnt V D b g) : dnt V D c (prf f g) := fun th hs r hr => by
  rw [(hs c hc).2.2 a b hv, ha th hs r hr, hb th hs r hr]
  rfl
