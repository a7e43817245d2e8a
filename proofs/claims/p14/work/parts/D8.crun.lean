/-! RUNS of unify with a new pair -/
theorem uRun_head {D : Nat → Prop} {V : Nat → TV} {qs : List (Nat × Nat)} : ∀ {n : Nat} {W : Nat → TV} {rs : List (Nat × Nat)}, uRun D V qs (n + 1) W rs → ∃ V1 qs1, uSt D V qs V1 qs1 ∧ uRun D V1 qs1 n W rs
  | 0, W, rs, ⟨_, _, ⟨rfl, rfl⟩, h⟩ => ⟨W, rs, h, rfl, rfl⟩
  | n + 1, W, rs, ⟨W1, r1, h1, h2⟩ => by
    obtain ⟨V1, q1, g1, g2⟩ := uRun_head h1
    exact ⟨V1, q1, g1, W1, r1, g2, h2⟩
theorem uSt_nil {D : Nat → Prop} {V W : Nat → TV} {rs : List (Nat × Nat)} (h : uSt D V [] W rs) : False := by
  obtain ⟨x0, y0, x, y, qs, e, _⟩ := h
  cases e
theorem uRun_nil {D : Nat → Prop} {V W : Nat → TV} {rs : List (Nat × Nat)} : ∀ {n : Nat}, uRun D V [] n W rs → W = V ∧ rs = []
  | 0, h => h
  | n + 1, h => by
    obtain ⟨_, _, g, _⟩ := uRun_head h
    exact (uSt_nil g).elim
theorem uSt_cl {D S : Nat → Prop} {V W : Nat → TV} {ps rs : List (Nat × Nat)} (h : uSt D V ps W rs) (hS : vCl V S) (hp : ∀ q ∈ ps, S q.1 ∧ S q.2) : vCl W S ∧ ∀ q ∈ rs, S q.1 ∧ S q.2 := by
  obtain ⟨x0, y0, x, y, qs, rfl, _, ⟨w1, w2, _, _⟩, h⟩ := h
  have hq : ∀ q ∈ qs, S q.1 ∧ S q.2 := fun q z => hp q (List.mem_cons_of_mem _ z)
  have h0 := hp (x0, y0) List.mem_cons_self
  have sx : S x := w1.2.2.1 S hS h0.1
  have sy : S y := w2.2.2.1 S hS h0.2
  rcases h with ⟨_, rfl, rfl⟩ | ⟨i, c, hic, hne, ho, hr, rfl, rfl⟩ | ⟨a, b, c, d, hne, e1, e2, rfl, rfl⟩
  · exact ⟨hS, hq⟩
  · refine ⟨fun z hz => ?_, hq⟩
    by_cases hzi : z = i
    · subst hzi
      rw [vB_same]
      refine ⟨fun e he => ?_, fun a b he => (by cases he)⟩
      cases he
      rcases hic with ⟨_, rfl⟩ | ⟨_, rfl⟩
      · exact sy
      · exact sx
    · rw [vB_ne V i c hzi]
      exact hS z hz
  · refine ⟨hS, fun q z => ?_⟩
    have p1 := (hS x sx).2 a b e1
    have p2 := (hS y sy).2 c d e2
    rcases List.mem_cons.mp z with rfl | z
    · exact ⟨p1.1, p2.1⟩
    · rcases List.mem_cons.mp z with rfl | z
      · exact ⟨p1.2, p2.2⟩
      · exact hq q z
theorem uRun_cl {D S : Nat → Prop} {V : Nat → TV} {qs : List (Nat × Nat)} (hS : vCl V S) (hp : ∀ q ∈ qs, S q.1 ∧ S q.2) : ∀ {n : Nat} {W : Nat → TV} {rs : List (Nat × Nat)}, uRun D V qs n W rs → vCl W S ∧ ∀ q ∈ rs, S q.1 ∧ S q.2
  | 0, W, rs, h => by
    obtain ⟨rfl, rfl⟩ := h
    exact ⟨hS, hp⟩
  | n + 1, W, rs, ⟨W1, r1, h1, h2⟩ => by
    have ih := uRun_cl hS hp h1
    exact uSt_cl h2 ih.1 ih.2
/-- with a new pair: what it is made the same as was open, or the pair is needed no more -/
theorem uRun_new {D S : Nat → Prop} {V : Nat → TV} {rk : Nat → Nat} (hok : vOK V D rk) (hS : vCl V S) {x c h t : Nat} (hc : V c = some (.inr (.inr (h, t)))) (sx : S x) (sh : S h) (st : S t) (sc : ¬ S c) {n : Nat} {W : Nat → TV} (hr : uRun D V [(x, c)] n W []) : (∃ i, reach V x i ∧ V i = none ∧ W = vB V i c) ∨ vCl W S := by
  cases n with
  | zero =>
    obtain ⟨_, e⟩ := hr
    cases e
  | succ n =>
    obtain ⟨V1, q1, g1, g2⟩ := uRun_head hr
    obtain ⟨x0, y0, x2, y2, qs, e, ⟨d1, d2, d3, d4⟩, ⟨w1, w2, r1, r2⟩, g⟩ := g1
    cases e
    have hy : y2 = c := tg_uniq (tg_wlk hok d2 w2 r2) (tg_self (fun e he => by rw [hc] at he; cases he))
    subst hy
    have sx2 : S x2 := w1.2.2.1 S hS sx
    rcases g with ⟨e, _, _⟩ | ⟨i, c2, hic, hne, ho, _, rfl, rfl⟩ | ⟨a, b, c2, d, hne, e1, e2, rfl, rfl⟩
    · subst e
      exact absurd sx2 sc
    · rcases hic with ⟨rfl, rfl⟩ | ⟨rfl, rfl⟩
      · exact Or.inl ⟨i, w1.2.2.1, ho, (uRun_nil g2).1⟩
      · rw [hc] at ho
        cases ho
    · rw [hc] at e2
      cases e2
      have p1 := (hS x2 sx2).2 a b e1
      refine Or.inr (uRun_cl hS (fun q z => ?_) g2).1
      rcases List.mem_cons.mp z with rfl | z
      · exact ⟨p1.1, sh⟩
      · rcases List.mem_cons.mp z with rfl | z
        · exact ⟨p1.2, st⟩
        · cases z
/-- with a new pair of two that are open: three turns at most -/
theorem uRun_three {D S : Nat → Prop} {V : Nat → TV} {rk : Nat → Nat} (hok : vOK V D rk) (hS : vCl V S) {z c h u : Nat} (hc : V c = some (.inr (.inr (h, u)))) (ho : V h = none) (hu : V u = none) (sz : S z) (sh : S h) (su : ¬ S u) (sc : ¬ S c) {n : Nat} {W : Nat → TV} {rs : List (Nat × Nat)} (hr : uRun D V [(z, c)] n W rs) : n < 4 := by
  refine Classical.byContradiction (fun hn => ?_)
  obtain ⟨n, rfl⟩ : ∃ m, n = m + 1 + 1 + 1 + 1 := ⟨n - 4, by omega⟩
  obtain ⟨V1, q1, ⟨x0, y0, x2, y2, qs, e, ⟨d1, d2, d3, d4⟩, ⟨w1, w2, r1, r2⟩, g⟩, hrA⟩ := uRun_head hr
  cases e
  have hy : y2 = c := tg_uniq (tg_wlk hok d2 w2 r2) (tg_self (fun e he => by rw [hc] at he; cases he))
  subst hy
  have sx2 : S x2 := w1.2.2.1 S hS sz
  rcases g with ⟨e, _, _⟩ | ⟨i, c2, hic, hne, ho2, _, rfl, rfl⟩ | ⟨a, b, c2, d, hne, e1, e2, rfl, rfl⟩
  · subst e
    exact sc sx2
  · obtain ⟨_, _, g, _⟩ := uRun_head hrA
    exact uSt_nil g
  · rw [hc] at e2
    cases e2
    have p1 := (hS x2 sx2).2 a b e1
    obtain ⟨V2, q2, ⟨x0, y0, x3, y3, qs, e, ⟨d1, d2, d3, d4⟩, ⟨w1, w2, r1, r2⟩, gg⟩, hrB⟩ := uRun_head hrA
    cases e
    have hy : y3 = h := tg_uniq (tg_wlk hok d2 w2 r2) (tg_self (fun e he => by rw [ho] at he; cases he))
    subst hy
    have sx3 : S x3 := w1.2.2.1 S hS p1.1
    have key : ∃ rk2, vOK V2 D rk2 ∧ V2 u = none ∧ q2 = [(b, u)] := by
      rcases gg with ⟨_, rfl, rfl⟩ | ⟨i, c2, hic, hne, ho2, hre, rfl, rfl⟩ | ⟨a2, b2, c2, d2, hne, e1, e2, rfl, rfl⟩
      · exact ⟨rk, hok, hu, rfl⟩
      · have hi : i ≠ u := by
          rcases hic with ⟨rfl, _⟩ | ⟨rfl, _⟩
          · exact fun q => su (q ▸ sx3)
          · exact fun q => su (q ▸ sh)
        obtain ⟨rk2, hok2⟩ := vOK_bind ho2 hok (show D c2 by
          rcases hic with ⟨_, rfl⟩ | ⟨_, rfl⟩
          · exact d4
          · exact d3) hre
        exact ⟨rk2, hok2, by rw [vB_ne _ _ _ (Ne.symm hi)]; exact hu, rfl⟩
      · rw [ho] at e2
        cases e2
    obtain ⟨rk2, hok2, hu2, rfl⟩ := key
    obtain ⟨V3, q3, ⟨x0, y0, x4, y4, qs, e, ⟨d1, d2, d3, d4⟩, ⟨w1, w2, r1, r2⟩, ggg⟩, hrC⟩ := uRun_head hrB
    cases e
    have hy : y4 = u := tg_uniq (tg_wlk hok2 d2 w2 r2) (tg_self (fun e he => by rw [hu2] at he; cases he))
    subst hy
    obtain ⟨_, _, g4, _⟩ := uRun_head hrC
    rcases ggg with ⟨_, rfl, rfl⟩ | ⟨i, c2, hic, hne, ho2, _, rfl, rfl⟩ | ⟨a2, b2, c2, d2, hne, e1, e2, rfl, rfl⟩
    · exact uSt_nil g4
    · exact uSt_nil g4
    · rw [hu2] at e2
      cases e2
/-- a pair that nothing is bound to may be left out -/
theorem cCo_drop {sg : rSg} {s kb tp np nv c : Nat} {p : Nat → Nat} {fs ms : List Nat} {H : Nat → Prop} {K : Kx} (htn : tp ≤ np) (hc : cCo sg s kb tp np p nv (c :: fs) ms H K) (hcl : vCl (cV sg s kb 64) (cDm nv tp fs ms)) (hx1 : ∃ h, cV sg s kb 64 c = some (.inr (.inr (h, h + 1)))) (hx2 : ¬ cDm nv tp fs ms c) : cCo sg s kb tp np p nv fs ms H K := by
  obtain ⟨hw, hf, hk, hj⟩ := hc
  obtain ⟨f1, f2, f3, f4, f5, f6, ⟨rk, f7⟩, f8⟩ := id hf
  have hsub : ∀ {x}, cDm nv tp fs ms x → cDm nv tp (c :: fs) ms x := by
    intro x hx
    rcases hx with q | q | q | q | q
    · exact Or.inl q
    · exact Or.inr (Or.inl q)
    · exact Or.inr (Or.inr (Or.inl q))
    · exact Or.inr (Or.inr (Or.inr (Or.inl (List.mem_cons_of_mem _ q))))
    · exact Or.inr (Or.inr (Or.inr (Or.inr q)))
  have hinv : ∀ {x}, cDm nv tp (c :: fs) ms x → x = c ∨ cDm nv tp fs ms x := by
    intro x hx
    rcases hx with q | q | q | q | q
    · exact Or.inr (Or.inl q)
    · exact Or.inr (Or.inr (Or.inl q))
    · exact Or.inr (Or.inr (Or.inr (Or.inl q)))
    · rcases List.mem_cons.mp q with rfl | q
      · exact Or.inl rfl
      · exact Or.inr (Or.inr (Or.inr (Or.inr (Or.inl q))))
    · exact Or.inr (Or.inr (Or.inr (Or.inr (Or.inr q))))
  refine ⟨⟨Or.inl rfl, hw.2.1, fun x hx => hw.2.2.1 x (hsub hx), fun x hx g1 g2 => ?_, fun x hx g1 => ?_, fun i hi g1 => ?_⟩, ⟨f1, fun x hx => f2 x (List.mem_cons_of_mem _ hx), f3, f4, f5, f6, ⟨rk, fun x hx => ?_⟩, fun h hd hh => ?_⟩, fun r => ?_, ?_⟩
  · obtain ⟨a, b, e1, e2, d1, d2⟩ := hw.2.2.2.1 x (hsub hx) g1 g2
    have la := cWG_lt hw d1
    have lb := cWG_lt hw d2
    have := (hcl x hx).2 a b (cV_pair g1 g2 e1 e2 (by omega) (by omega))
    exact ⟨a, b, e1, e2, this.1, this.2⟩
  · exfalso
    have := hw.2.2.1 x (hsub hx)
    unfold cD cF at this
    have := hw.2.1
    omega
  · rcases cG_var hw (hsub hi) g1 with ⟨q, _⟩ | ⟨e, _, q1, q2⟩
    · exact Or.inl q
    · exact Or.inr ⟨e, q1, (hcl i hi).1 e q2⟩
  · have h0 := f7 x (hsub hx)
    refine ⟨fun e he => ⟨(hcl x hx).1 e he, (h0.1 e he).2⟩, h0.2.1, fun a b hp => ⟨⟨((hcl x hx).2 a b hp).1, (h0.2.2 a b hp).1.2⟩, ⟨((hcl x hx).2 a b hp).2, (h0.2.2 a b hp).2.2⟩⟩⟩
  · rcases f8 h (hsub hd) hh with q | ⟨o, g1, g2, g3⟩
    · exact Or.inl q
    · exact Or.inr ⟨o, g1, g2, fun v dv => g3 v (hsub dv)⟩
  · rw [hk r]
    constructor
    · rintro ⟨th, g1, g2⟩
      exact ⟨th, fun x hx => g1 x (hsub hx), g2⟩
    · rintro ⟨th, g1, g2⟩
      by_cases hcs : cDm nv tp fs ms c
      · refine ⟨th, fun x hx => ?_, g2⟩
        rcases hinv hx with rfl | q
        · exact g1 _ hcs
        · exact g1 x q
      · obtain ⟨c1, h, t, e, c2, c3, c4⟩ := f2 c List.mem_cons_self
        have hh := f4 h c2
        have dh : cDm nv tp fs ms h := Or.inl hh.2
        have dt : cDm nv tp fs ms t := Or.inl c3.2
        refine ⟨fun x => if x = c then nd (th h) (th t) else th x, fun x hx => ?_, fun v hv => ?_⟩
        · have ne : ∀ {y}, cDm nv tp fs ms y → (if y = c then nd (th h) (th t) else th y) = th y := fun {y} hy => by
            rw [if_neg]
            intro q
            rw [q] at hy
            exact hcs hy
          rcases hinv hx with rfl | q
          · rw [e]
            refine ⟨fun _ z => (by cases z), fun _ z => (by cases z), fun a b z => ?_⟩
            cases z
            simp only [if_true]
            rw [ne dh, ne dt]
          · have h0 := g1 x q
            have h9 := hcl x q
            refine ⟨fun e he => ?_, fun n hn => ?_, fun a b hp => ?_⟩
            · simp only [ne q, ne (h9.1 e he)]
              exact h0.1 e he
            · simp only [ne q]
              exact h0.2.1 n hn
            · simp only [ne q, ne (h9.2 a b hp).1, ne (h9.2 a b hp).2]
              exact h0.2.2 a b hp
        · show (if v = c then _ else th v) = r v
          rw [if_neg (by omega)]
          exact g2 v hv
  · obtain ⟨h, ex⟩ := hx1
    obtain ⟨c1, h2, t, e, c2, c3, c4⟩ := f2 c List.mem_cons_self
    rw [ex] at e
    cases e
    have hh := f4 h c2
    have hA : cAb (cV sg s kb 64) (c :: fs) = cAb (cV sg s kb 64) fs := funext fun b => propext ⟨fun ⟨b2, d, hd, hv⟩ => by
      rcases List.mem_cons.mp hd with rfl | hd
      · rw [ex] at hv
        simp only [Option.some.injEq, Sum.inr.injEq, Prod.mk.injEq] at hv
        omega
      · exact ⟨b2, d, hd, hv⟩, fun ⟨b2, d, hd, hv⟩ => ⟨b2, d, List.mem_cons_of_mem _ hd, hv⟩⟩
    unfold cJS at hj ⊢
    rw [hA] at hj
    have hnc : ∀ {x}, cDm nv tp fs ms x → x ≠ c := fun {x} hx q => hx2 (by rw [← q]; exact hx)
    refine JSg_drop (Tp := cTp (c :: fs) ms) (cd := c) hj (cFr_stru hf htn) (Or.inl List.mem_cons_self) (fun x => ⟨fun q => (hinv q).symm, fun q => ?_⟩) (fun x => ⟨fun q => ?_, fun q => ?_⟩) ex ⟨c2, Or.inl hh.2⟩ ⟨Or.inl c3.2, by unfold isV; omega, c4⟩ ⟨by unfold isV; omega, hx2⟩ (fun x hx => ⟨fun a b q => (hcl x hx).2 a b q, fun e q => (hcl x hx).1 e q⟩) (fun b hb => hb.1)
    · rcases q with q | rfl
      · exact hsub q
      · exact Or.inr (Or.inr (Or.inr (Or.inl List.mem_cons_self)))
    · rcases q with q | q | q
      · exact ⟨Or.inl q, by omega⟩
      · exact ⟨Or.inr (Or.inl (List.mem_cons_of_mem _ q)), hnc (Or.inr (Or.inr (Or.inr (Or.inl q))))⟩
      · exact ⟨Or.inr (Or.inr q), hnc (Or.inr (Or.inr (Or.inr (Or.inr q))))⟩
    · rcases q with ⟨q | q | q, q2⟩
      · exact Or.inl q
      · rcases List.mem_cons.mp q with q | q
        · exact absurd q q2
        · exact Or.inr (Or.inl q)
      · exact Or.inr (Or.inr q)
