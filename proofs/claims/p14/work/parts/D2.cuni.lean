/-! THE CLASS: unify in a state, exactly -/
def cZ (tp : Nat) (p : Nat → Nat) (c : Nat) : Nat := if c < 6 ∨ (128 ≤ c ∧ c < 139) ∨ (256 ≤ c ∧ c < 256 + tp) then p c else if c < 256 then 1 else 200
theorem cFr_dSz {sg : rSg} {s kb tp np nv : Nat} {p : Nat → Nat} {fs ms : List Nat} {H : Nat → Prop} (hf : cFr (cV sg s kb 64) tp np p nv fs ms H) (htn : tp ≤ np) : dSz (cV sg s kb 64) (cDm nv tp fs ms) 200 (cZ tp p) := by
  obtain ⟨f1, f2, f3, f4, f5, f6, _, _⟩ := id hf
  have told : ∀ {c}, cTd tp c → cZ tp p c = p c := fun h => if_pos h
  have small : ∀ {c}, 6 ≤ c → c < nv → cZ tp p c = 1 := fun {c} h1 h2 => by
    unfold cZ
    rw [if_neg (by omega), if_pos (by omega)]
  have big : ∀ {c}, 256 + tp ≤ c → cZ tp p c = 200 := fun {c} h1 => by
    unfold cZ
    rw [if_neg (by omega), if_neg (by omega)]
  intro c hc
  refine ⟨?_, ?_, fun a b hv => ?_⟩
  · unfold cZ
    split
    · next h => exact (f6 c h).1
    · split <;> omega
  · unfold cZ
    split
    · next h => have := (f6 c h).2; omega
    · split <;> omega
  · rcases cFr_code hf htn hc with q | q | ⟨q, _⟩
    · exact absurd hv (cV_nopair (by omega))
    · exact absurd hv (cV_nopair (by omega))
    · rcases q with q | q | q
      · obtain ⟨a2, b2, e, t1, t2, t3⟩ := f5 c q.1 q.2
        rw [hv] at e
        cases e
        rw [told t1, told t2, told (Or.inr (Or.inr q))]
        exact t3
      · obtain ⟨g1, a2, b2, e, t1, t2, _⟩ := f2 c q
        rw [hv] at e
        cases e
        have := f4 a t1
        rw [small this.1 this.2, small t2.1 t2.2, big g1.1]
        omega
      · obtain ⟨g1, a2, b2, e, t1, t2, _⟩ := f3 c q
        rw [hv] at e
        cases e
        have := f6 a t1
        rw [told t1, small t2.1 t2.2, big g1.1]
        omega
theorem cFr_low {sg : rSg} {s kb tp np nv : Nat} {p : Nat → Nat} {fs ms : List Nat} {H : Nat → Prop} (hf : cFr (cV sg s kb 64) tp np p nv fs ms H) (htn : tp ≤ np) (hcn : tp + fs.length + ms.length ≤ 500) (a b : Nat) : cLow (cV sg s kb 64) (cDm nv tp fs ms) a b := by
  have hnv := hf.1
  rintro W hext ⟨rk, hok⟩
  obtain ⟨hh, h1, h2⟩ := vHt_ex hok (cCs tp fs ms) (fun c x y hc hv => by
    have hv2 : cV sg s kb 64 c = some (.inr (.inr (x, y))) := by
      rcases hext c with q | ⟨_, e, q⟩
      · rw [← q]; exact hv
      · rw [q] at hv; cases hv
    exact (cFr_cOK hf htn (fun c h a b => cV_nopair (by omega))).1 c x y hc hv2)
  have hl : (cCs tp fs ms).length ≤ 500 := by
    simp only [cCs, List.length_append, List.length_map, List.length_range]
    omega
  exact ⟨hh, h1, by have := h2 a; omega, by have := h2 b; omega⟩
theorem vExt_pr {V W : Nat → TV} (h : vExt V W) {c a b : Nat} (hw : W c = some (.inr (.inr (a, b)))) : V c = some (.inr (.inr (a, b))) := by
  rcases h c with q | ⟨_, e, q⟩
  · rw [← q]; exact hw
  · rw [q] at hw; cases hw
/-- what unify leaves: the bindings of one state, the unifier's own cells -/
theorem cc_unifyG {sg : rSg} {s kb tp np nv l : Nat} {p : Nat → Nat} {fs ms : List Nat} {H : Nat → Prop} {K : Kx} (hs : isScr s) (hkb : isArr kb 64) (hks : kb ≠ s + 3) (htn : tp ≤ np) (hc : cCo sg s kb tp np p nv fs ms H K) (hcl : tp + fs.length + ms.length ≤ 500) (hl : cSn sg l) (hl0 : l + 300 < 2 ^ 32) {a b : Nat} (hfew : ∀ th n W rs, vSol (cV sg s kb 64) (cDm nv tp fs ms) th → th a = th b → uRun (cDm nv tp fs ms) (cV sg s kb 64) [(a, b)] n W rs → n < 900000) (da : cDm nv tp fs ms a) (db : cDm nv tp fs ms b) (ha : ¬ H a) (hb : ¬ H b) {f g : Tf} (hda : dnt (cV sg s kb 64) (cDm nv tp fs ms) a f) (hdb : dnt (cV sg s kb 64) (cDm nv tp fs ms) b g) (la : cAr tp p nv fs ms H a) (lb : cAr tp p nv fs ms H b) :
    EvS rSkel 4 65 [.inr (.inr (some 1)), .inr (.inr (some s)), .inr (.inr (some kb)), .inl (nI a), .inl (nI b)] sg (fun r t => ∃ x bs, r = some (.inl x) ∧ cBd sg t kb 64 bs ∧ (∃ l2, cSn t l2 ∧ l2 ≤ l + 65) ∧
      ((x = 1 ∧ sax (uni K f g) ∧ cCo t s kb tp np p nv fs ms H (uni K f g) ∧ vExt (cV sg s kb 64) (cV t s kb 64) ∧ (bs = [] ↔ ∀ r, K r → f r = g r) ∧ ∃ n, uRun (cDm nv tp fs ms) (cV sg s kb 64) [(a, b)] n (cV t s kb 64) []) ∨ (x = 0 ∧ ¬ sax (uni K f g)))) := by
  obtain ⟨hw, hf, hk, hj⟩ := hc
  refine (cG_unify hs hkb hks hw hf.2.2.2.2.2.2.1 hl hl0 da db (cFr_low hf htn hcl a b) (by decide) (cFr_dSz hf htn)).imp ?_
  rintro _ t ⟨x, bs, rfl, hW, hok, hext, hbd, ⟨l2, hl2, hl3⟩, hout⟩
  have hop := hbd.2.2.2.2.2
  have hop2 := opensC_le sg kb 64
  refine ⟨x, bs, rfl, hbd, ⟨l2, hl2, by omega⟩, ?_⟩
  have fail : (∀ th, vSol (cV sg s kb 64) (cDm nv tp fs ms) th → th a ≠ th b) → ¬ sax (uni K f g) := by
    rintro h ⟨r, h1, h2⟩
    obtain ⟨th, g1, g2⟩ := (hk r).mp h1
    refine h th g1 ?_
    rw [hda th g1 r g2, hdb th g1 r g2]
    exact h2
  rcases hout with ⟨hx, hsol, hbs, n, hrun⟩ | ⟨hx, hno⟩ | ⟨hx, n, W, rs, hn, hrun, hne⟩
  · obtain ⟨rk, hok⟩ := hok
    obtain ⟨th, ht, _⟩ := vSol_ex hok (fun _ => 0)
    have ht2 := (hsol th).mp ht
    refine Or.inl ⟨hx, ⟨th, ⟨(hk th).mpr ⟨th, ht2.1, fun _ _ => rfl⟩, ?_⟩⟩, ⟨hW, cFr_run hf htn ha hb ht2.1 ht2.2 hrun, fun r => ?_, cJS_run hf htn hj la lb hrun (fun th h => (hsol th).mp h) (fun c x y => ⟨fun h => vExt_pr hext h, fun h => by
      rcases hext c with q | ⟨q, _⟩
      · rw [q]; exact h
      · rw [h] at q; cases q⟩)⟩, hext, ?_, n, hrun⟩
    · rw [← hda th ht2.1 th (fun _ _ => rfl), ← hdb th ht2.1 th (fun _ _ => rfl)]
      exact ht2.2
    · constructor
      · rintro ⟨h1, h2⟩
        obtain ⟨th, g1, g2⟩ := (hk r).mp h1
        exact ⟨th, (hsol th).mpr ⟨g1, by rw [hda th g1 r g2, hdb th g1 r g2]; exact h2⟩, g2⟩
      · rintro ⟨th, g1, g2⟩
        have := (hsol th).mp g1
        exact ⟨(hk r).mpr ⟨th, this.1, g2⟩, by rw [← hda th this.1 r g2, ← hdb th this.1 r g2]; exact this.2⟩
    · constructor
      · intro hb0 r hr
        obtain ⟨th, g1, g2⟩ := (hk r).mp hr
        have same : cV t s kb 64 = cV sg s kb 64 := by
          have e3 : t (s + 3) = sg (s + 3) := hbd.1 _ (Or.inr (by have := hs.1; omega)) (Ne.symm hks)
          funext c
          simp only [cV, e3]
          by_cases h1 : c < 128
          · simp only [if_pos h1]
            by_cases h2 : c < 64
            · rw [hbd.2.2.2.2.1 c h2 (by rw [hb0]; exact List.not_mem_nil)]
            · rw [if_neg (fun q => h2 q.1), if_neg (fun q => h2 q.1)]
          · simp only [if_neg h1]
        have := (hsol th).mp (by rw [same]; exact g1)
        rw [← hda th g1 r g2, ← hdb th g1 r g2]
        exact this.2
      · intro hall
        rcases hbs with q | ⟨th, g1, g2⟩
        · exact q
        · exfalso
          refine g2 ?_
          rw [hda th g1 th (fun _ _ => rfl), hdb th g1 th (fun _ _ => rfl)]
          exact hall th ((hk th).mpr ⟨th, g1, fun _ _ => rfl⟩)
  · exact Or.inr ⟨hx, fail hno⟩
  · refine Or.inr ⟨hx, fail (fun th h1 h2 => ?_)⟩
    have := hfew th n W rs h1 h2 hrun
    omega
theorem cc_unify {sg : rSg} {s kb tp np nv l : Nat} {p : Nat → Nat} {fs ms : List Nat} {H : Nat → Prop} {K : Kx} (hs : isScr s) (hkb : isArr kb 64) (hks : kb ≠ s + 3) (htn : tp ≤ np) (hc : cCo sg s kb tp np p nv fs ms H K) (hcn : cCn tp fs.length ms.length) (hl : cSn sg l) (hl0 : l + 300 < 2 ^ 32) {a b : Nat} (da : cDm nv tp fs ms a) (db : cDm nv tp fs ms b) (ha : ¬ H a) (hb : ¬ H b) {f g : Tf} (hda : dnt (cV sg s kb 64) (cDm nv tp fs ms) a f) (hdb : dnt (cV sg s kb 64) (cDm nv tp fs ms) b g) (la : cAr tp p nv fs ms H a) (lb : cAr tp p nv fs ms H b) :
    EvS rSkel 4 65 [.inr (.inr (some 1)), .inr (.inr (some s)), .inr (.inr (some kb)), .inl (nI a), .inl (nI b)] sg (fun r t => ∃ x bs, r = some (.inl x) ∧ cBd sg t kb 64 bs ∧ (∃ l2, cSn t l2 ∧ l2 ≤ l + 65) ∧
      ((x = 1 ∧ sax (uni K f g) ∧ cCo t s kb tp np p nv fs ms H (uni K f g) ∧ vExt (cV sg s kb 64) (cV t s kb 64) ∧ (bs = [] ↔ ∀ r, K r → f r = g r) ∧ ∃ n, uRun (cDm nv tp fs ms) (cV sg s kb 64) [(a, b)] n (cV t s kb 64) []) ∨ (x = 0 ∧ ¬ sax (uni K f g)))) :=
  cc_unifyG hs hkb hks htn hc (by unfold cCn at hcn; omega) hl hl0 (fun th n W rs h1 h2 hr => cFr_few hc.2.1 htn hcn ha hb h1 h2 hr) da db ha hb hda hdb la lb
/-- unify does not touch what others look at -/
theorem cBd_same {sg t : rSg} {s kb nv tp : Nat} {fs ms : List Nat} {bs : List Nat} {s2 kb2 : Nat} (h : cBd sg t kb 64 bs) (h1 : 5 < s2 + 3) (h2 : 5 < kb2) (h3 : s2 + 3 ≠ kb) (h4 : kb2 ≠ kb) : cSame s2 kb2 s2 kb2 nv tp fs ms sg t :=
  ⟨fun i _ => by rw [h.1 kb2 (Or.inr h2) h4], fun c _ => by rw [h.1 (s2 + 3) (Or.inr h1) h3]; exact ⟨rfl, rfl⟩⟩
