/-! THE CLASS: a search begins, scripts are copied -/
theorem cFr_0 {sg : rSg} {s kb tp np : Nat} {p : Nat → Nat} (hto : cTo sg s tp p) (htn : tp ≤ np) (hn9 : np ≤ 640) (hkb : ∀ j, j < 6 → sg kb j = -1) : cCo sg s kb tp np p 6 [] [] (fun _ => False) (fun _ => True) := by
  have hV : ∀ c, c < 6 → cV sg s kb 64 c = none := fun c hc => by
    unfold cV
    rw [if_pos (by omega), if_neg (fun q => q.2 (hkb c hc))]
  have hP : ∀ c, 256 ≤ c → c < 256 + tp → ∃ a b, (sg (s + 3) (2 * (c - 256)) = nI a ∧ sg (s + 3) (2 * (c - 256) + 1) = nI b) ∧ cV sg s kb 64 c = some (.inr (.inr (a, b))) ∧ cTd tp a ∧ cTd tp b ∧ p a + p b < p c := fun c h1 h2 => by
    obtain ⟨a, b, e1, e2, g1, g2, g3, _⟩ := hto.2 c h1 h2
    have la : a < 2 ^ 31 := by rcases g1 with q | q | q <;> omega
    have lb : b < 2 ^ 31 := by rcases g2 with q | q | q <;> omega
    refine ⟨a, b, ⟨e1, e2⟩, ?_, g1, g2, g3⟩
    unfold cV
    rw [if_neg (by omega), if_neg (by omega), if_pos (by omega), e1, e2, nI_clamp la, nI_clamp lb]
  have hA : ∀ c, 128 ≤ c → c < 139 → cV sg s kb 64 c = some (.inr (.inl (c - 128))) := fun c h1 h2 => by
    unfold cV
    rw [if_neg (by omega), if_pos (by omega)]
  have cases : ∀ c, cDm 6 tp [] [] c → c < 6 ∨ (128 ≤ c ∧ c < 139) ∨ (256 ≤ c ∧ c < 256 + tp) := fun c hc => by
    rcases hc with q | q | q | q | q
    · exact Or.inl q
    · exact Or.inr (Or.inl q)
    · exact Or.inr (Or.inr q)
    · cases q
    · cases q
  have tdD : ∀ {c}, cTd tp c → cDm 6 tp [] [] c := fun h => cTd_D (by decide) h
  have hok : vOK (cV sg s kb 64) (cDm 6 tp [] []) p := fun c hc => by
    rcases cases c hc with q | q | q
    · rw [hV c q]
      exact ⟨fun _ z => (by cases z), fun _ z => (by cases z), fun _ _ z => (by cases z)⟩
    · rw [hA c q.1 q.2]
      exact ⟨fun _ z => (by cases z), fun n z => (by
        have z2 : c - 128 = n := Sum.inl.inj (Sum.inr.inj (Option.some.inj z))
        omega), fun _ _ z => (by cases z)⟩
    · obtain ⟨a, b, _, e, g1, g2, g3⟩ := hP c q.1 q.2
      rw [e]
      exact ⟨fun _ z => (by cases z), fun n z => (by cases z), fun x y z => (by
        cases z
        have pa := (hto.1 a g1).1
        have pb := (hto.1 b g2).1
        exact ⟨⟨tdD g1, by omega⟩, ⟨tdD g2, by omega⟩⟩)⟩
  refine ⟨⟨Or.inl rfl, hn9, fun c hc => ?_, fun c hc h1 h2 => ?_, fun c hc h1 => ?_, fun i hi h1 => ?_⟩, ⟨⟨by decide, by decide⟩, fun c hc => (by cases hc), fun c hc => (by cases hc), fun h q => q.elim, fun c h1 h2 => ?_, hto.1, ⟨p, hok⟩, fun h _ q => q.elim⟩, fun r => ⟨fun _ => ?_, fun _ => trivial⟩, ?_⟩
  · refine Or.inl ?_
    rcases cases c hc with q | q | q
    · exact Or.inl (by omega)
    · exact Or.inr (Or.inl q)
    · exact Or.inr (Or.inr (by omega))
  · have q : 256 ≤ c ∧ c < 256 + tp := by have := cases c hc; omega
    obtain ⟨a, b, e, _, g1, g2, _⟩ := hP c q.1 q.2
    exact ⟨a, b, e.1, e.2, tdD g1, tdD g2⟩
  · have := cases c hc; omega
  · have q : i < 6 := by have := cases i hi; omega
    exact Or.inl (hkb i q)
  · obtain ⟨a, b, _, e, g1, g2, g3⟩ := hP c h1 h2
    exact ⟨a, b, e, g1, g2, g3⟩
  · obtain ⟨th, q1, q2, _⟩ := vSol_ex hok r
    refine ⟨fun c => if c < 64 then r c else th c, fun c hc => ?_, fun v hv => if_pos hv⟩
    have same : ∀ {e}, cDm 6 tp [] [] e → (if e < 64 then r e else th e) = th e := fun {e} he => by
      by_cases g : e < 64
      · rw [if_pos g]
        have : e < 6 := by have := cases e he; omega
        exact (q2 e (hV e this)).symm
      · rw [if_neg g]
    obtain ⟨k1, k2, k3⟩ := q1 c hc
    obtain ⟨o1, o2, o3⟩ := hok c hc
    exact ⟨fun e he => (same hc).trans ((k1 e he).trans (same (o1 e he).1).symm), fun n hn => (same hc).trans (k2 n hn), fun a b hab => by
      have y := o3 a b hab
      show (if c < 64 then r c else th c) = nd (if a < 64 then r a else th a) (if b < 64 then r b else th b)
      rw [same hc, same y.1.1, same y.2.1]
      exact k3 a b hab⟩
  · have e : cAb (cV sg s kb 64) [] = fun _ => False := funext fun b => propext ⟨fun ⟨_, c, hc, _⟩ => (by cases hc), fun q => q.elim⟩
    show JSg (cV sg s kb 64) (cDm 6 tp [] []) (fun _ => False) (cRt tp p [] []) (cAb (cV sg s kb 64) [])
    rw [e]
    refine JSg_new (fun c x dc q => ?_)
    rcases cases c dc with z | z | z
    · rw [hV c z] at q; cases q
    · rw [hA c z.1 z.2] at q; cases q
    · obtain ⟨a, b, _, e, _⟩ := hP c z.1 z.2
      rw [e] at q
      cases q
/-- a script that holds just what was told -/
def scN (C : Cf) (t : rSg) (s top nT : Nat) : Prop := scT C t s top nT ∧ t s 3 = nI C.ng ∧ t s 4 = nI C.tp
theorem ce_33 {C : Cf} {top nT : Nat} (hC : cfT C top) {b : Nat} (hb : isSeaA rSkel b) {sg : rSg} (hs : scN C sg (b + 1) top nT) : EvS rSkel 3 33 [.inr (.inr (some b))] sg (fun v t => v = none ∧ cSe C t b (bgn top) ∧ scT C t (b + 1) top nT ∧ (∀ j, j < b ∨ b + 223 < j → t j = sg j)) := by
  refine (c_begin hb sg).imp ?_
  rintro _ t ⟨rfl, h1, h2, h7, h8, h9, h10, h11, h12, k2, k3, k4, k5, k6, k7⟩
  obtain ⟨⟨t5, t6, t7, t8, hto, htab, hz⟩, s3, s4⟩ := hs
  have e : ∀ j, b < j → j < b + 6 → t j = sg j := fun j g1 g2 => h1 j (by omega)
  have hss : scSame C.tp C.ng (b + 1) (b + 1) sg t := scSame.of (e _ (by omega) (by omega)) (e _ (by omega) (by omega)) (e _ (by omega) (by omega))
  have htp : C.tp ≤ 640 := by have := hC.1.2.2.1; omega
  have hto2 := cTo_same (t := t) (s2 := b + 1) hto hss.1
  have htab2 := cTab_same (t := t) (s2 := b + 1) hto htp hss htab
  have hng := hC.1.1
  have htp2 := hC.1.2.2.1
  refine ⟨rfl, ⟨C.tp, C.ng, ⟨⟨Nat.le_refl _, htp, Nat.le_refl _, by omega⟩, by rw [e _ (by omega) (by omega)]; exact s3, by rw [e _ (by omega) (by omega)]; exact s4, hto2, htab2⟩, ⟨0, ⟨h7, by decide⟩, ⟨h8, by simp [bgn]⟩, h9, ⟨h10, by simp [bgn]⟩, h11, h12, fun i X hi => ?_, fun i n X hi => by simp [bgn] at hi⟩, by simp [bgn]; omega, by simp [bgn]; omega, by simp [bgn], fun a ha => by simp [bgn] at ha⟩, ⟨by rw [e _ (by omega) (by omega)]; exact t5, by rw [e _ (by omega) (by omega)]; exact t6, by rw [e _ (by omega) (by omega)]; exact t7, by rw [e _ (by omega) (by omega)]; exact t8, hto2, htab2, hz⟩, fun j hj => h1 j (by omega)⟩
  have hi0 : i = 0 ∧ X = ([.inl top], [], 6, fun _ => True) := by
    cases i with
    | zero => simp [bgn] at hi; exact ⟨rfl, hi.symm⟩
    | succ i => simp [bgn] at hi
  obtain ⟨rfl, rfl⟩ := hi0
  refine ⟨⟨[], [], fun _ => False, [top], k2, k3, ⟨?_, trivial⟩, ⟨Or.inl ⟨hC.2.1, rfl⟩, trivial⟩, ?_, cFr_0 hto2 (Nat.le_refl _) htp k5, ⟨by simp, fun _ => by simp, ?_, ?_, fun q => ?_, fun g hg => by cases hg⟩, [], HsO.bgn, fun g _ => ?_, fun c hc => (by cases hc), fun c hc => (by cases hc), fun c hc => (by cases hc), fun c hc => (by cases hc), fun q hq => (by cases hq)⟩, show 6 ≤ 60 by decide⟩
  · show t (b + 6 + 3 * ((0 + 0) % 40) + 2) 0 = nI top
    rw [show b + 6 + 3 * ((0 + 0) % 40) + 2 = b + 8 by omega, k6]
    exact t5
  · show kbt (t (b + 6 + 3 * ((0 + 0) % 40)) 4) []
    rw [show b + 6 + 3 * ((0 + 0) % 40) = b + 6 by omega, k4]
    exact ⟨fun g _ => by simp, List.nodup_nil, fun g hg => by cases hg⟩
  · show 0 + (C.wm top + 0) ≤ C.mu
    have := hC.2.2.2.1; omega
  · show C.wt top + 0 ≤ 26
    have := hC.2.2.1; omega
  · show 0 + (C.oc top q + 0) ≤ 1
    have := hC.2.2.2.2 q; omega
  · show 0 + (C.oc top g + 0) ≤ 1
    have := hC.2.2.2.2 g; omega
theorem ce_27 {s s2 : Nat} (hs : isScr s) (hs2 : isScr s2) (hss : s + 3 < s2 ∨ s2 + 3 < s) (sg : rSg) {g n : Nat} (hg : g ≤ 326) (hn : n ≤ 640) : EvS rSkel 1 27 [.inr (.inr (some s)), .inr (.inr (some s2)), .inl (nI g), .inl (nI n)] sg (fun v t => v = none ∧ scSame n g s2 s sg t ∧ t s 3 = nI g ∧ t s 4 = nI n ∧ (∀ j, 5 ≤ j → j ≤ 8 → t s j = sg s2 j) ∧ ∀ q, q ≠ s → q ≠ s + 1 → q ≠ s + 2 → q ≠ s + 3 → t q = sg q) := by
  refine w_27 sg s hs s2 hs2 hss _ _ ?_
  rw [show imin (imax (nI g) 0) 326 = nI g from imin_nI (m := 326) hg (by decide), show imin (imax (nI n) 0) 640 = nI n from imin_nI (m := 640) hn (by decide), show (3 : Int32) * nI g = nI (3 * g) by rw [show (3 : Int32) = nI 3 from rfl, pk_mul], show (2 : Int32) * nI n = nI (2 * n) by rw [show (2 : Int32) = nI 2 from rfl, pk_mul], nI_clamp (by omega), nI_clamp (by omega), nI_clamp (by omega)]
  have z : ¬ (0 : Int32) < 0 := by decide
  refine ⟨⟨z, z, nI_pos (by omega), ?_, ?_⟩, ⟨z, z, nI_pos (by omega), ?_, ?_⟩, ⟨z, z, nI_pos (by omega), ?_, ?_⟩, ?_⟩
  · rw [cl0]; omega
  · rw [cl0]; omega
  · rw [cl0]; omega
  · rw [cl0]; omega
  · rw [cl0]; omega
  · rw [cl0]; omega
  · rw [cl0]
    generalize eA : up2 (up2 sg s 3 (nI g)) s 4 (nI n) = A
    have a0 : ∀ q, q ≠ s → A q = sg q := fun q hq => by rw [← eA, up2_nk _ _ _ hq, up2_nk _ _ _ hq]
    have a3 : A s 3 = nI g := by rw [← eA, up2_nj _ _ _ (by decide), up2_same]
    have a4 : A s 4 = nI n := by rw [← eA, up2_same]
    have aj : ∀ j, 5 ≤ j → A s j = sg s j := fun j hj => by rw [← eA, up2_nj _ _ _ (by omega), up2_nj _ _ _ (by omega)]
    generalize eB : upC A (s + 1) (va_cpy (A (s2 + 1)) (A (s + 1)) 0 0 g) = B
    have b0 : ∀ q, q ≠ s + 1 → B q = A q := fun q hq => by rw [← eB, upC_ne _ _ hq]
    have b1 : B (s + 1) = va_cpy (A (s2 + 1)) (A (s + 1)) 0 0 g := by rw [← eB, upC_same]
    generalize eD : upC B (s + 2) (va_cpy (B (s2 + 2)) (B (s + 2)) 0 0 (3 * g)) = D
    have d0 : ∀ q, q ≠ s + 2 → D q = B q := fun q hq => by rw [← eD, upC_ne _ _ hq]
    have d1 : D (s + 2) = va_cpy (B (s2 + 2)) (B (s + 2)) 0 0 (3 * g) := by rw [← eD, upC_same]
    generalize eE : upC D (s + 3) (va_cpy (D (s2 + 3)) (D (s + 3)) 0 0 (2 * n)) = E
    have e0 : ∀ q, q ≠ s + 3 → E q = D q := fun q hq => by rw [← eE, upC_ne _ _ hq]
    have e1 : E (s + 3) = va_cpy (D (s2 + 3)) (D (s + 3)) 0 0 (2 * n) := by rw [← eE, upC_same]
    have all : ∀ q, q ≠ s → q ≠ s + 1 → q ≠ s + 2 → q ≠ s + 3 → E q = sg q := fun q h1 h2 h3 h4 => by rw [e0 q h4, d0 q h3, b0 q h2, a0 q h1]
    have es : E s = A s := by rw [e0 s (by omega), d0 s (by omega), b0 s (by omega)]
    generalize eF : up2 (up2 (up2 (up2 E s 5 (sg s2 5)) s 6 (sg s2 6)) s 7 (sg s2 7)) s 8 (sg s2 8) = F
    have f0 : ∀ q, q ≠ s → F q = E q := fun q hq => by rw [← eF, up2_nk _ _ _ hq, up2_nk _ _ _ hq, up2_nk _ _ _ hq, up2_nk _ _ _ hq]
    refine ⟨rfl, ⟨fun j hj => ?_, fun j hj => ?_, fun j hj => ?_⟩, ?_, ?_, fun j h5 h8 => ?_, fun q h1 h2 h3 h4 => by rw [f0 q h1, all q h1 h2 h3 h4]⟩
    · rw [f0 _ (by omega), e1, cpy_lt hj, d0 _ (by omega), b0 _ (by omega), a0 _ (by omega)]
    · rw [f0 _ (by omega), e0 _ (by omega), d0 _ (by omega), b1, cpy_lt hj, a0 _ (by omega)]
    · rw [f0 _ (by omega), e0 _ (by omega), d1, cpy_lt hj, b0 _ (by omega), a0 _ (by omega)]
    · rw [← eF, up2_nj _ _ _ (by decide), up2_nj _ _ _ (by decide), up2_nj _ _ _ (by decide), up2_nj _ _ _ (by decide), es, a3]
    · rw [← eF, up2_nj _ _ _ (by decide), up2_nj _ _ _ (by decide), up2_nj _ _ _ (by decide), up2_nj _ _ _ (by decide), es, a4]
    · have : j = 5 ∨ j = 6 ∨ j = 7 ∨ j = 8 := by omega
      rcases this with rfl | rfl | rfl | rfl
      · rw [← eF, up2_nj _ _ _ (by decide), up2_nj _ _ _ (by decide), up2_nj _ _ _ (by decide), up2_same]
      · rw [← eF, up2_nj _ _ _ (by decide), up2_nj _ _ _ (by decide), up2_same]
      · rw [← eF, up2_nj _ _ _ (by decide), up2_same]
      · rw [← eF, up2_same]
/-- what the other was told -/
theorem ce_26 {C : Cf} {top nT : Nat} (hC : cfOK C) {s s2 : Nat} (hs : isScr s) (hs2 : isScr s2) (hss : s + 3 < s2 ∨ s2 + 3 < s) {sg : rSg} (h : scT C sg s2 top nT) : EvS rSkel 2 26 [.inr (.inr (some s)), .inr (.inr (some s2))] sg (fun v t => v = none ∧ scN C t s top nT ∧ ∀ q, q ≠ s → q ≠ s + 1 → q ≠ s + 2 → q ≠ s + 3 → t q = sg q) := by
  obtain ⟨t5, t6, t7, t8, hto, htab, hz⟩ := h
  have hng := hC.1
  have htp := hC.2.2.1
  refine w_26 sg s hs s2 hs2 hss ?_
  rw [t6, t7]
  refine (ce_27 hs hs2 hss sg (g := C.ng) (n := C.tp) (by omega) (by omega)).imp ?_
  rintro _ t ⟨rfl, h1, h3, h4, h5, h6⟩
  exact ⟨rfl, rfl, ⟨⟨by rw [h5 5 (by decide) (by decide)]; exact t5, by rw [h5 6 (by decide) (by decide)]; exact t6, by rw [h5 7 (by decide) (by decide)]; exact t7, by rw [h5 8 (by decide) (by decide)]; exact t8, cTo_same hto h1.1, cTab_same hto (by omega) h1 htab, hz⟩, h3, h4⟩, h6⟩
