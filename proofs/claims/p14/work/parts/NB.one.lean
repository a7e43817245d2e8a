/-! ONE ANSWER of two: its unfolds, its codes -/
def oneA (C : Cf) (V0 : Nat → TV) (D Hd Rt Ab : Nat → Prop) (th : Nat → Nat) (V : Nat → TV) (np nv : Nat) (fs ms : List Nat) (H : Nat → Prop) (L : List Bk) (f : Nat → Nat) : Prop :=
  (emS V0 D Hd Rt V (cDm nv C.tp fs ms) H (cRt C.tp C.p fs ms) th f ∧ emA Ab (cAb V fs) (cDm nv C.tp fs ms) f ∧ vSol V0 D th) ∧
  (cFr V C.tp np C.p nv fs ms H ∧ hLk C nv V fs ms L ∧ hCt C [] L ∧ nv ≤ 60) ∧
  (∃ K, HsO C.tb [] nv K L ∧ K (fun v => th (f v))) ∧
  ((∀ c, 256 ≤ c → c < 256 + C.tp → V c = some (.inr (.inr (qaC C c, qbC C c)))) ∧ (∀ c a b, V c = some (.inr (.inr (a, b))) → 256 ≤ c) ∧ C.tp ≤ np ∧ np ≤ 640) ∧
  ((∀ v, v < 64 → f v = f 0 + v) ∧ ∀ c, cTd C.tp c → th (f c) = th c) ∧
  ∀ g, g < C.ng → ((C.tb g).1 = 77 ∨ (C.tb g).1 = 65 → tb1 C.tb g (fun v => th (f v)) = th (px C g)) ∧ ((C.tb g).1 = 65 → tb2 C.tb g (fun v => th (f v)) = th (py C g) ∧ tb3 C.tb g (fun v => th (f v)) = th (pz C g))
/-- its unfolds -/
def unO (idf ix : Nat → Nat) (th f : Nat → Nat) (L : List Bk) : List Uf := (L.filter (fun q => decide (bkK q = 0))).map (fun q => (ix (bkG q), f (bkR q), idf (f (bkB q)), utv (fun v => th (f v)) q, uhv (fun v => th (f v)) q))
/-- its 'M's that go on -/
def cmO (th f : Nat → Nat) (L : List Bk) : List Nat := (L.filter (fun q => decide (bkK q = 1))).map (fun q => utv (fun v => th (f v)) q)
/-- its pairs of lists that no unfold has made -/
def ctQ (V0 : Nat → TV) (D Hd Rt : Nat → Prop) (th : Nat → Nat) (V : Nat → TV) (Di : Nat → Prop) (fs : List Nat) (f : Nat → Nat) (c : Nat) : Prop := Di c ∧ tLR V0 D Hd Rt th (f c) ∧ (∃ a b, V c = some (.inr (.inr (a, b)))) ∧ c ∉ fs
noncomputable def ctO (V0 : Nat → TV) (D Hd Rt : Nat → Prop) (th : Nat → Nat) (V : Nat → TV) (Di : Nat → Prop) (fs : List Nat) (f : Nat → Nat) : List Nat := ((List.range 896).filter (fun c => @decide (ctQ V0 D Hd Rt th V Di fs f c) (Classical.propDecidable _))).map (fun c => th (f c))
theorem two_len {A : Type} (p : A → Bool) : ∀ l : List A, l.length = (l.filter p).length + (l.filter (fun x => !p x)).length
  | [] => rfl
  | x :: l => by
    have ih := two_len p l
    cases h : p x with
    | true =>
      rw [List.filter_cons_of_pos h, List.filter_cons_of_neg (by rw [h]; decide)]
      simp only [List.length_cons]
      omega
    | false =>
      rw [List.filter_cons_of_neg (by rw [h]; decide), List.filter_cons_of_pos (by rw [h]; rfl)]
      simp only [List.length_cons]
      omega
theorem four_len {p0 p1 p2 p3 : Nat → Bool} : ∀ l : List Nat, (∀ c ∈ l, p0 c = true ∨ p1 c = true ∨ p2 c = true ∨ p3 c = true) → l.length ≤ (l.filter p0).length + (l.filter p1).length + (l.filter p2).length + (l.filter p3).length
  | [], _ => Nat.zero_le _
  | x :: l, h => by
    have ih := four_len l (fun c hc => h c (List.mem_cons_of_mem _ hc))
    have hx := h x List.mem_cons_self
    simp only [List.filter_cons]
    have le : ∀ (p : Nat → Bool), (l.filter p).length ≤ (if p x = true then x :: l.filter p else l.filter p).length := fun p => by
      by_cases z : p x = true
      · rw [if_pos z]; simp only [List.length_cons]; omega
      · rw [if_neg z]; exact Nat.le_refl _
    have up : ∀ (p : Nat → Bool), p x = true → (l.filter p).length + 1 ≤ (if p x = true then x :: l.filter p else l.filter p).length := fun p z => by
      rw [if_pos z]; simp only [List.length_cons]; omega
    have a0 := le p0
    have a1 := le p1
    have a2 := le p2
    have a3 := le p3
    simp only [List.length_cons]
    rcases hx with z | z | z | z
    · have := up p0 z; omega
    · have := up p1 z; omega
    · have := up p2 z; omega
    · have := up p3 z; omega
theorem cnt_bk (l : List Bk) (g : Bk → Nat) (w : Nat) : (l.map g).count w = ((l.filter (fun q => g q == w)).map bkB).length := by
  rw [List.count_eq_countP, List.countP_map, List.countP_eq_length_filter, List.length_map]
  rfl
section
variable {C : Cf} {V0 V : Nat → TV} {D Hd Rt Ab H : Nat → Prop} {th sz gs f idf ix : Nat → Nat} {np nv nT : Nat} {fs ms : List Nat} {L : List Bk}
theorem oneA.code (h : oneA C V0 D Hd Rt Ab th V np nv fs ms H L f) {c a b : Nat} (dc : cDm nv C.tp fs ms c) (hv : V c = some (.inr (.inr (a, b)))) : (256 ≤ c ∧ c < 896) ∧ ((256 ≤ c ∧ c < 256 + C.tp) ∨ c ∈ fs ∨ c ∈ ms) := by
  obtain ⟨_, ⟨hf, _, _, hn⟩, _, ⟨_, hno, htn, hn9⟩, _⟩ := h
  have h256 := hno c a b hv
  rcases dc with q | q | q | q | q
  · omega
  · omega
  · exact ⟨by omega, Or.inl q⟩
  · have := (hf.2.1 c q).1
    exact ⟨by omega, Or.inr (Or.inl q)⟩
  · have := (hf.2.2.1 c q).1
    exact ⟨by omega, Or.inr (Or.inr q)⟩
theorem oneA.sol (h : oneA C V0 D Hd Rt Ab th V np nv fs ms H L f) : vSol V (cDm nv C.tp fs ms) (fun c => th (f c)) := emS_sol h.1.1 h.1.2.2
theorem oneA.val (h : oneA C V0 D Hd Rt Ab th V np nv fs ms H L f) {c a b : Nat} (dc : cDm nv C.tp fs ms c) (hv : V c = some (.inr (.inr (a, b)))) : th (f c) = nd (th (f a)) (th (f b)) := (h.sol c dc).2.2 a b hv
theorem oneA.pos (h : oneA C V0 D Hd Rt Ab th V np nv fs ms H L f) (hT : tolA C th sz gs nT) {c : Nat} (hc : cDm nv C.tp fs ms c) (hr : tLR V0 D Hd Rt th (f c)) (htd : 256 ≤ c ∧ c < 256 + C.tp) : c ∈ plR C th sz 0 C.ng := by
  have hcode := fun {c a b : Nat} (dc : cDm nv C.tp fs ms c) (hv : V c = some (.inr (.inr (a, b)))) => (h.code dc hv).2
  have hsl := h.sol
  obtain ⟨⟨em, ea, hs⟩, ⟨hf, hl, hct, hv⟩, _, ⟨hp, hno, htn, hn9⟩, ⟨_, heq⟩, _⟩ := h
  obtain ⟨hT1, _, hrt, hg, _⟩ := hT
  have nmE : ∀ w, nmO (fun c => th (f c)) w = nmO th w := em.2.2.2.2.2.2.2.1
  have hT2 : toT (nmO (fun c => th (f c))) (fun c => th (f c)) (qaC C) (qbC C) sz C.tp := toT_cg hT1 heq nmE
  have cg : ∀ c l, cTd C.tp c → posA (nmO (fun c => th (f c))) (fun c => th (f c)) (qaC C) (qbC C) sz l c = pA C th sz l c := fun c l hc => posC_cg heq nmE (fun c h1 h2 => (hT1.2 c h1 h2).1) _ c l hc
  have inR : ∀ {g c}, g < C.ng → c ∈ plG C th sz g → c ∈ plR C th sz 0 C.ng := fun hg hc => mem_plR hc (Nat.zero_le _) (by omega)
  have main := (tLR_pos (V := V) (D := cDm nv C.tp fs ms) (H := H) (R := cRt C.tp C.p fs ms) hT2 hsl (fun c hc => hp c hc.1 hc.2) (fun c hc => by have := hf.2.2.2.1 c hc; omega) (U := fun d => d ∈ plR C th sz 0 C.ng) (fun c hc hR d hd => ?_) (fun d a b dd hn hv => ?_)).1
  · exact main c ((emS_ty em).1 c hc |>.mp hr) htd c (posC_self hT2 (Nat.le_refl _) (Or.inr (Or.inr htd)) (by omega))
  · rw [cg c true (Or.inr (Or.inr hc))] at hd
    have odd : C.p c % 2 = 1 := by
      rcases hR with q | q | q
      · exact q.2
      · have := (hf.2.1 c q).1; omega
      · have := (hf.2.2.1 c q).1; omega
    obtain ⟨g, hgn, hlp⟩ := hrt c hc.1 hc.2 odd
    refine inR hgn ?_
    unfold plG
    rcases hlp with ⟨k, e⟩ | ⟨k, e⟩ | ⟨k, e⟩
    · rw [if_pos k]
      rcases e with e | e
      · rw [show px C g = c from e]; exact List.mem_append_left _ hd
      · rw [show py C g = c from e]; exact List.mem_append_right _ hd
    · rw [if_neg (by omega), if_pos k, show py C g = c from e]
      exact List.mem_append_right _ hd
    · rw [if_neg (by omega), if_neg (by omega), if_pos k]
      rcases e with e | e | e
      · rw [show px C g = c from e]; exact List.mem_append_left _ hd
      · rw [show py C g = c from e]; exact List.mem_append_right _ (List.mem_append_left _ hd)
      · rw [show pz C g = c from e]; exact List.mem_append_right _ (List.mem_append_right _ hd)
  · rcases hcode dd hv with q | q | q
    · exact absurd q hn
    · obtain ⟨_, x, t, e, k1, k2, _⟩ := hf.2.1 d q
      rw [hv] at e
      cases e
      have := hf.2.2.2.1 a k1
      exact ⟨fun q => by omega, by omega⟩
    · obtain ⟨_, x, t, e, k1, k2, _⟩ := hf.2.2.1 d q
      obtain ⟨x2, t2, _, e2, _, _, _, ⟨g, hgn, hk, hpx⟩, _⟩ := hl.2.2.1 d q
      rw [hv] at e e2
      cases e
      cases e2
      refine ⟨fun q e he => ?_, by omega⟩
      rw [cg a false (Or.inr (Or.inr q))] at he
      refine inR hgn ?_
      unfold plG
      rw [if_neg (by omega), if_pos hk, show px C g = a from hpx]
      exact List.mem_append_left _ he
/-- pairs of lists that no unfold has made: told letters -/
theorem oneA.anc (h : oneA C V0 D Hd Rt Ab th V np nv fs ms H L f) (hT : tolA C th sz gs nT) {pr : Nat → Bool} {S : List Nat} (hS : S.Nodup) (hin : ∀ c ∈ S, cDm nv C.tp fs ms c ∧ tLR V0 D Hd Rt th (f c) ∧ c ∉ fs ∧ ∃ a b, V c = some (.inr (.inr (a, b))) ∧ pr (th (f a)) = true) : S.length ≤ (ltP C th sz).countP pr := by
  have hpos := fun {c : Nat} => h.pos (c := c) hT
  have hcode := fun {c a b : Nat} (dc : cDm nv C.tp fs ms c) (hv : V c = some (.inr (.inr (a, b)))) => (h.code dc hv).2
  have hsl := h.sol
  obtain ⟨⟨em, ea, hs⟩, ⟨hf, hl, hct, hv⟩, ⟨K, ho, hK⟩, ⟨hp, hno, htn, hn9⟩, ⟨_, heq⟩, htb⟩ := h
  have hT1 := hT.1
  unfold ltP
  rw [List.countP_append, List.countP_map, List.countP_map, List.countP_eq_length_filter, List.countP_eq_length_filter]
  rw [two_len (fun c => decide (256 ≤ c ∧ c < 256 + C.tp)) S]
  refine Nat.add_le_add (sub_len _ _ (hS.filter _) (fun c hc => ?_)) ?_
  · rw [List.mem_filter, decide_eq_true_eq] at hc
    obtain ⟨d1, d2, d3, a, b, e, d4⟩ := hin c hc.1
    rw [hp c hc.2.1 hc.2.2] at e
    simp only [Option.some.injEq, Sum.inr.injEq, Prod.mk.injEq] at e
    refine List.mem_filter.mpr ⟨hpos d1 d2 hc.2, ?_⟩
    show pr (th (qaC C c)) = true
    rw [← heq _ (hT1.2 c hc.2.1 hc.2.2).1.1, e.1]
    exact d4
  · refine inj_len (R := fun c g => ∃ x t q, V c = some (.inr (.inr (x, t))) ∧ q ∈ L ∧ bkB q = t ∧ bkK q = 2 ∧ bkG q = g) _ _ (hS.filter _) (fun c hc => ?_) (fun c hc d hd g h1 h2 => ?_)
    · rw [List.mem_filter] at hc
      obtain ⟨d1, d2, d3, a, b, e, d4⟩ := hin c hc.1
      have hm : c ∈ ms := by
        rcases hcode d1 e with q | q | q
        · have := hc.2
          rw [decide_eq_true q] at this
          cases this
        · exact absurd q d3
        · exact q
      obtain ⟨x, t, q, e2, q1, q2, q3, _, q5⟩ := hl.2.2.1 c hm
      have hv1 := q5 _ hsl (fun v => th (f v)) (fun _ _ => rfl)
      have hgn := (hl.2.2.2.2 q q1).1
      have h77 : (C.tb (bkG q)).1 = 77 := by
        rcases (ho.2.1 q q1).1 with z | z
        · omega
        · exact z.2
      refine ⟨bkG q, List.mem_filter.mpr ⟨mem_glR.mpr ⟨⟨Nat.zero_le _, by omega⟩, h77⟩, ?_⟩, x, t, q, e2, q1, q2, q3, rfl⟩
      show pr (th (px C (bkG q))) = true
      rw [← (htb _ hgn).1 (Or.inl h77), ← hv1]
      rw [e] at e2
      cases e2
      exact d4
    · obtain ⟨x, t, q, e, q1, q2, q3, q4⟩ := h1
      obtain ⟨x2, t2, q', e2, p1, p2, p3, p4⟩ := h2
      rw [List.mem_filter] at hc hd
      have hm : ∀ {c : Nat}, c ∈ S → (!decide (256 ≤ c ∧ c < 256 + C.tp)) = true → c ∈ ms := fun {c} hc hz => by
        obtain ⟨d1, d2, d3, a, b, e, d4⟩ := hin c hc
        rcases hcode d1 e with q | q | q
        · rw [decide_eq_true q] at hz
          cases hz
        · exact absurd q d3
        · exact q
      have : q = q' := M_one ho hct q1 p1 q3 p3 (q4.trans p4.symm)
      subst this
      rw [q2] at p2
      subst p2
      exact hl.2.2.2.1 c (hm hc.1 hc.2) d (hm hd.1 hd.2) x x2 t e e2
/-- codes of one value -/
theorem oneA.cnt (h : oneA C V0 D Hd Rt Ab th V np nv fs ms H L f) {w : Nat} {S : List Nat} (hS : S.Nodup) (hin : ∀ c ∈ S, cDm nv C.tp fs ms c ∧ tLR V0 D Hd Rt th (f c) ∧ (∃ a b, V c = some (.inr (.inr (a, b)))) ∧ th (f c) = w) : S.length ≤ (ctO V0 D Hd Rt th V (cDm nv C.tp fs ms) fs f).count w + ((unO idf ix th f L).map uL).count w + ((unO idf ix th f L).map uH).count w + (cmO th f L).count w := by
  have hval := fun {c a b : Nat} (dc : cDm nv C.tp fs ms c) (hv : V c = some (.inr (.inr (a, b)))) => h.val dc hv
  have hcode := fun {c a b : Nat} (dc : cDm nv C.tp fs ms c) (hv : V c = some (.inr (.inr (a, b)))) => (h.code dc hv).1
  obtain ⟨⟨em, ea, hs⟩, ⟨hf, hl, hct, hv⟩, ⟨K, ho, hK⟩, ⟨hp, hno, htn, hn9⟩, ⟨hf0, heq⟩, htb⟩ := h
  let k1 : Nat → Prop := fun c => c ∈ fs ∧ ∃ q ∈ L, bkK q = 0 ∧ V c = some (.inr (.inr (bkB q, bkB q + 1)))
  let k2 : Nat → Prop := fun c => c ∈ fs ∧ ∃ q ∈ L, bkK q = 0 ∧ V c = some (.inr (.inr (bkB q, bkB q + 2)))
  let k3 : Nat → Prop := fun c => c ∈ fs ∧ ∃ q ∈ L, bkK q = 1 ∧ V c = some (.inr (.inr (bkB q, bkB q + 1)))
  have hL9 : ∀ q ∈ L, bkB q < 60 := fun q hq => by
    have := (cov_in ho.1).2 q hq
    have := bkS_pos q
    omega
  have dec : ∀ {p : Prop}, (@decide p (Classical.propDecidable _) = true) → p := fun h => @of_decide_eq_true _ (Classical.propDecidable _) h
  have cde : ∀ {p : Prop}, p → (@decide p (Classical.propDecidable _) = true) := fun h => @decide_eq_true _ (Classical.propDecidable _) h
  have big := four_len (p0 := fun c => @decide (c ∉ fs) (Classical.propDecidable _)) (p1 := fun c => @decide (k1 c) (Classical.propDecidable _)) (p2 := fun c => @decide (k2 c) (Classical.propDecidable _)) (p3 := fun c => @decide (k3 c) (Classical.propDecidable _)) S (fun c hc => by
    by_cases z : c ∈ fs
    · obtain ⟨x, t, q, e, q1, q2, q3⟩ := hl.1 c z
      rcases q3 with ⟨q3, q4 | q4⟩ | ⟨q3, q4⟩
      · exact Or.inr (Or.inl (cde ⟨z, q, q1, q3, by rw [e, q4, q2]⟩))
      · exact Or.inr (Or.inr (Or.inl (cde ⟨z, q, q1, q3, by rw [e, q4, q2]⟩)))
      · exact Or.inr (Or.inr (Or.inr (cde ⟨z, q, q1, q3, by rw [e, q4, q2]⟩)))
    · exact Or.inl (cde z))
  refine Nat.le_trans big (Nat.add_le_add (Nat.add_le_add (Nat.add_le_add ?_ ?_) ?_) ?_)
  · unfold ctO
    rw [List.count_eq_countP, List.countP_map, List.countP_eq_length_filter]
    refine sub_len _ _ (hS.filter _) (fun c hc => ?_)
    rw [List.mem_filter] at hc
    obtain ⟨d1, d2, ⟨a, b, d3⟩, d4⟩ := hin c hc.1
    refine List.mem_filter.mpr ⟨List.mem_filter.mpr ⟨List.mem_range.mpr (hcode d1 d3).2, cde ⟨d1, d2, ⟨a, b, d3⟩, dec hc.2⟩⟩, ?_⟩
    show (th (f c) == w) = true
    exact beq_iff_eq.mpr d4
  · have e : (unO idf ix th f L).map uL = (L.filter (fun q => decide (bkK q = 0))).map (utv (fun v => th (f v))) := by
      unfold unO
      rw [List.map_map]
      rfl
    rw [e, cnt_bk]
    refine inj_len (R := fun c b => c ∈ fs ∧ V c = some (.inr (.inr (b, b + 1)))) _ _ (hS.filter _) (fun c hc => ?_) (fun c hc d hd b h1 h2 => hl.2.1 c h1.1 d h2.1 (h1.2.trans h2.2.symm))
    rw [List.mem_filter] at hc
    obtain ⟨d1, d2, _, d4⟩ := hin c hc.1
    obtain ⟨z, q, q1, q2, q3⟩ := dec hc.2
    refine ⟨bkB q, List.mem_map.mpr ⟨q, List.mem_filter.mpr ⟨List.mem_filter.mpr ⟨q1, decide_eq_true q2⟩, beq_iff_eq.mpr ?_⟩, rfl⟩, z, q3⟩
    rw [← d4, hval d1 q3]
    rfl
  · have e : (unO idf ix th f L).map uH = (L.filter (fun q => decide (bkK q = 0))).map (uhv (fun v => th (f v))) := by
      unfold unO
      rw [List.map_map]
      rfl
    rw [e, cnt_bk]
    refine inj_len (R := fun c b => c ∈ fs ∧ V c = some (.inr (.inr (b, b + 2)))) _ _ (hS.filter _) (fun c hc => ?_) (fun c hc d hd b h1 h2 => hl.2.1 c h1.1 d h2.1 (h1.2.trans h2.2.symm))
    rw [List.mem_filter] at hc
    obtain ⟨d1, d2, _, d4⟩ := hin c hc.1
    obtain ⟨z, q, q1, q2, q3⟩ := dec hc.2
    refine ⟨bkB q, List.mem_map.mpr ⟨q, List.mem_filter.mpr ⟨List.mem_filter.mpr ⟨q1, decide_eq_true q2⟩, beq_iff_eq.mpr ?_⟩, rfl⟩, z, q3⟩
    rw [← d4, hval d1 q3]
    rfl
  · unfold cmO
    rw [cnt_bk]
    refine inj_len (R := fun c b => c ∈ fs ∧ V c = some (.inr (.inr (b, b + 1)))) _ _ (hS.filter _) (fun c hc => ?_) (fun c hc d hd b h1 h2 => hl.2.1 c h1.1 d h2.1 (h1.2.trans h2.2.symm))
    rw [List.mem_filter] at hc
    obtain ⟨d1, d2, _, d4⟩ := hin c hc.1
    obtain ⟨z, q, q1, q2, q3⟩ := dec hc.2
    refine ⟨bkB q, List.mem_map.mpr ⟨q, List.mem_filter.mpr ⟨List.mem_filter.mpr ⟨q1, decide_eq_true q2⟩, beq_iff_eq.mpr ?_⟩, rfl⟩, z, q3⟩
    rw [← d4, hval d1 q3]
    rfl
theorem oneA.edge (h : oneA C V0 D Hd Rt Ab th V np nv fs ms H L f) {b : Nat} (hb : cAb V fs b) : ∃ q ∈ L, bkK q = 0 ∧ bkB q = b := by
  obtain ⟨_, ⟨_, hl, _⟩, _⟩ := h
  obtain ⟨_, c, hc, e⟩ := hb
  obtain ⟨x, t, q, e2, q1, q2, q3⟩ := hl.1 c hc
  rw [e] at e2
  simp only [Option.some.injEq, Sum.inr.injEq, Prod.mk.injEq] at e2
  refine ⟨q, q1, ?_, by omega⟩
  omega
theorem oneA.cab (h : oneA C V0 D Hd Rt Ab th V np nv fs ms H L f) {q : Bk} (hq : q ∈ L) (h0 : bkK q = 0) : cAb V fs (bkB q) := by
  obtain ⟨_, ⟨_, hl, _, hn⟩, ⟨K, ho, _⟩, _⟩ := h
  have := (cov_in ho.1).2 q hq
  have := bkS_pos q
  obtain ⟨c, hc, e⟩ := (hl.2.2.2.2 q hq).2 h0
  exact ⟨by omega, c, hc, e⟩
theorem oneA.lt (h : oneA C V0 D Hd Rt Ab th V np nv fs ms H L f) {q : Bk} (hq : q ∈ L) : bkB q + bkS q ≤ 60 ∧ bkR q < 60 ∧ bkG q < C.ng ∧ (bkK q = 0 → (C.tb (bkG q)).1 = 65) ∧ (bkK q = 1 → (C.tb (bkG q)).1 = 77) := by
  obtain ⟨_, ⟨_, hl, _, hn⟩, ⟨K, ho, _⟩, _⟩ := h
  have c1 := (cov_in ho.1).2 q hq
  obtain ⟨n, hd⟩ := dpt_ex ho _ q (Nat.lt_succ_self _) hq
  obtain ⟨p, p1, _⟩ := dpt_0 ho hd
  have e := (ho.2.1 p p1.1.1).2.1 p1.2
  have c2 := (cov_in ho.1).2 p p1.1.1
  have c3 := bkS_pos p
  refine ⟨by omega, ?_, (hl.2.2.2.2 q hq).1, fun z => ?_, fun z => ?_⟩
  · rw [← p1.1.2, e]
    omega
  · rcases (ho.2.1 q hq).1 with y | y
    · exact y.2
    · omega
  · rcases (ho.2.1 q hq).1 with y | y
    · omega
    · exact y.2
theorem unO_mem {u : Uf} : u ∈ unO idf ix th f L ↔ ∃ q ∈ L, bkK q = 0 ∧ u = (ix (bkG q), f (bkR q), idf (f (bkB q)), utv (fun v => th (f v)) q, uhv (fun v => th (f v)) q) := by
  unfold unO
  rw [List.mem_map]
  constructor
  · rintro ⟨q, hq, e⟩
    rw [List.mem_filter, decide_eq_true_eq] at hq
    exact ⟨q, hq.1, hq.2, e.symm⟩
  · rintro ⟨q, h1, h2, e⟩
    exact ⟨q, List.mem_filter.mpr ⟨h1, decide_eq_true h2⟩, e.symm⟩
theorem oneA.hX (h : oneA C V0 D Hd Rt Ab th V np nv fs ms H L f) {X Y Z : Nat → Nat} (hix : ∀ g, g < C.ng → (C.tb g).1 = 65 → X (ix g) = th (px C g) ∧ Y (ix g) = th (py C g) ∧ Z (ix g) = th (pz C g)) : hUX (unO idf ix th f L) X Y Z := by
  have hlt := fun {q : Bk} (hq : q ∈ L) => h.lt hq
  obtain ⟨_, _, ⟨K, ho, hK⟩, _, ⟨hf0, _⟩, htb⟩ := h
  intro u hu
  obtain ⟨q, hq, h0, rfl⟩ := unO_mem.mp hu
  obtain ⟨_, lR, lg, l65, _⟩ := hlt hq
  obtain ⟨i1, i2, i3⟩ := hix _ lg (l65 h0)
  have t1 := (htb _ lg).1 (Or.inr (l65 h0))
  obtain ⟨t2, t3⟩ := (htb _ lg).2 (l65 h0)
  obtain ⟨n, hd⟩ := dpt_ex ho _ q (Nat.lt_succ_self _) hq
  obtain ⟨p0, p1, p2, p3⟩ := dpt_0 ho hd
  have k0 := p3.mpr h0
  obtain ⟨s1, _⟩ := A_sfx ho hK hd h0
  obtain ⟨s3, s4⟩ := A_sfx ho hK p1 k0
  obtain ⟨k, hk⟩ := A_end ho hK _ q (Nat.lt_succ_self _) hq h0
  obtain ⟨j, hj⟩ := A_end ho hK _ p0 (Nat.lt_succ_self _) p1.1.1 k0
  rw [t1] at s1
  rw [p2, t1] at s3
  rw [p2, t3] at s4
  rw [t2] at hk
  rw [p2, t2] at hj
  have s3 : th (px C (bkG q)) = utv (fun v => th (f v)) p0 := s3
  have s4 : th (pz C (bkG q)) = uhv (fun v => th (f v)) p0 := s4
  refine ⟨⟨_, _, _, k, n, rfl, rfl, ?_, ?_⟩, ⟨j + 1, ?_⟩, fun m s hs h9 => ?_, fun v hv hB => ?_⟩
  · show catV k _ (Y (ix (bkG q))) _
    rw [i2]
    exact hk
  · show sfx n (X (ix (bkG q))) _
    rw [i1]
    exact s1
  · show catV (j + 1) (X (ix (bkG q))) (Y (ix (bkG q))) (Z (ix (bkG q)))
    rw [i1, i2, i3]
    exact ⟨_, _, _, s3, s4, hj⟩
  · have hs : sfx m (X (ix (bkG q))) s := hs
    rw [i1, ← t1] at hs
    obtain ⟨v, v1, v2, v3, v4⟩ := A_cov ho hK p1 k0 p2 hs h9
    obtain ⟨w1, w2⟩ := dpt_in v1
    refine ⟨_, unO_mem.mpr ⟨v, w1, v2, rfl⟩, ?_, ?_, v4⟩
    · show f (bkR v) = f (bkR q)
      rw [w2]
    · show ix (bkG v) = ix (bkG q)
      rw [v3]
  · obtain ⟨v2, hv2, v0, rfl⟩ := unO_mem.mp hv
    have hB : f (bkR v2) = f (bkR q) := hB
    have lv := hlt hv2
    have z1 := hf0 (bkR v2) (by omega)
    have z2 := hf0 (bkR q) (by omega)
    have eR : bkR v2 = bkR q := by omega
    have eG := (chn_G ho hv2 hq eR).1
    refine ⟨?_, fun hL => ?_⟩
    · show ix (bkG v2) = ix (bkG q)
      rw [eG]
    · have hL : utv (fun v => th (f v)) v2 = utv (fun v => th (f v)) q := hL
      obtain ⟨m, hm⟩ := dpt_ex ho _ v2 (Nat.lt_succ_self _) hv2
      obtain ⟨s5, _⟩ := A_sfx ho hK hm v0
      rw [eG, t1, hL] at s5
      have := sfx_one s5 s1
      subst this
      rw [eR] at hm
      rw [dpt_u ho hm hd]
/-- an 'M' that goes on has its letter further on -/
theorem oneA.cm (h : oneA C V0 D Hd Rt Ab th V np nv fs ms H L f) {nm : Nat → Bool} {w : Nat} (hw : w ∈ cmO th f L) : ∃ p ∈ (glR C 77 0 C.ng).map (fun g => th (px C g)), lev nm p ≤ Rk nm w := by
  have hlt := fun {q : Bk} (hq : q ∈ L) => h.lt hq
  obtain ⟨_, _, ⟨K, ho, hK⟩, _, _, htb⟩ := h
  unfold cmO at hw
  rw [List.mem_map] at hw
  obtain ⟨q, hq, rfl⟩ := hw
  rw [List.mem_filter, decide_eq_true_eq] at hq
  obtain ⟨_, _, lg, _, l77⟩ := hlt hq.1
  obtain ⟨k, s, hs⟩ := M_end ho hK _ q (Nat.lt_succ_self _) hq.1 hq.2
  rw [(htb _ lg).1 (Or.inl (l77 hq.2))] at hs
  refine ⟨_, List.mem_map.mpr ⟨bkG q, mem_glR.mpr ⟨⟨Nat.zero_le _, by omega⟩, l77 hq.2⟩, rfl⟩, ?_⟩
  have := sfx_Rk (nm := nm) hs
  rw [Rk_nd] at this
  have this : max (lev nm (th (px C (bkG q)))) (Rk nm s) ≤ Rk nm (th (f (bkB q + 1))) := this
  show lev nm (th (px C (bkG q))) ≤ Rk nm (nd (th (f (bkB q))) (th (f (bkB q + 1))))
  rw [Rk_nd]
  omega
theorem oneA.num (h : oneA C V0 D Hd Rt Ab th V np nv fs ms H L f) : 3 * (unO idf ix th f L).length + 2 * (cmO th f L).length ≤ 54 := by
  obtain ⟨_, ⟨_, _, _, hn⟩, ⟨K, ho, _⟩, _⟩ := h
  have := cov_sum ho.1
  unfold unO cmO
  rw [List.length_map, List.length_map, ← List.countP_eq_length_filter, ← List.countP_eq_length_filter]
  omega
/-- told leaves -/
theorem oneA.ctl (h : oneA C V0 D Hd Rt Ab th V np nv fs ms H L f) (hT : tolA C th sz gs nT) : (ctO V0 D Hd Rt th V (cDm nv C.tp fs ms) fs f).countP (fun w => decide (dn1 w ≤ 11)) ≤ (ltP C th sz).countP (fun p => decide (p ≤ 11)) := by
  have hval := fun {c a b : Nat} (dc : cDm nv C.tp fs ms c) (hv : V c = some (.inr (.inr (a, b)))) => h.val dc hv
  unfold ctO
  rw [List.countP_map, List.countP_eq_length_filter]
  refine h.anc hT ((List.nodup_range.filter _).filter _) (fun c hc => ?_)
  rw [List.mem_filter, List.mem_filter] at hc
  obtain ⟨⟨_, h1⟩, h2⟩ := hc
  obtain ⟨d1, d2, ⟨a, b, d3⟩, d4⟩ := @of_decide_eq_true _ (Classical.propDecidable _) h1
  refine ⟨d1, d2, d4, a, b, d3, decide_eq_true ?_⟩
  have h2 : decide (dn1 (th (f c)) ≤ 11) = true := h2
  rw [decide_eq_true_eq, hval d1 d3, dn1_nd] at h2
  exact h2
end
