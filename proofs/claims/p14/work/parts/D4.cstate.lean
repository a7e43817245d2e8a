/-! THE CLASS: a state stands for one of the abstract search -/
abbrev Cf : Type := Nat × Nat × Nat × Prop × (Nat → Nat) × Tb × (Nat → Nat) × (Nat → Nat) × (Nat → Nat → Nat)
abbrev Cf.tp (C : Cf) : Nat := C.1
abbrev Cf.ng (C : Cf) : Nat := C.2.1
abbrev Cf.mu (C : Cf) : Nat := C.2.2.1
abbrev Cf.hA (C : Cf) : Prop := C.2.2.2.1
abbrev Cf.p (C : Cf) : Nat → Nat := C.2.2.2.2.1
abbrev Cf.tb (C : Cf) : Tb := C.2.2.2.2.2.1
abbrev Cf.wt (C : Cf) : Nat → Nat := C.2.2.2.2.2.2.1
abbrev Cf.wm (C : Cf) : Nat → Nat := C.2.2.2.2.2.2.2.1
abbrev Cf.oc (C : Cf) : Nat → Nat → Nat := C.2.2.2.2.2.2.2.2
/-- what a told code comes to -/
def tdn (sg : rSg) (s tp c : Nat) (f : Tf) : Prop := ∀ th, vSol (cV sg s 0 0) (fun c => cTd tp c) th → ∀ r, (∀ v, v < 6 → th v = r v) → th c = f r
def cTo (sg : rSg) (s tp : Nat) (p : Nat → Nat) : Prop := (∀ c, cTd tp c → 0 < p c ∧ p c ≤ 100) ∧ ∀ c, 256 ≤ c → c < 256 + tp → ∃ a b, sg (s + 3) (2 * (c - 256)) = nI a ∧ sg (s + 3) (2 * (c - 256) + 1) = nI b ∧ cTd tp a ∧ cTd tp b ∧ p a + p b < p c ∧ p (3000 + 2 * (c - 256)) = a ∧ p (3000 + 2 * (c - 256) + 1) = b
/-- a root of what was told -/
def rtc (C : Cf) (x : Nat) : Prop := x < 256 ∨ C.p x % 2 = 1
def cTab (C : Cf) (sg : rSg) (s : Nat) : Prop := ∀ g, g < C.ng → ∃ k, sg (s + 1) g = nI k ∧ (C.tb g).1 = k ∧
  (((k = 61 ∨ k = 35 ∨ k = 77) ∧ ∃ x y, sg (s + 2) (3 * g) = nI x ∧ sg (s + 2) (3 * g + 1) = nI y ∧ (cTd C.tp x ∧ cTd C.tp y) ∧ tdn sg s C.tp x (tb1 C.tb g) ∧ tdn sg s C.tp y (tb2 C.tb g) ∧ (k = 77 ∨ rtc C x) ∧ rtc C y ∧ C.p (5000 + 3 * g) = x ∧ C.p (5000 + 3 * g + 1) = y) ∨
   ((k = 65 ∧ C.hA) ∧ ∃ x y z, sg (s + 2) (3 * g) = nI x ∧ sg (s + 2) (3 * g + 1) = nI y ∧ sg (s + 2) (3 * g + 2) = nI z ∧ (cTd C.tp x ∧ cTd C.tp y ∧ cTd C.tp z) ∧ tdn sg s C.tp x (tb1 C.tb g) ∧ tdn sg s C.tp y (tb2 C.tb g) ∧ tdn sg s C.tp z (tb3 C.tb g) ∧ rtc C x ∧ rtc C y ∧ rtc C z ∧ C.p (5000 + 3 * g) = x ∧ C.p (5000 + 3 * g + 1) = y ∧ C.p (5000 + 3 * g + 2) = z) ∨
   ((k = 38 ∨ k = 124) ∧ sg (s + 2) (3 * g) = nI (tbA C.tb g) ∧ sg (s + 2) (3 * g + 1) = nI (tbB C.tb g) ∧ tbA C.tb g < C.ng ∧ tbB C.tb g < C.ng) ∨ k = 42 ∨ k = 33)
/-- the numbers of what was told -/
def cfOK (C : Cf) : Prop := C.ng ≤ 26 ∧ (C.hA → C.tp + C.mu ≤ 18 ∧ ((∃ g, g < C.ng ∧ (C.tb g).1 = 35) → C.tp + C.mu ≤ 17)) ∧ C.tp + C.mu ≤ 20 ∧ ∀ g, g < C.ng → 1 ≤ C.wt g ∧ ((C.tb g).1 = 38 ∨ (C.tb g).1 = 124 → C.wt (tbA C.tb g) + C.wt (tbB C.tb g) + 1 ≤ C.wt g ∧ C.wm (tbA C.tb g) + C.wm (tbB C.tb g) ≤ C.wm g ∧ ∀ q, C.oc (tbA C.tb g) q + C.oc (tbB C.tb g) q ≤ C.oc g q) ∧ ((C.tb g).1 = 77 → 1 ≤ C.wm g) ∧ ((C.tb g).1 = 35 ∨ (C.tb g).1 = 77 → 1 ≤ C.oc g g)
/-- a script: what was told, what has been unfolded -/
def cSc (C : Cf) (sg : rSg) (s np gl : Nat) : Prop := (C.tp ≤ np ∧ np ≤ 640 ∧ C.ng ≤ gl ∧ gl ≤ 326) ∧ sg s 3 = nI gl ∧ sg s 4 = nI np ∧ cTo sg s C.tp C.p ∧ cTab C sg s
/-- the letter of a told 'M' -/
def mPt (C : Cf) (x : Nat) : Prop := ∃ g, g < C.ng ∧ (C.tb g).1 = 77 ∧ C.p (5000 + 3 * g) = x
def cIt (C : Cf) (sg : rSg) (s nv : Nat) (H : Nat → Prop) (gl i : Nat) (it : It) : Prop := (i < C.ng ∧ it = .inl i) ∨ ((C.ng ≤ i ∧ i < gl) ∧
  ((C.hA ∧ sg (s + 1) i = nI 65 ∧ ∃ t y u f, sg (s + 2) (3 * i) = nI t ∧ sg (s + 2) (3 * i + 1) = nI y ∧ sg (s + 2) (3 * i + 2) = nI u ∧ ((6 ≤ t ∧ t < nv) ∧ ¬ H t) ∧ ((6 ≤ u ∧ u < nv) ∧ ¬ H u) ∧ cTd C.tp y ∧ tdn sg s C.tp y f ∧ it = .inr (true, vr t, f, vr u) ∧ rtc C y) ∨
   (sg (s + 1) i = nI 77 ∧ ∃ x t f, sg (s + 2) (3 * i) = nI x ∧ sg (s + 2) (3 * i + 1) = nI t ∧ ((6 ≤ t ∧ t < nv) ∧ ¬ H t) ∧ cTd C.tp x ∧ tdn sg s C.tp x f ∧ it = .inr (false, f, vr t, atm 10) ∧ mPt C x)))
def cIts (C : Cf) (sg : rSg) (s nv : Nat) (H : Nat → Prop) (gl : Nat) : List Nat → List It → Prop
  | [], [] => True
  | i :: is, it :: its => cIt C sg s nv H gl i it ∧ cIts C sg s nv H gl is its
  | _, _ => False
def iw (C : Cf) : It → Nat
  | .inl g => C.wt g
  | .inr _ => 1
def imm (C : Cf) : It → Nat
  | .inl g => C.wm g
  | .inr (true, _) => 0
  | .inr (false, _) => 1
def ioc (C : Cf) (q : Nat) : It → Nat
  | .inl g => C.oc g q
  | .inr _ => 0
def sumI (f : It → Nat) : List It → Nat
  | [] => 0
  | i :: is => f i + sumI f is
/-- the counts of a state -/
def cNu (C : Cf) (X : Sx) (f m : Nat) : Prop := 3 * f ≤ 2 * (X.2.2.1 - 6) ∧ (¬ C.hA → 2 * f ≤ X.2.2.1 - 6) ∧ m + sumI (imm C) X.1 ≤ C.mu ∧ sumI (iw C) X.1 ≤ 26 ∧ (∀ q, X.2.1.count q + sumI (ioc C q) X.1 ≤ 1) ∧ ∀ g ∈ X.2.1, g < C.ng ∧ (C.tb g).1 = 35
/-- the pairs of a state's own, and what it has unfolded -/
def hLk (C : Cf) (nv : Nat) (V : Nat → TV) (fs ms : List Nat) (L : List Bk) : Prop := (∀ c ∈ fs, ∃ h t q, V c = some (.inr (.inr (h, t))) ∧ q ∈ L ∧ bkB q = h ∧ ((bkK q = 0 ∧ (t = h + 1 ∨ t = h + 2)) ∨ (bkK q = 1 ∧ t = h + 1))) ∧
  (∀ c ∈ fs, ∀ d ∈ fs, V c = V d → c = d) ∧
  (∀ c ∈ ms, ∃ x t q, V c = some (.inr (.inr (x, t))) ∧ q ∈ L ∧ bkB q = t ∧ bkK q = 2 ∧ mPt C x ∧ ∀ th, vSol V (cDm nv C.tp fs ms) th → ∀ r, (∀ v, v < 64 → th v = r v) → th x = tb1 C.tb (bkG q) r) ∧ (∀ c ∈ ms, ∀ d ∈ ms, ∀ x y t, V c = some (.inr (.inr (x, t))) → V d = some (.inr (.inr (y, t))) → c = d) ∧ ∀ q ∈ L, bkG q < C.ng ∧ (bkK q = 0 → ∃ c ∈ fs, V c = some (.inr (.inr (bkB q, bkB q + 2))))
/-- an 'M' is begun once -/
def hCt (C : Cf) (td : List It) (L : List Bk) : Prop := ∀ g, (C.tb g).1 = 77 → L.countP (fun q => decide (bkP q = 0 ∧ bkG q = g)) + sumI (ioc C g) td ≤ 1
def cHs (C : Cf) (X : Sx) (V : Nat → TV) (fs ms : List Nat) : Prop := ∃ L, HsO C.tb X.1 X.2.2.1 X.2.2.2 L ∧ hCt C X.1 L ∧ hLk C X.2.2.1 V fs ms L
def cSt (C : Cf) (sg : rSg) (s k np gl : Nat) (X : Sx) : Prop := ∃ fs ms H gs, sg k 2 = nI X.2.2.1 ∧ sg k 3 = nI gs.length ∧ pilk (k + 2) sg gs ∧ cIts C sg s X.2.2.1 H gl gs X.1 ∧ kbt (sg k 4) X.2.1 ∧ cCo sg s (k + 1) C.tp np C.p X.2.2.1 fs ms H X.2.2.2 ∧ cNu C X fs.length ms.length ∧ cHs C X (cV sg s (k + 1) 64) fs ms
theorem cNu_cn {C : Cf} (hC : cfOK C) {X : Sx} {f m : Nat} (h : cNu C X f m) (hv : X.2.2.1 ≤ 60) : C.tp + m ≤ 20 ∧ cCn C.tp (f + 1) m := by
  unfold cCn
  by_cases ha : C.hA
  · have := (hC.2.1 ha).1
    have := h.1
    have := h.2.2.1
    omega
  · have := hC.2.2.1
    have := h.2.1 ha
    have := h.2.2.1
    omega
theorem cCn_mono {tp f f2 m : Nat} (h : cCn tp f m) (hf : f2 ≤ f) : cCn tp f2 m := by
  unfold cCn at h ⊢
  omega
theorem cIts_len {C : Cf} {sg : rSg} {s nv gl : Nat} {H : Nat → Prop} : ∀ {gs : List Nat} {its : List It}, cIts C sg s nv H gl gs its → gs.length = its.length
  | [], [], _ => rfl
  | i :: is, it :: its, h => by simp [cIts_len h.2]
  | [], _ :: _, h => h.elim
  | _ :: _, [], h => h.elim
theorem sumI_len {C : Cf} (hC : cfOK C) {sg : rSg} {s nv gl : Nat} {H : Nat → Prop} : ∀ {gs : List Nat} {its : List It}, cIts C sg s nv H gl gs its → its.length ≤ sumI (iw C) its
  | [], [], _ => Nat.le_refl _
  | i :: is, it :: its, h => by
    have h2 := sumI_len hC h.2
    have h1 : 1 ≤ iw C it := by
      rcases h.1 with ⟨q, rfl⟩ | ⟨_, ⟨_, _, t, y, u, f, _, _, _, _, _, _, _, rfl, _⟩ | ⟨_, x, t, f, _, _, _, _, _, rfl, _⟩⟩
      · exact (hC.2.2.2 i q).1
      · exact Nat.le_refl _
      · exact Nat.le_refl _
    simp only [sumI, List.length_cons]
    omega
  | [], _ :: _, h => h.elim
  | _ :: _, [], h => h.elim
/-! where a state and its script may go -/
theorem pilk_mv {k k2 : Nat} {sg t : rSg} : ∀ {es : List Nat}, (∀ j, j < es.length → t k2 j = sg k j) → pilk k sg es → pilk k2 t es
  | [], _, _ => trivial
  | e :: es, h, hp => ⟨by rw [h _ (by simp)]; exact hp.1, pilk_mv (fun j hj => h j (by simp; omega)) hp.2⟩
def scSame (np gl s s2 : Nat) (sg t : rSg) : Prop := (∀ j, j < 2 * np → t (s2 + 3) j = sg (s + 3) j) ∧ (∀ j, j < gl → t (s2 + 1) j = sg (s + 1) j) ∧ ∀ j, j < 3 * gl → t (s2 + 2) j = sg (s + 2) j
theorem scSame.rfl' {np gl s : Nat} {sg : rSg} : scSame np gl s s sg sg := ⟨fun _ _ => rfl, fun _ _ => rfl, fun _ _ => rfl⟩
theorem scSame.of {np gl s : Nat} {sg t : rSg} (h1 : t (s + 1) = sg (s + 1)) (h2 : t (s + 2) = sg (s + 2)) (h3 : t (s + 3) = sg (s + 3)) : scSame np gl s s sg t := ⟨fun _ _ => by rw [h3], fun _ _ => by rw [h1], fun _ _ => by rw [h2]⟩
theorem scSame.trans {np gl s s2 s3 : Nat} {a b c : rSg} (h1 : scSame np gl s s2 a b) (h2 : scSame np gl s2 s3 b c) : scSame np gl s s3 a c := ⟨fun j h => (h2.1 j h).trans (h1.1 j h), fun j h => (h2.2.1 j h).trans (h1.2.1 j h), fun j h => (h2.2.2 j h).trans (h1.2.2 j h)⟩
theorem tdn_same {sg t : rSg} {s s2 tp : Nat} {p : Nat → Nat} (hto : cTo sg s tp p) (h : ∀ j, j < 2 * tp → t (s2 + 3) j = sg (s + 3) j) (htp : tp ≤ 640) {c : Nat} {f : Tf} (hd : tdn sg s tp c f) : tdn t s2 tp c f := by
  intro th hs r hr
  refine hd th ((vSol_ag (V := cV sg s 0 0) (W := cV t s2 0 0) (fun c hc => ?_)).mp hs) r hr
  rcases hc with q | q | q
  · have g : c < 128 := by omega
    simp only [cV, if_pos g]
    rw [if_neg (fun q => absurd q.1 (by omega)), if_neg (fun q => absurd q.1 (by omega))]
  · have g : ¬ c < 128 := by omega
    have g2 : c < 256 := by omega
    simp only [cV, if_neg g, if_pos g2]
  · have g : ¬ c < 128 := by omega
    have g2 : ¬ c < 256 := by omega
    have g3 : c < 1280 := by omega
    simp only [cV, if_neg g, if_neg g2, if_pos g3, h (2 * (c - 256)) (by omega), h (2 * (c - 256) + 1) (by omega)]
theorem cTo_same {sg t : rSg} {s s2 tp : Nat} {p : Nat → Nat} (hto : cTo sg s tp p) (h : ∀ j, j < 2 * tp → t (s2 + 3) j = sg (s + 3) j) : cTo t s2 tp p := ⟨hto.1, fun c h1 h2 => by
  obtain ⟨a, b, e1, e2, g⟩ := hto.2 c h1 h2
  exact ⟨a, b, by rw [h _ (by omega)]; exact e1, by rw [h _ (by omega)]; exact e2, g⟩⟩
theorem cTab_same {C : Cf} {sg t : rSg} {s s2 : Nat} (hto : cTo sg s C.tp C.p) (htp : C.tp ≤ 640) (h : scSame C.tp C.ng s s2 sg t) (hc : cTab C sg s) : cTab C t s2 := by
  intro g hg
  obtain ⟨k, e1, e2, hk⟩ := hc g hg
  have td : ∀ {c f}, tdn sg s C.tp c f → tdn t s2 C.tp c f := fun q => tdn_same hto h.1 htp q
  refine ⟨k, by rw [h.2.1 g hg]; exact e1, e2, ?_⟩
  rcases hk with ⟨q, x, y, p1, p2, p3, p4, p5, p8⟩ | ⟨q, x, y, z, p1, p2, p3, p4, p5, p6, p7, p8⟩ | ⟨q, p1, p2, p3⟩ | q
  · exact Or.inl ⟨q, x, y, by rw [h.2.2 _ (by omega)]; exact p1, by rw [h.2.2 _ (by omega)]; exact p2, p3, td p4, td p5, p8⟩
  · exact Or.inr (Or.inl ⟨q, x, y, z, by rw [h.2.2 _ (by omega)]; exact p1, by rw [h.2.2 _ (by omega)]; exact p2, by rw [h.2.2 _ (by omega)]; exact p3, p4, td p5, td p6, td p7, p8⟩)
  · exact Or.inr (Or.inr (Or.inl ⟨q, by rw [h.2.2 _ (by omega)]; exact p1, by rw [h.2.2 _ (by omega)]; exact p2, p3⟩))
  · exact Or.inr (Or.inr (Or.inr q))
theorem cIt_same {C : Cf} {sg t : rSg} {s s2 nv nv2 gl gl2 i : Nat} {H H2 : Nat → Prop} {it : It} {np : Nat} (hto : cTo sg s C.tp C.p) (htn : C.tp ≤ np) (hn9 : np ≤ 640) (h : scSame np gl s s2 sg t) (hg : gl ≤ gl2) (hnv : nv ≤ nv2) (hH : ∀ v, v < nv → H2 v → H v) (hi : cIt C sg s nv H gl i it) : cIt C t s2 nv2 H2 gl2 i it := by
  have td : ∀ {c f}, tdn sg s C.tp c f → tdn t s2 C.tp c f := fun q => tdn_same hto (fun j hj => h.1 j (by omega)) (by omega) q
  rcases hi with q | ⟨⟨q1, q2⟩, ⟨ha, e1, x, y, u, f, p1, p2, p3, p4, p5, p6, p7, p8, p9⟩ | ⟨e1, x, y, f, p1, p2, p3, p4, p5, p6⟩⟩
  · exact Or.inl q
  · exact Or.inr ⟨⟨q1, by omega⟩, Or.inl ⟨ha, by rw [h.2.1 i q2]; exact e1, x, y, u, f, by rw [h.2.2 _ (by omega)]; exact p1, by rw [h.2.2 _ (by omega)]; exact p2, by rw [h.2.2 _ (by omega)]; exact p3, ⟨by omega, fun z => p4.2 (hH _ p4.1.2 z)⟩, ⟨by omega, fun z => p5.2 (hH _ p5.1.2 z)⟩, p6, td p7, p8, p9⟩⟩
  · exact Or.inr ⟨⟨q1, by omega⟩, Or.inr ⟨by rw [h.2.1 i q2]; exact e1, x, y, f, by rw [h.2.2 _ (by omega)]; exact p1, by rw [h.2.2 _ (by omega)]; exact p2, ⟨by omega, fun z => p3.2 (hH _ p3.1.2 z)⟩, p4, td p5, p6⟩⟩
theorem cIts_same {C : Cf} {sg t : rSg} {s s2 nv nv2 gl gl2 : Nat} {H H2 : Nat → Prop} {np : Nat} (hto : cTo sg s C.tp C.p) (htn : C.tp ≤ np) (hn9 : np ≤ 640) (h : scSame np gl s s2 sg t) (hg : gl ≤ gl2) (hnv : nv ≤ nv2) (hH : ∀ v, v < nv → H2 v → H v) : ∀ {gs : List Nat} {its : List It}, cIts C sg s nv H gl gs its → cIts C t s2 nv2 H2 gl2 gs its
  | [], [], _ => trivial
  | i :: is, it :: its, q => ⟨cIt_same hto htn hn9 h hg hnv hH q.1, cIts_same hto htn hn9 h hg hnv hH q.2⟩
  | [], _ :: _, q => q.elim
  | _ :: _, [], q => q.elim
theorem hLk_ag {C : Cf} {nv : Nat} {V W : Nat → TV} {fs ms : List Nat} {L : List Bk} (h : vAg (cDm nv C.tp fs ms) V W) (hl : hLk C nv V fs ms L) : hLk C nv W fs ms L := by
  obtain ⟨h1, h2, h3, h4, h5⟩ := hl
  have f1 : ∀ c ∈ fs, W c = V c := fun c hc => h c (Or.inr (Or.inr (Or.inr (Or.inl hc))))
  have f2 : ∀ c ∈ ms, W c = V c := fun c hc => h c (Or.inr (Or.inr (Or.inr (Or.inr hc))))
  refine ⟨fun c hc => ?_, fun c hc d hd e => ?_, fun c hc => ?_, fun c hc d hd x y t e e2 => ?_, fun q hq => ⟨(h5 q hq).1, fun k => by obtain ⟨c, hc, e⟩ := (h5 q hq).2 k; exact ⟨c, hc, by rw [f1 c hc]; exact e⟩⟩⟩
  · rw [f1 c hc]; exact h1 c hc
  · rw [f1 c hc, f1 d hd] at e; exact h2 c hc d hd e
  · obtain ⟨x, t, q, e, q1, q2, q3, q4⟩ := h3 c hc
    exact ⟨x, t, q, by rw [f2 c hc]; exact e, q1, q2, q3, q4.1, fun th hs => q4.2 th ((vSol_ag h).mp hs)⟩
  · rw [f2 c hc] at e
    rw [f2 d hd] at e2
    exact h4 c hc d hd x y t e e2
theorem cHs_ag {C : Cf} {X : Sx} {V W : Nat → TV} {fs ms : List Nat} (h : vAg (cDm X.2.2.1 C.tp fs ms) V W) (hl : cHs C X V fs ms) : cHs C X W fs ms := by
  obtain ⟨L, h1, h2, h3⟩ := hl
  exact ⟨L, h1, h2, hLk_ag h h3⟩
/-- a state in another place, or with a script that has grown -/
theorem cSt_move {C : Cf} {sg t : rSg} {s s2 k k2 np np2 gl gl2 : Nat} {X : Sx} (hsc : cSc C sg s np gl) (h : cSt C sg s k np gl X) (hn : np ≤ np2) (hn9 : np2 ≤ 640) (hg : gl ≤ gl2) (hss : scSame np gl s s2 sg t) (h2 : t k2 2 = sg k 2) (h3 : t k2 3 = sg k 3) (h4 : t k2 4 = sg k 4) (hb : ∀ j, j < X.2.2.1 → t (k2 + 1) j = sg (k + 1) j) (hd : ∀ j n, sg k 3 = nI n → n ≤ 26 → j < n → t (k2 + 2) j = sg (k + 2) j) (hC : cfOK C) : cSt C t s2 k2 np2 gl2 X := by
  obtain ⟨fs, ms, H, gs, e1, e2, e3, e4, e5, e6, e7, e8⟩ := h
  have htn := hsc.1.1
  have hl : gs.length ≤ 26 := by
    have a1 := cIts_len e4
    have a2 := sumI_len hC e4
    have a3 := e7.2.2.2.1
    omega
  have same : cSame s (k + 1) s2 (k2 + 1) X.2.2.1 C.tp fs ms sg t := by
    refine ⟨fun i hi => hb i hi, fun c hc => ?_⟩
    have hc2 : c < 256 + np := by
      rcases hc with q | q | q
      · omega
      · exact ((e6.2.1).2.1 c q).1.2
      · exact ((e6.2.1).2.2.1 c q).1.2
    have hc1 : 256 ≤ c := by
      rcases hc with q | q | q
      · omega
      · have := ((e6.2.1).2.1 c q).1.1; omega
      · have := ((e6.2.1).2.2.1 c q).1.1; omega
    exact ⟨hss.1 _ (by omega), hss.1 _ (by omega)⟩
  exact ⟨fs, ms, H, gs, by rw [h2]; exact e1, by rw [h3]; exact e2, pilk_mv (fun j hj => hd j _ e2 hl hj) e3, cIts_same hsc.2.2.2.1 htn (by omega) hss hg (Nat.le_refl _) (fun _ _ z => z) e4, by rw [h4]; exact e5, cCo_same htn hn hn9 e6 same, e7, cHs_ag (cSame_ag htn (by omega) e6.2.1 same) e8⟩
theorem tdn_dnt {sg : rSg} {s kb tp nv c : Nat} {fs ms : List Nat} {f : Tf} (hnv : 6 ≤ nv) (h : tdn sg s tp c f) : dnt (cV sg s kb 64) (cDm nv tp fs ms) c f := by
  intro th hs r hr
  refine h th (fun e he => ?_) r (fun v hv => hr v (by omega))
  have hD := cTd_D (nv := nv) (fs := fs) (ms := ms) hnv he
  have h1 := hs e hD
  rcases he with q | q | q
  · have g : e < 128 := by omega
    have e0 : cV sg s 0 0 e = none := by
      simp only [cV, if_pos g]
      rw [if_neg (fun q => absurd q.1 (by omega))]
    rw [e0]
    exact ⟨fun _ q => (by cases q), fun _ q => (by cases q), fun _ _ q => (by cases q)⟩
  · have g : ¬ e < 128 := by omega
    have e0 : cV sg s 0 0 e = cV sg s kb 64 e := by simp only [cV, if_neg g]
    rw [e0]
    exact h1
  · have g : ¬ e < 128 := by omega
    have e0 : cV sg s 0 0 e = cV sg s kb 64 e := by simp only [cV, if_neg g]
    rw [e0]
    exact h1
theorem vr_dnt {V : Nat → TV} {D : Nat → Prop} {v : Nat} (h : v < 64) : dnt V D v (vr v) := fun th _ r hr => hr v h
theorem atm_dnt {sg : rSg} {s kb tp nv : Nat} {fs ms : List Nat} : dnt (cV sg s kb 64) (cDm nv tp fs ms) 138 (atm 10) := fun th hs r _ => by
  have := (hs 138 (Or.inr (Or.inl ⟨by omega, by omega⟩))).2.1 10 (by simp [cV])
  exact this
theorem rtc_Ar {C : Cf} {nv c : Nat} {fs ms : List Nat} {H : Nat → Prop} (hnv : 6 ≤ nv) (hH : ¬ H c) (h : cTd C.tp c) (hr : rtc C c) : cAr C.tp C.p nv fs ms H c := by
  rcases h with h | h | h
  · exact Or.inl ⟨by omega, hH⟩
  · exact Or.inr (Or.inl h)
  · refine Or.inr (Or.inr (Or.inl ⟨h, ?_⟩))
    rcases hr with q | q
    · omega
    · exact q
