/-! TERMS, seen alike in the class and in the reference: V says what a code is: open (none), bound to a code, an atom, a pair of codes -/
abbrev TV : Type := Option (Nat ⊕ Nat ⊕ (Nat × Nat))
def vOK (V : Nat → TV) (D : Nat → Prop) (rk : Nat → Nat) : Prop := ∀ c, D c → (∀ e, V c = some (.inl e) → D e ∧ rk e < rk c) ∧ (∀ n, V c = some (.inr (.inl n)) → n < 12) ∧ (∀ a b, V c = some (.inr (.inr (a, b))) → (D a ∧ rk a < rk c) ∧ (D b ∧ rk b < rk c))
def vHt (V : Nat → TV) (D : Nat → Prop) (hh : Nat → Nat) : Prop := ∀ c, D c → (∀ e, V c = some (.inl e) → hh e ≤ hh c) ∧ (∀ a b, V c = some (.inr (.inr (a, b))) → hh a < hh c ∧ hh b < hh c)
def vSol (V : Nat → TV) (D : Nat → Prop) (th : Nat → Nat) : Prop := ∀ c, D c → (∀ e, V c = some (.inl e) → th c = th e) ∧ (∀ n, V c = some (.inr (.inl n)) → th c = n) ∧ (∀ a b, V c = some (.inr (.inr (a, b))) → th c = nd (th a) (th b))
def vCl (V : Nat → TV) (S : Nat → Prop) : Prop := ∀ c, S c → (∀ e, V c = some (.inl e) → S e) ∧ (∀ a b, V c = some (.inr (.inr (a, b))) → S a ∧ S b)
def reach (V : Nat → TV) (c x : Nat) : Prop := ∀ S, vCl V S → S c → S x
def vB (V : Nat → TV) (i c : Nat) : Nat → TV := fun x => if x = i then some (.inl c) else V x
theorem vB_same (V : Nat → TV) (i c : Nat) : vB V i c i = some (.inl c) := if_pos rfl
theorem vB_ne (V : Nat → TV) (i c : Nat) {x : Nat} (h : x ≠ i) : vB V i c x = V x := if_neg h
section REACH
variable {V : Nat → TV}
theorem reach.rfl' {c : Nat} : reach V c c := fun _ _ h => h
theorem reach.trans {a b c : Nat} (h1 : reach V a b) (h2 : reach V b c) : reach V a c := fun S hS h => h2 S hS (h1 S hS h)
theorem reach.ref {c e : Nat} (h : V c = some (.inl e)) : reach V c e := fun S hS hc => (hS c hc).1 e h
theorem reach.left {c a b : Nat} (h : V c = some (.inr (.inr (a, b)))) : reach V c a := fun S hS hc => ((hS c hc).2 a b h).1
theorem reach.right {c a b : Nat} (h : V c = some (.inr (.inr (a, b)))) : reach V c b := fun S hS hc => ((hS c hc).2 a b h).2
/-- what is in a term: itself, or in what it is made of -/
theorem reach.inv {c x : Nat} (h : reach V c x) : c = x ∨ (∃ e, V c = some (.inl e) ∧ reach V e x) ∨ (∃ a b, V c = some (.inr (.inr (a, b))) ∧ (reach V a x ∨ reach V b x)) := by
  refine h (fun y => c = y ∨ (∃ e, V c = some (.inl e) ∧ reach V e y) ∨ (∃ a b, V c = some (.inr (.inr (a, b))) ∧ (reach V a y ∨ reach V b y))) ?_ (Or.inl rfl)
  intro y hy
  rcases hy with rfl | ⟨e, he, hr⟩ | ⟨a, b, hp, hr⟩
  · exact ⟨fun e he => Or.inr (Or.inl ⟨e, he, reach.rfl'⟩), fun a b hp => ⟨Or.inr (Or.inr ⟨a, b, hp, Or.inl reach.rfl'⟩), Or.inr (Or.inr ⟨a, b, hp, Or.inr reach.rfl'⟩)⟩⟩
  · exact ⟨fun e2 h2 => Or.inr (Or.inl ⟨e, he, hr.trans (reach.ref h2)⟩), fun a b hp => ⟨Or.inr (Or.inl ⟨e, he, hr.trans (reach.left hp)⟩), Or.inr (Or.inl ⟨e, he, hr.trans (reach.right hp)⟩)⟩⟩
  · refine ⟨fun e2 h2 => Or.inr (Or.inr ⟨a, b, hp, ?_⟩), fun a2 b2 h2 => ⟨Or.inr (Or.inr ⟨a, b, hp, ?_⟩), Or.inr (Or.inr ⟨a, b, hp, ?_⟩)⟩⟩
    · rcases hr with hr | hr
      · exact Or.inl (hr.trans (reach.ref h2))
      · exact Or.inr (hr.trans (reach.ref h2))
    · rcases hr with hr | hr
      · exact Or.inl (hr.trans (reach.left h2))
      · exact Or.inr (hr.trans (reach.left h2))
    · rcases hr with hr | hr
      · exact Or.inl (hr.trans (reach.right h2))
      · exact Or.inr (hr.trans (reach.right h2))
variable {D : Nat → Prop} {rk th : Nat → Nat}
theorem vSol_reach (hok : vOK V D rk) (hs : vSol V D th) {c x : Nat} (hc : D c) (h : reach V c x) : D x ∧ th x ≤ th c := by
  refine h (fun y => D y ∧ th y ≤ th c) ?_ ⟨hc, Nat.le_refl _⟩
  rintro y ⟨hy, hle⟩
  refine ⟨fun e he => ⟨((hok y hy).1 e he).1, ?_⟩, fun a b hp => ?_⟩
  · rw [← (hs y hy).1 e he]
    exact hle
  · have h1 := (hs y hy).2.2 a b hp
    have h2 := (hok y hy).2.2 a b hp
    have g1 := nd_gt1 (th a) (th b)
    have g2 := nd_gt2 (th a) (th b)
    exact ⟨⟨h2.1.1, by omega⟩, ⟨h2.2.1, by omega⟩⟩
theorem vSol_lt (hok : vOK V D rk) (hs : vSol V D th) {c x a b : Nat} (hc : D c) (hp : V c = some (.inr (.inr (a, b)))) (h : reach V c x) (hne : c ≠ x) : th x < th c := by
  have h1 := (hs c hc).2.2 a b hp
  have h2 := (hok c hc).2.2 a b hp
  have g1 := nd_gt1 (th a) (th b)
  have g2 := nd_gt2 (th a) (th b)
  rcases h.inv with e | ⟨e, he, _⟩ | ⟨a2, b2, hp2, hr⟩
  · exact absurd e hne
  · rw [hp] at he; cases he
  · rw [hp] at hp2
    cases hp2
    rcases hr with hr | hr
    · have := (vSol_reach hok hs h2.1.1 hr).2; omega
    · have := (vSol_reach hok hs h2.2.1 hr).2; omega
theorem vSol_bind {i c : Nat} (ho : V i = none) (hi : D i) : vSol (vB V i c) D th ↔ vSol V D th ∧ th i = th c := by
  constructor
  · intro h
    refine ⟨fun x hx => ?_, (h i hi).1 c (vB_same V i c)⟩
    by_cases hxi : x = i
    · subst hxi
      rw [ho]
      exact ⟨fun e he => (by cases he), fun n hn => (by cases hn), fun a b hp => (by cases hp)⟩
    · have := h x hx
      rw [vB_ne V i c hxi] at this
      exact this
  · rintro ⟨h, he⟩ x hx
    by_cases hxi : x = i
    · subst hxi
      rw [vB_same]
      exact ⟨fun e h9 => (by cases h9; exact he), fun n hn => (by cases hn), fun a b hp => (by cases hp)⟩
    · rw [vB_ne V i c hxi]
      exact h x hx
theorem vHt_bind {i c : Nat} {hh : Nat → Nat} (ho : V i = none) (h : vHt (vB V i c) D hh) : vHt V D hh := by
  intro x hx
  by_cases hxi : x = i
  · subst hxi
    rw [ho]
    exact ⟨fun e he => (by cases he), fun a b hp => (by cases hp)⟩
  · have := h x hx
    rw [vB_ne V i c hxi] at this
    exact this
theorem vOK_bind {i c : Nat} (ho : V i = none) (hok : vOK V D rk) (hc : D c) (hr : ¬ reach V c i) : ∃ rk2, vOK (vB V i c) D rk2 := by
  classical
  refine ⟨fun x => if reach V x i then rk x + rk c + 1 else rk x, fun x hx => ?_⟩
  by_cases hxi : x = i
  · subst hxi
    rw [vB_same]
    refine ⟨fun e he => ?_, fun n hn => (by cases hn), fun a b hp => (by cases hp)⟩
    cases he
    refine ⟨hc, ?_⟩
    show (if reach V c x then _ else _) < (if reach V x x then _ else _)
    rw [if_neg hr, if_pos reach.rfl']
    omega
  · rw [vB_ne V i c hxi]
    have h0 := hok x hx
    refine ⟨fun e he => ⟨(h0.1 e he).1, ?_⟩, h0.2.1, fun a b hp => ⟨⟨(h0.2.2 a b hp).1.1, ?_⟩, ⟨(h0.2.2 a b hp).2.1, ?_⟩⟩⟩
    · have := (h0.1 e he).2
      show (if reach V e i then _ else _) < (if reach V x i then _ else _)
      by_cases q : reach V e i
      · rw [if_pos q, if_pos ((reach.ref he).trans q)]; omega
      · rw [if_neg q]; split <;> omega
    · have := (h0.2.2 a b hp).1.2
      show (if reach V a i then _ else _) < (if reach V x i then _ else _)
      by_cases q : reach V a i
      · rw [if_pos q, if_pos ((reach.left hp).trans q)]; omega
      · rw [if_neg q]; split <;> omega
    · have := (h0.2.2 a b hp).2.2
      show (if reach V b i then _ else _) < (if reach V x i then _ else _)
      by_cases q : reach V b i
      · rw [if_pos q, if_pos ((reach.right hp).trans q)]; omega
      · rw [if_neg q]; split <;> omega
end REACH
theorem countP_lt {p q : Nat → Bool} : ∀ {l : List Nat}, (∀ x ∈ l, p x = true → q x = true) → (∃ x, x ∈ l ∧ q x = true ∧ p x = false) → l.countP p < l.countP q
  | [], _, ⟨x, hx, _⟩ => by cases hx
  | y :: t, h, ⟨x, hx, hq, hp⟩ => by
    have hm : t.countP p ≤ t.countP q := List.countP_mono_left (fun z hz => h z (List.mem_cons_of_mem _ hz))
    rw [List.countP_cons, List.countP_cons]
    rcases List.mem_cons.mp hx with rfl | hx
    · rw [if_pos hq, if_neg (by rw [hp]; decide)]
      omega
    · have ih := countP_lt (l := t) (fun z hz => h z (List.mem_cons_of_mem _ hz)) ⟨x, hx, hq, hp⟩
      have hy := h y List.mem_cons_self
      by_cases h1 : p y = true
      · rw [if_pos h1, if_pos (hy h1)]; omega
      · rw [if_neg h1]; split <;> omega
/-- how high a term is, in pairs: at most as many as there are pairs -/
theorem vHt_ex {V : Nat → TV} {D : Nat → Prop} {rk : Nat → Nat} (hok : vOK V D rk) (ps : List Nat) (hps : ∀ c a b, D c → V c = some (.inr (.inr (a, b))) → c ∈ ps) : ∃ hh, vHt V D hh ∧ ∀ c, hh c ≤ ps.length := by
  refine ⟨fun c => ps.countP (fun y => decide (rk y ≤ rk c)), fun c hc => ⟨fun e he => ?_, fun a b hp => ?_⟩, fun c => List.countP_le_length⟩
  · have := ((hok c hc).1 e he).2
    exact List.countP_mono_left (fun x _ hx => by simp at hx ⊢; omega)
  · have h0 := (hok c hc).2.2 a b hp
    constructor
    · exact countP_lt (fun x _ hx => by simp at hx ⊢; omega) ⟨c, hps c a b hc hp, by simp, by simp; omega⟩
    · exact countP_lt (fun x _ hx => by simp at hx ⊢; omega) ⟨c, hps c a b hc hp, by simp, by simp; omega⟩
/-! solutions: what is open may be anything -/
def thf (V : Nat → TV) (ro : Nat → Nat) : Nat → Nat → Nat
  | 0, _ => 0
  | n + 1, c => match V c with
    | none => ro c
    | some (.inl e) => thf V ro n e
    | some (.inr (.inl k)) => k
    | some (.inr (.inr (a, b))) => nd (thf V ro n a) (thf V ro n b)
theorem thf_stab {V : Nat → TV} {D : Nat → Prop} {rk : Nat → Nat} (hok : vOK V D rk) (ro : Nat → Nat) : ∀ (n m c : Nat), D c → rk c < n → rk c < m → thf V ro n c = thf V ro m c := by
  intro n
  induction n with
  | zero => intro m c _ h; omega
  | succ n ih =>
    intro m c hc hn hm
    obtain ⟨m, rfl⟩ : ∃ q, m = q + 1 := ⟨m - 1, by omega⟩
    have h0 := hok c hc
    simp only [thf]
    split
    · rfl
    · next e he => have := h0.1 e he; exact ih m e this.1 (by omega) (by omega)
    · rfl
    · next a b hp =>
      have := h0.2.2 a b hp
      rw [ih m a this.1.1 (by omega) (by omega), ih m b this.2.1 (by omega) (by omega)]
theorem thf_indep {V : Nat → TV} {ro r2 : Nat → Nat} : ∀ (n c : Nat), (∀ x, reach V c x → ro x = r2 x) → thf V ro n c = thf V r2 n c := by
  intro n
  induction n with
  | zero => intro c _; rfl
  | succ n ih =>
    intro c h
    simp only [thf]
    split
    · exact h c reach.rfl'
    · next e he => exact ih e (fun x hx => h x ((reach.ref he).trans hx))
    · rfl
    · next a b hp => rw [ih a (fun x hx => h x ((reach.left hp).trans hx)), ih b (fun x hx => h x ((reach.right hp).trans hx))]
theorem vSol_ex {V : Nat → TV} {D : Nat → Prop} {rk : Nat → Nat} (hok : vOK V D rk) (ro : Nat → Nat) : ∃ th, vSol V D th ∧ (∀ c, V c = none → th c = ro c) ∧ (∀ c, th c = thf V ro (rk c + 1) c) := by
  refine ⟨fun c => thf V ro (rk c + 1) c, fun c hc => ⟨fun e he => ?_, fun n hn => ?_, fun a b hp => ?_⟩, fun c hc => ?_, fun c => rfl⟩
  · have := (hok c hc).1 e he
    simp only [thf, he]
    exact thf_stab hok ro (rk c) (rk e + 1) e this.1 (by omega) (by omega)
  · simp only [thf, hn]
  · have := (hok c hc).2.2 a b hp
    simp only [thf, hp]
    have e1 := thf_stab hok ro (rk c) (rk a + 1) a this.1.1 (by omega) (by omega)
    have e2 := thf_stab hok ro (rk c) (rk b + 1) b this.2.1 (by omega) (by omega)
    simp only [thf] at e1 e2
    rw [e1, e2]
  · simp only [thf, hc]
/-- an open one that is not in a term may be another -/
theorem vSol_other {V : Nat → TV} {D : Nat → Prop} {rk : Nat → Nat} (hok : vOK V D rk) {i c : Nat} (ho : V i = none) (hr : ¬ reach V c i) : ∃ th, vSol V D th ∧ th i ≠ th c := by
  obtain ⟨t1, _, _, h1⟩ := vSol_ex hok (fun _ => 0)
  obtain ⟨t2, s2, o2, h2⟩ := vSol_ex hok (fun x => if x = i then t1 c + 1 else 0)
  refine ⟨t2, s2, ?_⟩
  rw [o2 i ho, if_pos rfl, h2 c, ← thf_indep (ro := fun _ => 0) (rk c + 1) c (fun x hx => by
    by_cases hxi : x = i
    · subst hxi; exact absurd hx hr
    · simp only [if_neg hxi]), ← h1 c]
  omega
/-- an open one may be any number -/
theorem vSol_any {V : Nat → TV} {D : Nat → Prop} {rk : Nat → Nat} (hok : vOK V D rk) {i : Nat} (ho : V i = none) (n : Nat) : ∃ th, vSol V D th ∧ th i = n := by
  obtain ⟨t2, s2, o2, _⟩ := vSol_ex hok (fun _ => n)
  exact ⟨t2, s2, o2 i ho⟩
/-! what a walk leads to -/
def vRes (V : Nat → TV) (c : Nat) : Prop := ∀ e, V c ≠ some (.inl e)
def wlk (V : Nat → TV) (D : Nat → Prop) (c c2 : Nat) : Prop := (∀ th, vSol V D th → th c = th c2) ∧ (∀ hh, vHt V D hh → hh c2 ≤ hh c) ∧ reach V c c2 ∧ (∀ x, vRes V x → reach V c x → reach V c2 x)
theorem wlk.rfl' {V : Nat → TV} {D : Nat → Prop} {c : Nat} : wlk V D c c := ⟨fun _ _ => rfl, fun _ _ => Nat.le_refl _, reach.rfl', fun _ _ h => h⟩
theorem wlk.step {V : Nat → TV} {D : Nat → Prop} {c e c2 : Nat} (hc : D c) (he : V c = some (.inl e)) (h : wlk V D e c2) : wlk V D c c2 := by
  refine ⟨fun th hs => ((hs c hc).1 e he).trans (h.1 th hs), fun hh hs => Nat.le_trans (h.2.1 hh hs) ((hs c hc).1 e he), (reach.ref he).trans h.2.2.1, fun x hx hr => h.2.2.2 x hx ?_⟩
  rcases hr.inv with rfl | ⟨e2, h2, hr⟩ | ⟨a, b, h2, _⟩
  · exact absurd he (hx e)
  · rw [he] at h2; cases h2; exact hr
  · rw [he] at h2; cases h2
/-! how much is still to be looked at -/
def wt (h : Nat) : Nat := 2 ^ (h + 1) - 1
theorem wt_pos (h : Nat) : 0 < wt h := by
  have : 2 ^ (h + 1) = 2 * 2 ^ h := by rw [Nat.pow_succ]; omega
  have := Nat.two_pow_pos h
  unfold wt
  omega
theorem wt_mono {a b : Nat} (h : a ≤ b) : wt a ≤ wt b := by
  have : 2 ^ (a + 1) ≤ 2 ^ (b + 1) := Nat.pow_le_pow_right (by decide) (by omega)
  unfold wt
  omega
theorem wt_two {a b c : Nat} (ha : a < c) (hb : b < c) : wt a + wt b < wt c := by
  have h1 : 2 ^ (a + 1) ≤ 2 ^ c := Nat.pow_le_pow_right (by decide) (by omega)
  have h2 : 2 ^ (b + 1) ≤ 2 ^ c := Nat.pow_le_pow_right (by decide) (by omega)
  have h3 : 2 ^ (c + 1) = 2 * 2 ^ c := by rw [Nat.pow_succ]; omega
  have := Nat.two_pow_pos a
  have : 2 ^ (a + 1) = 2 * 2 ^ a := by rw [Nat.pow_succ]; omega
  unfold wt
  omega
/-- a pile, the top first: how high each is, less as it lies higher -/
def hch (hh : Nat → Nat) (R : Nat) : List Nat → Prop
  | [] => True
  | e :: es => hh e + es.length ≤ R ∧ hch hh R es
def wts (hh : Nat → Nat) : List Nat → Nat
  | [] => 0
  | e :: es => wt (hh e) + wts hh es
theorem hch_len {hh : Nat → Nat} {R : Nat} : ∀ {es : List Nat}, hch hh R es → es.length ≤ R + 1
  | [], _ => Nat.zero_le _
  | e :: es, h => by have := h.1; simp; omega
theorem wts_lt {hh : Nat → Nat} {R : Nat} : ∀ {es : List Nat}, hch hh R es → wts hh es < 2 ^ (R + 2)
  | [], _ => Nat.two_pow_pos _
  | [e], h => by
    have h1 : hh e ≤ R := by have := h.1; simp at this; exact this
    have := wt_mono h1
    have h2 : 2 ^ (R + 2) = 2 * 2 ^ (R + 1) := by rw [Nat.pow_succ]; omega
    have := Nat.two_pow_pos (R + 1)
    simp only [wts]
    unfold wt at *
    omega
  | e :: f :: es, h => by
    have ih := wts_lt2 (e :: f :: es) h
    exact ih
where
  wts_lt2 {hh : Nat → Nat} {R : Nat} : ∀ (es : List Nat), hch hh R es → wts hh es < 2 ^ (R + 2)
  | [], _ => Nat.two_pow_pos _
  | e :: es, h => by
    have key : ∀ (es : List Nat), hch hh R es → wts hh es + 2 ^ (R + 2 - es.length) ≤ 2 ^ (R + 2) := by
      intro es
      induction es with
      | nil => intro _; simp [wts]
      | cons e es ih =>
        intro h
        have h1 := ih h.2
        have h2 := h.1
        have h3 : R + 2 - es.length = (R + 2 - (es.length + 1)) + 1 := by omega
        have h4 : wt (hh e) ≤ wt (R - es.length) := wt_mono (by omega)
        have h5 : R + 2 - (es.length + 1) = R - es.length + 1 := by omega
        rw [h3, Nat.pow_succ] at h1
        simp only [wts, List.length_cons]
        rw [h5] at h1 ⊢
        unfold wt at h4
        have := Nat.two_pow_pos (R - es.length + 1)
        unfold wt
        omega
    have h1 := key (e :: es) h
    have := Nat.two_pow_pos (R + 2 - (e :: es).length)
    omega
