/-! THE RECKONER AND THE MACHINE: how its values, locals and cells lie in the machine's heap -/
def rvV (al : List Nat) : rv → Option Value
  | .inl i => some (.int i)
  | .inr (.inl j) => some (.long j)
  | .inr (.inr none) => some .null
  | .inr (.inr (some k)) => (al[k]?).map Value.ref
def rRS (al : List Nat) (S : List rv) (st : List Value) : Prop := S.map (rvV al) = st.map some
def rRL (al : List Nat) (L : List (Nat × rv)) (l : List (Nat × Value)) : Prop := L.map (fun q => (q.1, rvV al q.2)) = l.map (fun q => (q.1, some q.2))
/-- a place of a row of references -/
def rRo (al : List Nat) (x y : Option Nat) : Prop := (x = none ∧ y = none) ∨ ∃ (k a : Nat), x = some k ∧ al[k]? = some a ∧ y = some a
def rRE (ct : Nat → ClassId) (al : List Nat) (e : rEnt) (q : va_E) : Prop := match e with
  | .inl (n, f) => q = .inl (ct 0, n, .inl f)
  | .inr (.inl (t, n, g)) => ∃ g' : Nat → Option Nat, q = .inl (ct t, n, .inr (.inr (.inr (.inr g')))) ∧ ∀ i, rRo al (g i) (g' i)
  | .inr (.inr (c, vs)) => ∃ fs : List Value, q = .inr (c, fs) ∧ rRS al vs fs
abbrev rAd (ws : va_W) : List Nat := ws.map Prod.fst
def rRM (ct : Nat → ClassId) (M : List rEnt) (ws : va_W) : Prop := M.length = ws.length ∧ ∀ (k : Nat) (e : rEnt), M[k]? = some e → ∃ (a : Nat) (q : va_E), ws[k]? = some (a, q) ∧ rRE ct (rAd ws) e q
theorem rvV_app {al be : List Nat} {v : rv} {w : Value} (h : rvV al v = some w) : rvV (al ++ be) v = some w := by
  match v, h with
  | .inl i, h => exact h
  | .inr (.inl j), h => exact h
  | .inr (.inr none), h => exact h
  | .inr (.inr (some k)), h =>
    simp only [rvV] at h ⊢
    cases hk : al[k]? with
    | none => rw [hk] at h; cases h
    | some a =>
      rw [hk] at h
      rw [List.getElem?_append_left (List.getElem?_eq_some_iff.mp hk).1, hk]
      exact h
theorem rvV_pre {al be : List Nat} (hp : al <+: be) {v : rv} {w : Value} (h : rvV al v = some w) : rvV be v = some w := by
  obtain ⟨t, rfl⟩ := hp
  exact rvV_app h
theorem rRS_nil {al : List Nat} {st : List Value} (h : rRS al [] st) : st = [] := by
  cases st with
  | nil => rfl
  | cons a t => simp [rRS] at h
theorem rRS_cons {al : List Nat} {v : rv} {S : List rv} {st : List Value} (h : rRS al (v :: S) st) : ∃ (w : Value) (t : List Value), st = w :: t ∧ rvV al v = some w ∧ rRS al S t := by
  cases st with
  | nil => simp [rRS] at h
  | cons w t =>
    simp only [rRS, List.map_cons, List.cons.injEq] at h
    exact ⟨w, t, rfl, h.1, h.2⟩
theorem rRS_mk {al : List Nat} {v : rv} {S : List rv} {w : Value} {t : List Value} (h : rvV al v = some w) (hS : rRS al S t) : rRS al (v :: S) (w :: t) := by
  simp only [rRS, List.map_cons, h]
  rw [show S.map (rvV al) = t.map some from hS]
theorem rRS_0 {al : List Nat} : rRS al [] [] := rfl
theorem rRS_int {al : List Nat} {i : Int32} {S : List rv} {st : List Value} (h : rRS al (.inl i :: S) st) : ∃ t, st = .int i :: t ∧ rRS al S t := by
  obtain ⟨w, t, rfl, h1, h2⟩ := rRS_cons h
  cases h1
  exact ⟨t, rfl, h2⟩
theorem rRS_long {al : List Nat} {i : Int64} {S : List rv} {st : List Value} (h : rRS al (.inr (.inl i) :: S) st) : ∃ t, st = .long i :: t ∧ rRS al S t := by
  obtain ⟨w, t, rfl, h1, h2⟩ := rRS_cons h
  cases h1
  exact ⟨t, rfl, h2⟩
theorem rvV_ref {al : List Nat} {k : Nat} {w : Value} (h : rvV al (.inr (.inr (some k))) = some w) : ∃ a, al[k]? = some a ∧ w = .ref a := by
  simp only [rvV] at h
  cases hk : al[k]? with
  | none => rw [hk] at h; cases h
  | some a => rw [hk] at h; cases h; exact ⟨a, rfl, rfl⟩
theorem rvV_mk {al : List Nat} {k a : Nat} (h : al[k]? = some a) : rvV al (.inr (.inr (some k))) = some (.ref a) := by simp [rvV, h]
theorem rRS_ref {al : List Nat} {k : Nat} {S : List rv} {st : List Value} (h : rRS al (.inr (.inr (some k)) :: S) st) : ∃ (a : Nat) (t : List Value), st = .ref a :: t ∧ al[k]? = some a ∧ rRS al S t := by
  obtain ⟨w, t, rfl, h1, h2⟩ := rRS_cons h
  obtain ⟨a, ha, rfl⟩ := rvV_ref h1
  exact ⟨a, t, rfl, ha, h2⟩
theorem rvV_rf {al : List Nat} {x : Option Nat} {w : Value} (h : rvV al (.inr (.inr x)) = some w) : ∃ y, w = va_rf y ∧ rRo al x y := by
  cases x with
  | none => cases h; exact ⟨none, rfl, Or.inl ⟨rfl, rfl⟩⟩
  | some k =>
    obtain ⟨a, ha, rfl⟩ := rvV_ref h
    exact ⟨some a, rfl, Or.inr ⟨k, a, rfl, ha, rfl⟩⟩
theorem rvV_rfm {al : List Nat} {x y : Option Nat} (h : rRo al x y) : rvV al (.inr (.inr x)) = some (va_rf y) := by
  rcases h with ⟨rfl, rfl⟩ | ⟨k, a, rfl, ha, rfl⟩
  · rfl
  · exact rvV_mk ha
theorem rvV_cat {al : List Nat} {v : rv} {w : Value} (h : rvV al v = some w) : w.category = rCat v := by
  match v, h with
  | .inl i, h => cases h; rfl
  | .inr (.inl j), h => cases h; rfl
  | .inr (.inr none), h => cases h; rfl
  | .inr (.inr (some k)), h => obtain ⟨a, -, rfl⟩ := rvV_ref h; rfl
theorem rRS_pre {al be : List Nat} (hp : al <+: be) : ∀ {S : List rv} {st : List Value}, rRS al S st → rRS be S st := by
  intro S
  induction S with
  | nil => intro st h; rw [rRS_nil h]; rfl
  | cons v S ih =>
    intro st h
    obtain ⟨w, t, rfl, h1, h2⟩ := rRS_cons h
    exact rRS_mk (rvV_pre hp h1) (ih h2)
theorem rRS_app {al : List Nat} : ∀ {S T : List rv} {s t : List Value}, rRS al S s → rRS al T t → rRS al (S ++ T) (s ++ t) := by
  intro S
  induction S with
  | nil => intro T s t h h2; rw [rRS_nil h]; exact h2
  | cons v S ih =>
    intro T s t h h2
    obtain ⟨w, u, rfl, h1, h3⟩ := rRS_cons h
    exact rRS_mk h1 (ih h3 h2)
theorem rRS_len {al : List Nat} {S : List rv} {st : List Value} (h : rRS al S st) : st.length = S.length := by
  have := congrArg List.length h
  simpa using this.symm
theorem rRS_take {al : List Nat} {S : List rv} {st : List Value} (h : rRS al S st) (n : Nat) : rRS al (S.take n) (st.take n) := by
  simp only [rRS, List.map_take] at h ⊢
  rw [h]
theorem rRS_drop {al : List Nat} {S : List rv} {st : List Value} (h : rRS al S st) (n : Nat) : rRS al (S.drop n) (st.drop n) := by
  simp only [rRS, List.map_drop] at h ⊢
  rw [h]
theorem rRS_rev {al : List Nat} {S : List rv} {st : List Value} (h : rRS al S st) : rRS al S.reverse st.reverse := by
  simp only [rRS, List.map_reverse] at h ⊢
  rw [h]
theorem rRS_get {al : List Nat} {S : List rv} {st : List Value} (h : rRS al S st) {j : Nat} {v : rv} (hv : S[j]? = some v) : ∃ w, st[j]? = some w ∧ rvV al v = some w := by
  have h1 : (S.map (rvV al))[j]? = (st.map some)[j]? := by rw [show S.map (rvV al) = st.map some from h]
  rw [List.getElem?_map, List.getElem?_map, hv] at h1
  cases hj : st[j]? with
  | none => rw [hj] at h1; cases h1
  | some w => rw [hj] at h1; exact ⟨w, rfl, Option.some.inj h1⟩
theorem rRS_set {al : List Nat} {S : List rv} {st : List Value} (h : rRS al S st) (j : Nat) {v : rv} {w : Value} (hv : rvV al v = some w) : rRS al (S.set j v) (st.set j w) := by
  simp only [rRS, List.map_set] at h ⊢
  rw [h, hv]
theorem rRS_sum {al : List Nat} : ∀ {S : List rv} {st : List Value}, rRS al S st → (st.map fun v => v.category).sum = rSum S := by
  intro S
  induction S with
  | nil => intro st h; rw [rRS_nil h]; rfl
  | cons v S ih =>
    intro st h
    obtain ⟨w, t, rfl, h1, h2⟩ := rRS_cons h
    simp only [rSum, List.map_cons, List.sum_cons]
    rw [rvV_cat h1, ih h2]
    rfl
theorem rRo_pre {al be : List Nat} (hp : al <+: be) {x y : Option Nat} (h : rRo al x y) : rRo be x y := by
  rcases h with h | ⟨k, a, h1, h2, h3⟩
  · exact Or.inl h
  · obtain ⟨t, rfl⟩ := hp
    exact Or.inr ⟨k, a, h1, by rw [List.getElem?_append_left (List.getElem?_eq_some_iff.mp h2).1]; exact h2, h3⟩
theorem rRE_pre {ct : Nat → ClassId} {al be : List Nat} (hp : al <+: be) {e : rEnt} {q : va_E} (h : rRE ct al e q) : rRE ct be e q := by
  match e, h with
  | .inl (n, f), h => exact h
  | .inr (.inl (t, n, g)), h => obtain ⟨g', h1, h2⟩ := h; exact ⟨g', h1, fun i => rRo_pre hp (h2 i)⟩
  | .inr (.inr (c, vs)), h => obtain ⟨fs, h1, h2⟩ := h; exact ⟨fs, h1, rRS_pre hp h2⟩
theorem rRL_pre {al be : List Nat} (hp : al <+: be) : ∀ {L : List (Nat × rv)} {l : List (Nat × Value)}, rRL al L l → rRL be L l := by
  intro L
  induction L with
  | nil => intro l h; cases l with
    | nil => rfl
    | cons a t => simp [rRL] at h
  | cons v L ih =>
    intro l h
    cases l with
    | nil => simp [rRL] at h
    | cons w t =>
      simp only [rRL, List.map_cons, List.cons.injEq, Prod.mk.injEq] at h ⊢
      exact ⟨⟨h.1.1, rvV_pre hp h.1.2⟩, ih h.2⟩
theorem rRL_mk {al : List Nat} {L : List (Nat × rv)} {l : List (Nat × Value)} {i : Nat} {v : rv} {w : Value} (hv : rvV al v = some w) (h : rRL al L l) : rRL al ((i, v) :: L) ((i, w) :: l) := by
  simp only [rRL, List.map_cons, hv]
  rw [show L.map (fun q => (q.1, rvV al q.2)) = l.map (fun q => (q.1, some q.2)) from h]
theorem rRL_filter {al : List Nat} (f : Nat → Nat → Bool) : ∀ {L : List (Nat × rv)} {l : List (Nat × Value)}, rRL al L l → rRL al (L.filter (fun q => f q.1 (rCat q.2))) (l.filter (fun q => f q.1 q.2.category)) := by
  intro L
  induction L with
  | nil => intro l h; cases l with
    | nil => rfl
    | cons a t => simp [rRL] at h
  | cons v L ih =>
    intro l h
    cases l with
    | nil => simp [rRL] at h
    | cons w t =>
      simp only [rRL, List.map_cons, List.cons.injEq, Prod.mk.injEq] at h
      obtain ⟨⟨h1, h2⟩, h3⟩ := h
      have hc := rvV_cat h2
      simp only [List.filter_cons]
      rw [← h1, hc]
      by_cases hb : f v.1 (rCat v.2) = true
      · rw [if_pos hb, if_pos hb]
        obtain ⟨v1, v2⟩ := v
        obtain ⟨w1, w2⟩ := w
        simp only at h1
        subst h1
        exact rRL_mk h2 (ih h3)
      · rw [if_neg hb, if_neg hb]
        exact ih h3
theorem rRL_set1 {al : List Nat} {L : List (Nat × rv)} {l : List (Nat × Value)} {i : Nat} {v : rv} {w : Value} (hv : rvV al v = some w) (h : rRL al L l) : rRL al (rSet1 L i v) ((i, w) :: l.filter (fun q => !(q.1 == i) && !(q.1 + 1 == i && q.2.category == 2))) :=
  rRL_mk hv (rRL_filter (fun a c => !(a == i) && !(a + 1 == i && c == 2)) h)
theorem rRL_set2 {al : List Nat} {L : List (Nat × rv)} {l : List (Nat × Value)} {i : Nat} {v : rv} {w : Value} (hv : rvV al v = some w) (h : rRL al L l) : rRL al (rSet2 L i v) ((i, w) :: l.filter (fun q => !(q.1 == i) && (!(q.1 == i + 1) && !(q.1 + 1 == i && q.2.category == 2)))) :=
  rRL_mk hv (rRL_filter (fun a c => !(a == i) && (!(a == i + 1) && !(a + 1 == i && c == 2))) h)
theorem rRL_get {al : List Nat} {L : List (Nat × rv)} {l : List (Nat × Value)} {i : Nat} {v : rv} (h : rRL al L l) (hg : rGet L i = some v) : ∃ (k : Nat) (w : Value), l[k]? = some (i, w) ∧ rvV al v = some w := by
  unfold rGet at hg
  cases hf : L.find? (fun q => q.1 == i) with
  | none => rw [hf] at hg; cases hg
  | some q =>
    rw [hf] at hg
    cases hg
    have hq1 : q.1 = i := by simpa using List.find?_some hf
    obtain ⟨k, hk⟩ := List.getElem?_of_mem (List.mem_of_find?_eq_some hf)
    have h1 : (L.map (fun q => (q.1, rvV al q.2)))[k]? = (l.map (fun q => (q.1, some q.2)))[k]? := by rw [show L.map (fun q => (q.1, rvV al q.2)) = l.map (fun q => (q.1, some q.2)) from h]
    rw [List.getElem?_map, List.getElem?_map, hk] at h1
    cases hl : l[k]? with
    | none => rw [hl] at h1; cases h1
    | some x =>
      rw [hl] at h1
      have h2 := Option.some.inj h1
      simp only [Prod.mk.injEq] at h2
      refine ⟨k, x.2, ?_, h2.2⟩
      rw [hl, ← hq1, h2.1]
theorem rRL_args {al : List Nat} : ∀ {S : List rv} {st : List Value} (i : Nat), rRS al S st → rRL al (rArgs i S) (lv_args i st) := by
  intro S
  induction S with
  | nil => intro st i h; rw [rRS_nil h]; rfl
  | cons v S ih =>
    intro st i h
    obtain ⟨w, t, rfl, h1, h2⟩ := rRS_cons h
    unfold rArgs lv_args
    rw [rvV_cat h1]
    exact rRL_mk h1 (ih _ h2)
theorem rWide_sl {al : List Nat} : ∀ {S : List rv} {st : List Value}, rRS al S st → (lg_sl st).length = rWide S := by
  intro S
  induction S with
  | nil => intro st h; rw [rRS_nil h]; rfl
  | cons v S ih =>
    intro st h
    obtain ⟨w, t, rfl, h1, h2⟩ := rRS_cons h
    have e1 : lg_sl (w :: t) = (if w.category = 2 then [.val w, .second] else [.val w]) ++ lg_sl t := by simp [lg_sl]
    rw [e1, List.length_append, ih h2, rvV_cat h1]
    show _ = (if rCat v = 2 then 2 else 1) + rWide S
    by_cases hc : rCat v = 2
    · rw [if_pos hc, if_pos hc]; rfl
    · rw [if_neg hc, if_neg hc]; rfl
theorem rAd_at {ws : va_W} {k a : Nat} {q : va_E} (h : ws[k]? = some (a, q)) : (rAd ws)[k]? = some a := by simp [rAd, h]
theorem rAd_in {ws : va_W} {k a : Nat} (h : (rAd ws)[k]? = some a) : ∃ q, ws[k]? = some (a, q) := by
  simp only [rAd, List.getElem?_map] at h
  cases hk : ws[k]? with
  | none => rw [hk] at h; cases h
  | some x => rw [hk] at h; cases h; exact ⟨x.2, rfl⟩
theorem rAd_set {ws : va_W} {k a : Nat} {q q' : va_E} (h : ws[k]? = some (a, q)) : rAd (ws.set k (a, q')) = rAd ws := by
  apply List.ext_getElem?
  intro j
  simp only [rAd, List.getElem?_map, List.getElem?_set]
  by_cases hj : k = j
  · subst hj
    have hl := (List.getElem?_eq_some_iff.mp h).1
    rw [if_pos rfl, if_pos hl, h]
    rfl
  · rw [if_neg hj]
theorem rRM_at {ct : Nat → ClassId} {M : List rEnt} {ws : va_W} (h : rRM ct M ws) {k a : Nat} (ha : (rAd ws)[k]? = some a) {e : rEnt} (he : M[k]? = some e) : ∃ q, ws[k]? = some (a, q) ∧ rRE ct (rAd ws) e q := by
  obtain ⟨a', q, h1, h2⟩ := h.2 k e he
  have := rAd_at h1
  rw [ha] at this
  cases this
  exact ⟨q, h1, h2⟩
theorem rRM_set {ct : Nat → ClassId} {M : List rEnt} {ws : va_W} (h : rRM ct M ws) {k a : Nat} {q q' : va_E} (hk : ws[k]? = some (a, q)) {e' : rEnt} (he : rRE ct (rAd ws) e' q') : rRM ct (M.set k e') (ws.set k (a, q')) := by
  refine ⟨by simp [h.1], fun j e hj => ?_⟩
  rw [rAd_set hk]
  rw [List.getElem?_set] at hj
  by_cases hkj : k = j
  · subst hkj
    have hl := (List.getElem?_eq_some_iff.mp hk).1
    rw [if_pos rfl, if_pos (by rw [h.1]; exact hl)] at hj
    cases hj
    exact ⟨a, q', by simp [hl], he⟩
  · rw [if_neg hkj] at hj
    obtain ⟨a2, q2, h1, h2⟩ := h.2 j e hj
    exact ⟨a2, q2, by rw [List.getElem?_set, if_neg hkj]; exact h1, h2⟩
theorem rAd_app (ws w2 : va_W) : rAd (ws ++ w2) = rAd ws ++ rAd w2 := by simp [rAd]
theorem rRM_app {ct : Nat → ClassId} {M : List rEnt} {ws : va_W} (h : rRM ct M ws) {N : List rEnt} {w2 : va_W} (hl : N.length = w2.length) (hn : ∀ (k : Nat) (e : rEnt), N[k]? = some e → ∃ (a : Nat) (q : va_E), w2[k]? = some (a, q) ∧ rRE ct (rAd (ws ++ w2)) e q) : rRM ct (M ++ N) (ws ++ w2) := by
  refine ⟨by simp [h.1, hl], fun j e hj => ?_⟩
  by_cases hlt : j < M.length
  · rw [List.getElem?_append_left hlt] at hj
    obtain ⟨a, q, h1, h2⟩ := h.2 j e hj
    exact ⟨a, q, by rw [List.getElem?_append_left (by rw [← h.1]; exact hlt)]; exact h1, rRE_pre (by rw [rAd_app]; exact List.prefix_append _ _) h2⟩
  · rw [List.getElem?_append_right (by omega)] at hj
    obtain ⟨a, q, h1, h2⟩ := hn _ _ hj
    exact ⟨a, q, by rw [List.getElem?_append_right (by rw [← h.1]; omega), ← h.1]; exact h1, h2⟩
theorem rRM_push {ct : Nat → ClassId} {M : List rEnt} {ws : va_W} (h : rRM ct M ws) {e : rEnt} {a : Nat} {q : va_E} (he : rRE ct (rAd (ws ++ [(a, q)])) e q) : rRM ct (M ++ [e]) (ws ++ [(a, q)]) := by
  refine rRM_app h rfl fun k e2 hk => ?_
  have hk0 : k < 1 := (List.getElem?_eq_some_iff.mp hk).1
  rw [show k = 0 by omega] at hk ⊢
  cases hk
  exact ⟨a, q, rfl, he⟩
theorem rAd_new {ws : va_W} {a : Nat} {q : va_E} {n : Nat} (hn : n = ws.length) : (rAd (ws ++ [(a, q)]))[n]? = some a := by
  subst hn
  simp [rAd]
