/-! THE CLASS IS ASKED: earliest, different -/
def rowT (t : rSg) (i : Nat) (tx : List Int32) : Prop := t 724 i = nI tx.length ∧ tx.length ≤ 200 ∧ ∀ j x, tx[j]? = some x → t (694 + i) j = x
def tq (Q : Qx) (v i : Nat) (tx : List Int32) : Prop := ∃ n X, Q.2.1[i]? = some (n, X) ∧ isT X.2.2.2 v tx
theorem tq_uniq {Q : Qx} {v i : Nat} {a b : List Int32} (h1 : tq Q v i a) (h2 : tq Q v i b) : a = b := by
  obtain ⟨n, X, e, h⟩ := h1
  obtain ⟨n2, X2, e2, h2⟩ := h2
  rw [e] at e2
  obtain ⟨rfl, rfl⟩ := Prod.mk.inj (Option.some.inj e2)
  exact isT_uniq h h2
def sm (Q : Qx) (v j i : Nat) : Prop := ∃ tx, tq Q v j tx ∧ tq Q v i tx
theorem sm_iff {Q : Qx} {v j i : Nat} {a b : List Int32} (h1 : tq Q v j a) (h2 : tq Q v i b) : sm Q v j i ↔ a = b := by
  constructor
  · rintro ⟨tx, q1, q2⟩
    rw [tq_uniq h1 q1, tq_uniq h2 q2]
  · rintro rfl
    exact ⟨a, h1, h2⟩
def fsA (Q : Qx) (v i j : Nat) : Prop := j ≤ i ∧ sm Q v j i ∧ ∀ k, k < j → ¬ sm Q v k i
theorem fsA_uniq {Q : Qx} {v i j k : Nat} (h1 : fsA Q v i j) (h2 : fsA Q v i k) : j = k := by
  rcases Nat.lt_trichotomy j k with h | h | h
  · exact absurd h1.2.1 (h2.2.2 j h)
  · exact h
  · exact absurd h2.2.1 (h1.2.2 k h)
def dif (Q : Qx) (v : Nat) : Nat → Nat → Prop
  | 0, c => c = 0
  | i + 1, c => ∃ c', dif Q v i c' ∧ ((fsA Q v i i ∧ c = c' + 1) ∨ (¬ fsA Q v i i ∧ c = c'))
theorem dif_uniq {Q : Qx} {v : Nat} : ∀ {n a b : Nat}, dif Q v n a → dif Q v n b → a = b
  | 0, a, b, h1, h2 => h1.trans h2.symm
  | n + 1, a, b, ⟨c, g1, k1⟩, ⟨d, g2, k2⟩ => by
    have e := dif_uniq g1 g2
    subst e
    rcases k1 with ⟨f1, rfl⟩ | ⟨f1, rfl⟩ <;> rcases k2 with ⟨f2, rfl⟩ | ⟨f2, rfl⟩
    · rfl
    · exact absurd f1 f2
    · exact absurd f2 f1
    · rfl
def sEar (Q : Qx) (x y : Int32) : Int32 → Option Int32 → Prop := wAn Q x (fun i _ _ => wNm y (fun v r o => ∃ j, fsA Q v i j ∧ wIs (nI j) r o))
def sDif (Q : Qx) (y : Int32) : Int32 → Option Int32 → Prop := wNm y (fun v r o => ∃ c, dif Q v Q.2.1.length c ∧ wIs (nI c) r o)
/-- between texts: only the rows of texts have changed -/
theorem kc0.tx {l D : Nat} {s t u : rSg} (h : kc0 l D s t) (g : ∀ q, q < 692 ∨ 724 < q → u q = t q) : kc0 l D s u := ⟨h.1.trans (fun q hq => g q (by omega)), (g 691 (by omega)).trans h.2.1, h.2.2.1.elim (fun m q => ⟨m, q.1, cSn_fr q.2 (by rw [g 1 (by omega)]) (g 5 (by omega))⟩), ⟨h.2.2.2.1.ext (g 6 (by omega)), h.2.2.2.2.1.ext (g 230 (by omega)), h.2.2.2.2.2.ext (g 454 (by omega))⟩⟩
theorem cx_89c {s : rSg} {tx : List Int32} {i : Nat} (hi : i < 30) {x y : Int32} {P : Option rv → rSg → Prop} {t0 : rSg} (ht : txC t0 tx) (h24 : t0 724 i = nI tx.length) (nxt : ∀ t, rowT t i tx → (∀ q, q ≠ 694 + i → t q = t0 q) → g_89_2 x y (nI i + 1) t P) : ∀ (m k : Nat) (t : rSg), k + m = tx.length → (∀ q, q ≠ 694 + i → t q = t0 q) → (∀ j x, j < k → tx[j]? = some x → t (694 + i) j = x) → g_89_52 x y (nI i) (nI k) t P := by
  intro m
  have l2 := ht.2.1
  induction m with
  | zero =>
    intro k t hk h1 h2
    obtain rfl : k = tx.length := by omega
    refine w_89_52 t _ _ _ _ ⟨fun _ => nxt t ⟨by rw [h1 724 (by omega)]; exact h24, l2, fun j x hj => h2 j x (List.getElem?_eq_some_iff.mp hj).1 hj⟩ h1, fun q => absurd (by rw [h1 682 (by omega), ht.1]; exact nI_le (Nat.le_refl _) (by omega)) q⟩
  | succ m ih =>
    intro k t hk h1 h2
    have e3 : t 682 3 = nI tx.length := by rw [h1 682 (by omega)]; exact ht.1
    have tt : txC t tx := ⟨e3, l2, fun j x hj => by rw [h1 683 (by omega)]; exact ht.2.2 j x hj⟩
    refine w_89_52 t _ _ _ _ ⟨fun q => ?_, fun _ => ⟨fun q => ?_, fun _ => ⟨rIn_nI hi (by decide), 694 + i, by rw [nI_clamp (by omega)]; exact if_pos hi, ?_, ?_⟩⟩⟩
    · rw [e3] at q; have := (nI_leI (by omega) (by omega)).mp q; omega
    · have := (nI_leI (a := 200) (by omega) (by omega)).mp q; omega
    · exact arr_txt hi
    · refine cx_63 tt (nI_le (a := 0) (by omega) (by omega)) ⟨_, rfl, rIn_nI (by omega) (by decide), ?_⟩
      rw [nI_clamp (by omega), nI_1]
      refine ih (k + 1) _ (by omega) (fun q hq => by rw [up2_nk _ _ _ hq]; exact h1 q hq) (fun j x hj hx => ?_)
      by_cases e : j = k
      · subst e
        rw [up2_same]
        unfold txD
        rw [nI_clamp (by omega), List.getD_eq_getElem?_getD, hx]
        rfl
      · rw [up2_nj _ _ _ e]; exact h2 j x (by omega) hx
theorem cx_89b {l : Nat} {s : rSg} {A : Ab} {im : Option Ab} (c : CJ s A im) {M v : Nat} (hM : M ≤ A.Q.2.1.length) (hv : v < 6) {P : Option rv → rSg → Prop} (hP : ∀ t, kc0 l 0 s t → (∀ i, i < M → ∃ tx, tq A.Q v i tx ∧ rowT t i tx) → P none t) : ∀ (m y : Nat) (t : rSg), y + m = M → kc0 l 0 s t → (∀ i, i < y → ∃ tx, tq A.Q v i tx ∧ rowT t i tx) → g_89_2 (nI M) (nI v) (nI y) t P := by
  have l30 := c.1.f.2.2.1.2
  intro m
  induction m with
  | zero =>
    intro y t hy k h
    obtain rfl : y = M := by omega
    exact w_89_2 t _ _ _ ⟨fun _ => hP t k h, fun q => absurd (nI_le (Nat.le_refl _) (by omega)) q⟩
  | succ m ih =>
    intro y t hy k h
    refine w_89_2 t _ _ _ ⟨fun q => ?_, fun _ => ⟨fun q => ?_, fun _ => ?_⟩⟩
    · have := (nI_leI (by omega) (by omega)).mp q; omega
    · have := (nI_leI (a := 30) (by omega) (by omega)).mp q; omega
    · obtain ⟨⟨n, X⟩, hX⟩ : ∃ p, A.Q.2.1[y]? = some p := ⟨_, List.getElem?_eq_getElem (by omega)⟩
      refine cx_40 seaA6 t (by omega) (fun q => ⟨_, rfl, q, (cx_58 (k.1.C c) hX hv).imp ?_⟩)
      rintro _ u ⟨rfl, u1, tx, u2, u3⟩
      refine ⟨rfl, rIn_nI (by omega) (by decide), ?_⟩
      rw [nI_clamp (by omega), u3.1]
      have t0 : txC (up2 u 724 y (nI tx.length)) tx := ⟨by rw [up2_nk _ _ _ (by decide)]; exact u3.1, u3.2.1, fun j x hj => by rw [up2_nk _ _ _ (by decide)]; exact u3.2.2 j x hj⟩
      refine cx_89c (s := s) (tx := tx) (by omega) t0 (up2_same _ _ _ _) (fun w w1 w2 => ?_) tx.length 0 _ (by omega) (fun _ _ => rfl) (fun j x hj => absurd hj (by omega))
      rw [nI_1]
      refine ih (y + 1) w (by omega) ((k.tf u1).tx (fun q hq => by rw [w2 q (by omega), up2_nk _ _ _ (by omega)])) (fun i hi => ?_)
      by_cases e : i = y
      · subst e; exact ⟨tx, ⟨n, X, hX, u2⟩, w1⟩
      · obtain ⟨tz, z1, z2, z3, z4⟩ := h i (by omega)
        refine ⟨tz, z1, ?_, z3, fun j x hj => ?_⟩
        · rw [w2 724 (by omega), up2_nj _ _ _ e, u1 724 (by omega)]; exact z2
        · rw [w2 (694 + i) (by omega), up2_nk _ _ _ (by omega), u1 (694 + i) (by omega)]; exact z4 j x hj
theorem cx_91c {t : rSg} {i j : Nat} (hi : i < 30) (hj : j < 30) {a b : List Int32} (ha : rowT t i a) (hb : rowT t j b) (hl : a.length = b.length) {P : Option rv → rSg → Prop} (h1 : a = b → P (some (.inl 1)) t) (h0 : a ≠ b → P (some (.inl 0)) t) : ∀ (m y : Nat), y + m = a.length → (∀ k, k < y → a[k]? = b[k]?) → g_91_39 (nI i) (nI j) (nI y) t P := by
  intro m
  have l2 := ha.2.1
  induction m with
  | zero =>
    intro y hy he
    obtain rfl : y = a.length := by omega
    have e : a = b := by
      apply List.ext_getElem?
      intro k
      by_cases hk : k < a.length
      · exact he k hk
      · rw [List.getElem?_eq_none (by omega), List.getElem?_eq_none (by omega)]
    exact w_91_39 t _ _ _ ⟨rIn_nI hi (by decide), fun _ => h1 e, fun q => absurd (by rw [nI_clamp (by omega), ha.1]; exact nI_le (Nat.le_refl _) (by omega)) q⟩
  | succ m ih =>
    intro y hy he
    have la : y < a.length := by omega
    have lb : y < b.length := by omega
    refine w_91_39 t _ _ _ ⟨rIn_nI hi (by decide), fun q => ?_, fun _ => ⟨fun q => ?_, fun _ => ⟨rIn_nI hi (by decide), 694 + i, by rw [nI_clamp (by omega)]; exact if_pos hi, arr_txt hi, rIn_nI (by omega) (by decide), rIn_nI hj (by decide), 694 + j, by rw [nI_clamp (by omega)]; exact if_pos hj, arr_txt hj, rIn_nI (by omega) (by decide), ?_⟩⟩⟩
    · rw [nI_clamp (by omega), ha.1] at q; have := (nI_leI (by omega) (by omega)).mp q; omega
    · have := (nI_leI (a := 200) (by omega) (by omega)).mp q; omega
    · rw [nI_clamp (by omega), ha.2.2 y _ (List.getElem?_eq_getElem la), hb.2.2 y _ (List.getElem?_eq_getElem lb), nI_1]
      refine ⟨fun e => ih (y + 1) (by omega) (fun k hk => ?_), fun e => h0 (fun z => e ?_)⟩
      · by_cases q : k = y
        · subst q; rw [List.getElem?_eq_getElem la, List.getElem?_eq_getElem lb, e]
        · exact he k (by omega)
      · subst z; rfl
theorem cx_91 {t : rSg} {i j : Nat} (hi : i < 30) (hj : j < 30) {a b : List Int32} (ha : rowT t i a) (hb : rowT t j b) {P : Option rv → rSg → Prop} (h1 : a = b → P (some (.inl 1)) t) (h0 : a ≠ b → P (some (.inl 0)) t) : EvS rSkel 1 91 [.inr (.inr (some 0)), .inl (nI i), .inl (nI j)] t P := by
  have l1 := ha.2.1
  have l2 := hb.2.1
  refine w_91 t _ _ ⟨fun q => absurd q (nI_pos (by omega)), fun _ => ⟨fun q => absurd q (nI_pos (by omega)), fun _ => ⟨fun q => absurd ((nI_leI (a := 30) (by decide) (by omega)).mp q) (by omega), fun _ => ⟨fun q => absurd ((nI_leI (a := 30) (by decide) (by omega)).mp q) (by omega), fun _ => ⟨rIn_nI hi (by decide), rIn_nI hj (by decide), fun q => ?_, fun q => h0 (fun z => q ?_)⟩⟩⟩⟩⟩
  · rw [nI_clamp (by omega), nI_clamp (by omega), ha.1, hb.1] at q
    exact cx_91c hi hj ha hb ((nI_eq (by omega) (by omega)).mp q) h1 h0 a.length 0 (by omega) (fun k hk => absurd hk (by omega))
  · rw [nI_clamp (by omega), nI_clamp (by omega), ha.1, hb.1, z]
theorem cx_90b {t : rSg} {Q : Qx} {v i : Nat} (hi : i < 30) {T : Nat → List Int32} (hT : ∀ j, j ≤ i → tq Q v j (T j) ∧ rowT t j (T j)) {P : Option rv → rSg → Prop} (hP : ∀ j, fsA Q v i j → P (some (.inl (nI j))) t) : ∀ (m y : Nat), y + m = i → (∀ k, k < y → ¬ sm Q v k i) → g_90_2 (nI i) (nI y) t P := by
  intro m
  induction m with
  | zero =>
    intro y hy he
    obtain rfl : y = i := by omega
    exact w_90_2 t _ _ ⟨fun _ => hP y ⟨Nat.le_refl _, ⟨_, (hT y (by omega)).1, (hT y (by omega)).1⟩, he⟩, fun q => absurd (nI_le (Nat.le_refl _) (by omega)) q⟩
  | succ m ih =>
    intro y hy he
    refine w_90_2 t _ _ ⟨fun q => ?_, fun _ => ?_⟩
    · have := (nI_leI (by omega) (by omega)).mp q; omega
    · have s1 := sm_iff (hT y (by omega)).1 (hT i (by omega)).1
      refine cx_91 (by omega) hi (hT y (by omega)).2 (hT i (by omega)).2 (fun e => ⟨_, rfl, fun q => absurd q (by decide), fun _ => hP y ⟨by omega, s1.mpr e, he⟩⟩) (fun e => ⟨_, rfl, fun _ => ?_, fun q => absurd rfl q⟩)
      rw [nI_1]
      refine ih (y + 1) (by omega) (fun k hk => ?_)
      by_cases q : k = y
      · subst q; exact fun z => e (s1.mp z)
      · exact he k (by omega)
theorem cho {M : Nat} {R : Nat → List Int32 → Prop} (h : ∀ i, i < M → ∃ tx, R i tx) : ∃ T : Nat → List Int32, ∀ i, i < M → R i (T i) := ⟨fun i => if q : i < M then Classical.choose (h i q) else [], fun i q => by
  simp only [dif_pos q]
  exact Classical.choose_spec (h i q)⟩
theorem cx_92 {s : rSg} {A : Ab} {im : Option Ab} (h : clI s) {l : Nat} (hl : cSn s l) (c : CJ s A im) (x y : Int32) : EvS rSkel 6 92 [.inr (.inr (some 0)), .inl x, .inl y] s (cP (sEar A.Q x y) l 0 s) := by
  have f := c.1.f
  have l30 := f.2.2.1.2
  refine w_92 s x y (cx_81 f.2.2.1.1 f.2.2.1.2 x (fun i hi e => ⟨_, rfl, fun q => absurd q (by decide), fun _ => ?_⟩) (fun hn => ⟨_, rfl, fun _ => cx_no (kc0.rfl' h hl) (by decide) (Or.inr ⟨hn, rfl, rfl⟩), fun q => absurd rfl q⟩))
  obtain ⟨⟨n, X⟩, hX⟩ : ∃ p, A.Q.2.1[i]? = some p := ⟨_, List.getElem?_eq_getElem hi⟩
  refine cx_82 s y (fun v hv e2 => ⟨_, rfl, fun _ => ?_, fun q => absurd (by decide) q⟩) (fun hn => ⟨_, rfl, fun q => absurd rfl q, fun _ => cx_no (kc0.rfl' h hl) (by decide) (Or.inl ⟨i, n, X, hX, by omega, e, Or.inr ⟨hn, rfl, rfl⟩⟩)⟩)
  rw [e, e2, nI_1]
  refine w_89 s _ _ (cx_89b c (M := i + 1) (by omega) hv (fun t k hr => ⟨rfl, ?_⟩) (i + 1) 0 s (by omega) (kc0.rfl' h hl) (fun j hj => absurd hj (by omega)))
  obtain ⟨T, hT⟩ := cho hr
  exact w_90 t _ (cx_90b (by omega) (fun j hj => hT j (by omega)) (fun j hj => ⟨_, rfl, k.is (Or.inl ⟨i, n, X, hX, by omega, rfl, Or.inl ⟨v, hv, rfl, j, hj, rfl, rfl⟩⟩)⟩) i 0 (by omega) (fun k hk => absurd hk (by omega)))
theorem cx_88b {s t : rSg} {Q : Qx} {v M : Nat} (hM : M = Q.2.1.length) (h30 : M ≤ 30) (h10 : t 6 10 = nI M) {T : Nat → List Int32} (hT : ∀ j, j < M → tq Q v j (T j) ∧ rowT t j (T j)) {P : Option rv → rSg → Prop} (hP : ∀ c, dif Q v M c → P (some (.inl (nI c))) t) : ∀ (m y c : Nat), y + m = M → c ≤ y → dif Q v y c → g_88_29 (nI c) (nI y) t P := by
  intro m
  induction m with
  | zero =>
    intro y c hy hc hd
    obtain rfl : y = M := by omega
    exact w_88_29 t _ _ ⟨fun _ => hP c hd, fun q => absurd (by rw [h10]; exact nI_le (Nat.le_refl _) (by omega)) q⟩
  | succ m ih =>
    intro y c hy hc hd
    refine w_88_29 t _ _ ⟨fun q => ?_, fun _ => ?_⟩
    · rw [h10] at q; have := (nI_leI (by omega) (by omega)).mp q; omega
    · refine w_90 t _ (cx_90b (by omega) (fun j hj => hT j (by omega)) (fun j hj => ⟨_, rfl, fun q => ?_, fun q => ?_⟩) y 0 (by omega) (fun k hk => absurd hk (by omega)))
      · rw [nI_1]
        refine ih (y + 1) c (by omega) (by omega) ⟨c, hd, Or.inr ⟨fun z => q (by rw [fsA_uniq hj z]), rfl⟩⟩
      · rw [nI_1, nI_1]
        have e := (nI_eq (by have := hj.1; omega) (by omega)).mp (Classical.not_not.mp q)
        rw [e] at hj
        exact ih (y + 1) (c + 1) (by omega) (by omega) ⟨c, hd, Or.inl ⟨hj, rfl⟩⟩
theorem cx_88 {s : rSg} {A : Ab} {im : Option Ab} (h : clI s) {l : Nat} (hl : cSn s l) (c : CJ s A im) (x : Int32) : EvS rSkel 6 88 [.inr (.inr (some 0)), .inl x] s (cP (sDif A.Q x) l 0 s) := by
  have f := c.1.f
  have l30 := f.2.2.1.2
  refine w_88 s x (cx_82 s x (fun v hv e => ⟨_, rfl, fun _ => ?_, fun q => absurd (by decide) q⟩) (fun hn => ⟨_, rfl, fun q => absurd rfl q, fun _ => cx_no (kc0.rfl' h hl) (by decide) (Or.inr ⟨hn, rfl, rfl⟩)⟩))
  rw [e, f.2.2.1.1]
  refine w_89 s _ _ (cx_89b c (M := A.Q.2.1.length) (Nat.le_refl _) hv (fun t k hr => ⟨rfl, ?_⟩) A.Q.2.1.length 0 s (by omega) (kc0.rfl' h hl) (fun j hj => absurd hj (by omega)))
  obtain ⟨T, hT⟩ := cho hr
  exact cx_88b (s := s) rfl l30 (by rw [k.1 6 (by omega)]; exact f.2.2.1.1) hT (fun d hd => k.is (Or.inl ⟨v, hv, rfl, d, hd, rfl, rfl⟩)) A.Q.2.1.length 0 0 (by omega) (Nat.le_refl _) rfl
