/-! THE CLASS IS ASKED: searches in mind -/
def sNeed (A : Ab) (x : Int32) : Int32 → Option Int32 → Prop := wBd x 1 10 (fun k r o => ∃ Q2, gos A.tb k 300 (bgn 0) Q2 ∧ wIs (if Q2.2.1.length < k then -9 else nI Q2.2.2.1) r o)
def sLeft (A : Ab) (x y : Int32) : Int32 → Option Int32 → Prop := wNm x (fun v => wBd y 0 9 (fun a r o => ∃ Q2, gos (tbL A.tb A.nG v a) 30 120 (bgn (A.nG + 1)) Q2 ∧ wIs (nI Q2.2.1.length) r o))
def br (A : Ab) (v a : Nat) : Prop := ∃ Q2, gos (tbL A.tb A.nG v a) 1 120 (bgn (A.nG + 1)) Q2 ∧ Q2.2.1 ≠ []
def sLeast (A : Ab) (x : Int32) : Int32 → Option Int32 → Prop := wNm x (fun v r o => (∃ a, a < 10 ∧ br A v a ∧ (∀ b, b < a → ¬ br A v b) ∧ wIs (nI a) r o) ∨ ((∀ b, b < 10 → ¬ br A v b) ∧ wIs (-9) r o))
def fstT (l : List (Nat × Sx)) : Int32 := match l with
  | [] => -9
  | (n, _) :: _ => nI n
def sTurn (A : Ab) (x : Int32) (r : Int32) (o : Option Int32) : Prop := ((x = 0 ∨ x = 1) ∧ ((((A.tb 0).1 = 38 ∨ (A.tb 0).1 = 124) ∧ ∃ Q2, gos (tbS A.tb) 30 120 (bgn 0) Q2 ∧ wIs (if x = 0 then nI Q2.2.1.length else fstT Q2.2.1) r o) ∨ (¬ ((A.tb 0).1 = 38 ∨ (A.tb 0).1 = 124) ∧ wNo (-3) r o))) ∨ (¬ (x = 0 ∨ x = 1) ∧ wNo (-2) r o)
def wh (A : Ab) (ns : List Int32) (v a : Nat) : Prop := ∃ Q2 n X tx, gos (tbL A.tb A.nG v a) 1 120 (bgn (A.nG + 1)) Q2 ∧ Q2.2.1[0]? = some (n, X) ∧ isT X.2.2.2 0 tx ∧ ns <+: tx
def wb (A : Ab) (ns : List Int32) (v : Nat) : Nat → Int32 → Prop
  | 0, r => r = 0
  | a + 1, r => ∃ r', wb A ns v a r' ∧ ((wh A ns v a ∧ r = r' ||| ((1 : Int32) <<< (nI a &&& 31))) ∨ (¬ wh A ns v a ∧ r = r'))
theorem wb_uniq {A : Ab} {ns : List Int32} {v : Nat} : ∀ {n : Nat} {a b : Int32}, wb A ns v n a → wb A ns v n b → a = b
  | 0, a, b, h1, h2 => h1.trans h2.symm
  | n + 1, a, b, ⟨c, g1, k1⟩, ⟨d, g2, k2⟩ => by
    have e := wb_uniq g1 g2
    subst e
    rcases k1 with ⟨f1, rfl⟩ | ⟨f1, rfl⟩ <;> rcases k2 with ⟨f2, rfl⟩ | ⟨f2, rfl⟩
    · rfl
    · exact absurd f1 f2
    · exact absurd f2 f1
    · rfl
def sWhich (A : Ab) (ns : List Int32) (x : Int32) : Int32 → Option Int32 → Prop := wNm x (fun v r o => ∃ z, wb A ns v 10 z ∧ wIs z r o)
theorem cSe.sea {C : Cf} {t : rSg} {b : Nat} {Q : Qx} (h : cSe C t b Q) : seaI t b := by
  obtain ⟨np, gl, g1, ⟨hd, q1, q2, q3, q4, _⟩, g3⟩ := h
  exact ⟨hd, _, _, q1.1, q1.2, q2.1, q2.2, q4.1, q4.2⟩
theorem cSe.ten {C : Cf} {t : rSg} {b : Nat} {Q : Qx} (h : cSe C t b Q) : t b 10 = nI Q.2.1.length ∧ Q.2.1.length ≤ 30 := by
  obtain ⟨np, gl, g1, ⟨hd, q1, q2, q3, q4, _⟩, g3⟩ := h
  exact q4
theorem cSe.an {C : Cf} {t : rSg} {b : Nat} {Q : Qx} (h : cSe C t b Q) {i n : Nat} {X : Sx} (hi : Q.2.1[i]? = some (n, X)) : t (b + 217) i = nI n ∧ ∃ np gl, cSt C t (b + 1) (b + 127 + 3 * i) np gl X := by
  obtain ⟨np, gl, g1, ⟨hd, q1, q2, q3, q4, q5, q6, q7, q8⟩, g3⟩ := h
  obtain ⟨a, b, c⟩ := q8 i n X hi
  exact ⟨c, np, gl, a⟩
/-- a search in mind goes on -/
theorem cx_36 {C : Cf} (hC : cfOK C) {l D : Nat} {s t : rSg} (k : kc s t ∧ t 691 = s 691 ∧ (∃ m, m ≤ l + D ∧ cSn t m) ∧ seaI t 6 ∧ seaI t 454) {top : Nat} (h : cSe C t 230 (bgn top)) {N en : Nat} (hN : N ≤ 300) (hen : en ≤ 30) (hl : l + D + N * 4420 + 20000 < 2 ^ 32) : EvS rSkel 7 36 [.inr (.inr (some 230)), .inl (nI N), .inl (nI en)] t (fun v u => v = none ∧ ∃ Q2, gos C.tb en N (bgn top) Q2 ∧ cSe C u 230 Q2 ∧ kc0 l (D + N * 4420) s u) := by
  obtain ⟨k1, k2, ⟨m, m1, m2⟩, k4, k5⟩ := k
  refine (ce_36 hC seaA230 (by omega) (by omega) h (show (bgn top).2.2.1 + N ≤ 300 from by show 0 + N ≤ 300; omega) m2 (by omega)).imp ?_
  rintro _ u ⟨rfl, Q2, q1, q2, ⟨l2, q3, q4⟩, q5⟩
  exact ⟨rfl, Q2, q1, q2, k1.trans (fun q hq => q5.1 q (by omega) (by omega)), (q5.1 691 (by omega) (by omega)).trans k2, ⟨l2, by omega, q3⟩, k4.ext (q5.1 6 (by omega) (by omega)), q2.sea, k5.ext (q5.1 454 (by omega) (by omega))⟩
theorem cx_95 {s : rSg} {A : Ab} {im : Option Ab} (h : clI s) {l : Nat} (hl : cSn s l) (hl9 : l + 5304000 + 30000 < 2 ^ 32) (c : CJ s A im) (x : Int32) : EvS rSkel 8 95 [.inr (.inr (some 0)), .inl x] s (cP (sNeed A x) l 5304000 s) := by
  have k0 : kc0 l 5304000 s s := ⟨kc.rfl', rfl, ⟨l, by omega, hl⟩, h⟩
  refine w_95 s x ⟨fun h1 => ⟨fun h2 => ?_, fun h2 => cx_no k0 (by decide) (Or.inr (Or.inr ⟨Int32.not_le.mp h2, rfl, rfl⟩))⟩, fun h1 => cx_no k0 (by decide) (Or.inr (Or.inl ⟨Int32.not_le.mp h1, rfl, rfl⟩))⟩
  have hx0 : ¬ x < 0 := fun z => Int32.lt_irrefl (Int32.lt_of_lt_of_le z (Int32.le_trans (show (0 : Int32) ≤ 1 by decide) h1))
  obtain ⟨k, hk, rfl⟩ := nn_of hx0
  have k1 := (nI_leI (a := 1) (by decide) hk).mp h1
  have k2 := (nI_leI (b := 10) hk (by decide)).mp h2
  obtain ⟨C, e1, e2, e3, e4, e5, e6, e7, e8⟩ := c.1
  refine (ce_26 e3.1 scr231 scr7 (by decide) e8).imp ?_
  rintro _ t ⟨rfl, t1, t2⟩
  refine ⟨rfl, (ce_33 e3 seaA230 t1).imp ?_⟩
  rintro _ u ⟨rfl, u1, u2, u3⟩
  have fr : ∀ q, q < 230 ∨ 453 < q → u q = s q := fun q hq => by rw [u3 q (by omega), t2 q (by omega) (by omega) (by omega) (by omega)]
  refine ⟨rfl, (cx_36 (s := s) (l := l) (D := 0) e3.1 ⟨kc.of fr, fr 691 (by omega), ⟨l, by omega, cSn_fr hl (by rw [fr 1 (by omega)]) (fr 5 (by omega))⟩, h.1.ext (fr 6 (by omega)), h.2.2.ext (fr 454 (by omega))⟩ u1 (N := 300) (en := k) (by decide) (by omega) (by omega)).imp ?_⟩
  rintro _ w ⟨rfl, Q2, q1, q2, q3⟩
  have q3 : kc0 l 5304000 s w := ⟨q3.1, q3.2.1, q3.2.2.1.elim (fun m z => ⟨m, by omega, z.2⟩), q3.2.2.2⟩
  have t10 := q2.ten
  rw [e1] at q1
  rw [t10.1]
  have gn := gos_need (show (bgn 0).2.1.length < k by show 0 < k; omega) q1
  refine ⟨rfl, fun z => ?_, fun z => ?_⟩
  · have z := (nI_leI (by omega) (by omega)).mp z
    rcases gn with g | ⟨g1, X, g2⟩
    · omega
    · have hX := q2.an g2
      rw [show nI k - 1 = nI (k - 1) from pk_sub (a := k) (b := 1) (by omega)]
      refine cx_48 (tb := A.tb) (nG := 0) (nT := 0) (Q := Q2) sea230 t10.1 t10.2 g2 hX.1 ⟨_, rfl, q3.is (Or.inl ⟨k, k1, k2, rfl, Q2, q1, ?_, rfl⟩)⟩
      rw [if_neg (by omega)]
  · have z : ¬ k ≤ Q2.2.1.length := fun y => z (nI_le y (by omega))
    refine q3.is (Or.inl ⟨k, k1, k2, rfl, Q2, q1, ?_, rfl⟩)
    rw [if_pos (by omega)]
/-- a search with a binding in mind -/
theorem cx_97 {l D D2 : Nat} {s t : rSg} {A : Ab} {im : Option Ab} (hl9 : l + D + 530400 + 20000 < 2 ^ 32) (k : kc0 l D s t) (c : CJ s A im) {v a : Nat} (hv : v < 6) (ha : a < 10) {en : Nat} (hen : en ≤ 30) (hD : D2 = D + 530400) {P : Option rv → rSg → Prop} (hP : ∀ (C : Cf) (u : rSg) (Q2 : Qx), cfOK C → gos (tbL A.tb A.nG v a) en 120 (bgn (A.nG + 1)) Q2 → cSe C u 230 Q2 → kc0 l D2 s u → P none u) : EvS rSkel 4 97 [.inr (.inr (some 0)), .inl (nI v), .inl (nI a)] t (fun r u => r = none ∧ EvS rSkel 7 36 [.inr (.inr (some 230)), .inl 120, .inl (nI en)] u P) := by
  refine (ce_97 (k.1.C c).1 hv ha).imp ?_
  rintro _ u ⟨rfl, ⟨C, u1, u2, u3⟩, u4⟩
  obtain ⟨m, m1, m2⟩ := k.2.2.1
  refine ⟨rfl, (cx_36 (s := s) (l := l) (D := D) u2 ⟨k.1.trans (kc.of u4), (u4 691 (by omega)).trans k.2.1, ⟨m, m1, cSn_fr m2 (by rw [u4 1 (by omega)]) (u4 5 (by omega))⟩, k.2.2.2.1.ext (u4 6 (by omega)), k.2.2.2.2.2.ext (u4 454 (by omega))⟩ u3 (N := 120) (en := en) (by decide) hen (by omega)).imp ?_⟩
  rintro _ w ⟨rfl, Q2, q1, q2, q3⟩
  rw [u1] at q1
  exact hP C w Q2 u2 q1 q2 (by rw [hD]; exact q3)
theorem cx_96 {s : rSg} {A : Ab} {im : Option Ab} (h : clI s) {l : Nat} (hl : cSn s l) (hl9 : l + 5304000 + 30000 < 2 ^ 32) (c : CJ s A im) (x y : Int32) : EvS rSkel 8 96 [.inr (.inr (some 0)), .inl x, .inl y] s (cP (sLeft A x y) l 5304000 s) := by
  have k0 : kc0 l 5304000 s s := ⟨kc.rfl', rfl, ⟨l, by omega, hl⟩, h⟩
  refine w_96 s x y (cx_82 s x (fun v hv e => ⟨_, rfl, fun _ => ⟨fun h1 => ⟨fun h2 => ?_, fun h2 => cx_no k0 (by decide) (Or.inl ⟨v, hv, e, Or.inr (Or.inr ⟨?_, rfl, rfl⟩)⟩)⟩, fun h1 => cx_no k0 (by decide) (Or.inl ⟨v, hv, e, Or.inr (Or.inl ⟨Int32.not_le.mp h1, rfl, rfl⟩)⟩)⟩, fun q => absurd (by decide) q⟩) (fun hn => ⟨_, rfl, fun q => absurd rfl q, fun _ => cx_no k0 (by decide) (Or.inr ⟨hn, rfl, rfl⟩)⟩))
  · obtain ⟨a, ha, rfl⟩ := nn_of (Int32.not_lt.mpr h1)
    have a2 := (nI_ltI (b := 10) ha (by decide)).mp h2
    rw [e]
    refine cx_97 (D := 0) (D2 := 530400) (by omega) (kc0.rfl' h hl) c hv a2 (en := 30) (by decide) (by omega) (fun C u Q2 hC q1 q2 q3 => ?_)
    rw [q2.ten.1]
    have q3 : kc0 l 5304000 s u := ⟨q3.1, q3.2.1, q3.2.2.1.elim (fun m z => ⟨m, by omega, z.2⟩), q3.2.2.2⟩
    exact ⟨rfl, q3.is (Or.inl ⟨v, hv, rfl, Or.inl ⟨a, by omega, by omega, rfl, Q2, q1, rfl, rfl⟩⟩)⟩
  · exact Int32.lt_of_lt_of_le (show nI 9 < 10 by decide) (Int32.not_lt.mp h2)
theorem gos_down {tb : Tb} : ∀ {n : Nat} {q b : Qx}, gos tb 30 n q b → ∃ a, gos tb 1 n q a
  | 0, q, b, _ => ⟨q, rfl⟩
  | n + 1, q, b, h => by
    by_cases e : q.1 = [] ∨ 30 ≤ q.2.1.length ∨ 1 ≤ q.2.1.length
    · exact ⟨q, Or.inl ⟨e, rfl⟩⟩
    · rcases h with ⟨h1, _⟩ | ⟨_, m, h2, h3⟩
      · exact absurd (by rcases h1 with z | z | z; exact Or.inl z; exact Or.inr (Or.inl z); exact Or.inr (Or.inl z)) e
      · obtain ⟨a, ha⟩ := gos_down h3
        exact ⟨a, Or.inr ⟨e, m, h2, ha⟩⟩
theorem br_iff {A : Ab} {v a : Nat} {Q1 : Qx} (h : gos (tbL A.tb A.nG v a) 1 120 (bgn (A.nG + 1)) Q1) : br A v a ↔ Q1.2.1 ≠ [] := by
  constructor
  · rintro ⟨Q2, h2, h3⟩
    rwa [gos_uniq h h2]
  · exact fun e => ⟨Q1, h, e⟩
theorem cx_98b {s : rSg} {A : Ab} {im : Option Ab} {l : Nat} (hl9 : l + 5304000 + 30000 < 2 ^ 32) (c : CJ s A im) {v : Nat} (hv : v < 6) : ∀ (m y : Nat) (t : rSg), y + m = 10 → kc0 l (y * 530400) s t → (∀ b, b < y → ¬ br A v b) → g_98_15 (nI v) (nI y) t (cP (sLeast A (nI v)) l 5304000 s) := by
  intro m
  induction m with
  | zero =>
    intro y t hy k he
    obtain rfl : y = 10 := by omega
    have k : kc0 l 5304000 s t := k
    exact w_98_15 t _ _ ⟨fun _ => k.is (Or.inl ⟨v, hv, rfl, Or.inr ⟨he, rfl, rfl⟩⟩), fun q => absurd (by decide) q⟩
  | succ m ih =>
    intro y t hy k he
    refine w_98_15 t _ _ ⟨fun q => absurd ((nI_leI (a := 10) (by decide) (by omega)).mp q) (by omega), fun _ => ?_⟩
    refine cx_97 (D := y * 530400) (D2 := (y + 1) * 530400) (by omega) k c hv (by omega) (en := 1) (by decide) (by omega) (fun C u Q2 hC q1 q2 q3 => ⟨rfl, fun z => ?_, fun z => ?_⟩)
    · rw [q2.ten.1] at z
      have z := (nI_leI (b := 0) (by have := q2.ten.2; omega) (by decide)).mp z
      have e : ¬ br A v y := fun w => (br_iff q1).mp w (List.length_eq_zero_iff.mp (by omega))
      rw [nI_1]
      refine ih (y + 1) u (by omega) q3 (fun b hb => ?_)
      by_cases q : b = y
      · subst q; exact e
      · exact he b (by omega)
    · rw [q2.ten.1] at z
      have q4 : kc0 l 5304000 s u := ⟨q3.1, q3.2.1, q3.2.2.1.elim (fun m z => ⟨m, by omega, z.2⟩), q3.2.2.2⟩
      exact q4.is (Or.inl ⟨v, hv, rfl, Or.inl ⟨y, by omega, (br_iff q1).mpr (fun e => z (by rw [e]; decide)), he, rfl, rfl⟩⟩)
theorem cx_98 {s : rSg} {A : Ab} {im : Option Ab} (h : clI s) {l : Nat} (hl : cSn s l) (hl9 : l + 5304000 + 30000 < 2 ^ 32) (c : CJ s A im) (x : Int32) : EvS rSkel 8 98 [.inr (.inr (some 0)), .inl x] s (cP (sLeast A x) l 5304000 s) := by
  have k0 : kc0 l 5304000 s s := ⟨kc.rfl', rfl, ⟨l, by omega, hl⟩, h⟩
  refine w_98 s x (cx_82 s x (fun v hv e => ⟨_, rfl, fun _ => ?_, fun q => absurd (by decide) q⟩) (fun hn => ⟨_, rfl, fun q => absurd rfl q, fun _ => cx_no k0 (by decide) (Or.inr ⟨hn, rfl, rfl⟩)⟩))
  rw [e]
  exact cx_98b hl9 c hv 10 0 s rfl (kc0.rfl' h hl) (fun b hb => absurd hb (by omega))
/-! which -/
/-- what is told begins with the numbers -/
def nmb (t : rSg) (ns : List Int32) : Prop := t 689 1 = nI ns.length ∧ ns.length ≤ 32 ∧ ∀ j x, ns[j]? = some x → t 690 j = x
/-- how many at its beginning are alike -/
def alk : List Int32 → List Int32 → Nat
  | a :: l, b :: k => if a = b then alk l k + 1 else 0
  | _, _ => 0
theorem alk_le : ∀ (a b : List Int32), alk a b ≤ a.length ∧ alk a b ≤ b.length
  | [], b => ⟨Nat.zero_le _, Nat.zero_le _⟩
  | _ :: _, [] => ⟨Nat.zero_le _, Nat.zero_le _⟩
  | x :: l, y :: k => by
    unfold alk
    have := alk_le l k
    split
    · simp; omega
    · exact ⟨Nat.zero_le _, Nat.zero_le _⟩
theorem alk_pre : ∀ (a b : List Int32), a <+: b ↔ alk a b = a.length
  | [], b => ⟨fun _ => rfl, fun _ => List.nil_prefix⟩
  | x :: l, [] => ⟨fun h => by have := h.length_le; simp at this, fun h => by simp [alk] at h⟩
  | x :: l, y :: k => by
    unfold alk
    rw [List.cons_prefix_cons, alk_pre l k]
    split
    · next e => simp [e]
    · next e => simp [e]
theorem alk_at : ∀ (a b : List Int32) (y : Nat), (∀ k, k < y → k < a.length ∧ a[k]? = b[k]?) → ((a.length ≤ y ∨ b.length ≤ y ∨ a[y]? ≠ b[y]?) → alk a b = y) 
  | [], b, y, h, _ => by
    cases y with
    | zero => rfl
    | succ y => have := (h 0 (by omega)).1; simp at this
  | x :: l, [], y, h, _ => by
    cases y with
    | zero => rfl
    | succ y => have := (h 0 (by omega)).2; simp at this
  | x :: l, z :: k, 0, h, g => by
    unfold alk
    rcases g with g | g | g
    · simp at g
    · simp at g
    · simp at g
      rw [if_neg g]
  | x :: l, z :: k, y + 1, h, g => by
    unfold alk
    have h0 := (h 0 (by omega)).2
    simp at h0
    rw [if_pos h0, alk_at l k y (fun j hj => by have := h (j + 1) (by omega); simpa using this) (by simpa using g)]
theorem cx_103b {t : rSg} {ns tx : List Int32} (hn : nmb t ns) (ht : txC t tx) {P : Option rv → rSg → Prop} (hP : P (some (.inl (nI (alk ns tx)))) t) : ∀ (m y : Nat), y + m = ns.length → (∀ k, k < y → k < ns.length ∧ ns[k]? = tx[k]?) → g_103_10 (nI ns.length) (nI y) t P := by
  intro m
  have l2 := ht.2.1
  have l3 := hn.2.1
  induction m with
  | zero =>
    intro y hy he
    have e := alk_at ns tx y he (Or.inl (by omega))
    obtain rfl : y = ns.length := by omega
    rw [e] at hP
    exact w_103_10 t _ _ ⟨fun _ => hP, fun q => absurd (nI_le (Nat.le_refl _) (by omega)) q⟩
  | succ m ih =>
    intro y hy he
    refine w_103_10 t _ _ ⟨fun q => ?_, fun _ => ⟨fun q => ?_, fun q => ?_⟩⟩
    · have := (nI_leI (by omega) (by omega)).mp q; omega
    · rw [ht.1] at q
      rw [alk_at ns tx y he (Or.inr (Or.inl ((nI_leI (by omega) (by omega)).mp q)))] at hP
      exact hP
    · rw [ht.1] at q
      have la : y < ns.length := by omega
      have lb : y < tx.length := Nat.lt_of_not_le (fun z => q (nI_le z (by omega)))
      refine w_17 t 689 32 row689 _ ⟨fun q => absurd q (nI_pos (by omega)), fun _ => ⟨fun q => ?_, fun _ => ⟨fun q => ?_, fun _ => ⟨rIn_nI (by omega) (by decide), _, rfl, ?_⟩⟩⟩⟩
      · rw [hn.1] at q; have := (nI_leI (by omega) (by omega)).mp q; omega
      · have := (nI_leI (a := 32) (by omega) (by omega)).mp q; omega
      · refine cx_63 ht (nI_le (a := 0) (by omega) (by omega)) ⟨_, rfl, ?_⟩
        unfold txD
        rw [nI_clamp (by omega), hn.2.2 y _ (List.getElem?_eq_getElem la), List.getD_eq_getElem?_getD, List.getElem?_eq_getElem lb, nI_1]
        refine ⟨fun e => ih (y + 1) (by omega) (fun k hk => ?_), fun e => ?_⟩
        · by_cases z : k = y
          · subst z; exact ⟨la, by rw [List.getElem?_eq_getElem la, List.getElem?_eq_getElem lb]; exact congrArg some e⟩
          · exact he k (by omega)
        · rw [alk_at ns tx y he (Or.inr (Or.inr (by rw [List.getElem?_eq_getElem la, List.getElem?_eq_getElem lb]; exact fun z => e (Option.some.inj z))))] at hP
          exact hP
theorem cx_103 {t : rSg} {ns tx : List Int32} (hn : nmb t ns) (ht : txC t tx) {P : Option rv → rSg → Prop} (hP : P (some (.inl (nI (alk ns tx)))) t) : EvS rSkel 2 103 [.inr (.inr (some 0))] t P := by
  refine w_103 t (w_16 t 689 32 row689 ⟨_, rfl, ?_⟩)
  rw [hn.1]
  exact cx_103b hn ht hP ns.length 0 (by omega) (fun k hk => absurd hk (by omega))
theorem nmb.ext {s t : rSg} {ns : List Int32} (h : nmb s ns) (e1 : t 689 = s 689) (e2 : t 690 = s 690) : nmb t ns := ⟨by rw [e1]; exact h.1, h.2.1, fun j x hj => by rw [e2]; exact h.2.2 j x hj⟩
theorem wh_iff {A : Ab} {ns : List Int32} {v a : Nat} {Q1 : Qx} (h : gos (tbL A.tb A.nG v a) 1 120 (bgn (A.nG + 1)) Q1) {n : Nat} {X : Sx} (hX : Q1.2.1[0]? = some (n, X)) {tx : List Int32} (ht : isT X.2.2.2 0 tx) : wh A ns v a ↔ ns <+: tx := by
  constructor
  · rintro ⟨Q2, n2, X2, tx2, h2, h3, h4, h5⟩
    rw [gos_uniq h2 h, hX] at h3
    obtain ⟨rfl, rfl⟩ := Prod.mk.inj (Option.some.inj h3)
    rwa [isT_uniq ht h4]
  · exact fun e => ⟨Q1, n, X, tx, h, hX, ht, e⟩
theorem cx_102b {s : rSg} {A : Ab} {im : Option Ab} {l : Nat} (hl9 : l + 5304000 + 30000 < 2 ^ 32) (c : CJ s A im) {ns : List Int32} (hn : nmb s ns) {v : Nat} (hv : v < 6) : ∀ (m y : Nat) (b : Int32) (t : rSg), y + m = 10 → kc0 l (y * 530400) s t → wb A ns v y b → g_102_17 (nI v) b (nI y) t (cP (sWhich A ns (nI v)) l 5304000 s) := by
  intro m
  induction m with
  | zero =>
    intro y b t hy k he
    obtain rfl : y = 10 := by omega
    have k : kc0 l 5304000 s t := k
    exact w_102_17 t _ _ _ ⟨fun _ => k.is (Or.inl ⟨v, hv, rfl, b, he, rfl, rfl⟩), fun q => absurd (by decide) q⟩
  | succ m ih =>
    intro y b t hy k he
    refine w_102_17 t _ _ _ ⟨fun q => absurd ((nI_leI (a := 10) (by decide) (by omega)).mp q) (by omega), fun _ => ?_⟩
    refine cx_97 (D := y * 530400) (D2 := (y + 1) * 530400) (by omega) k c hv (by omega) (en := 1) (by decide) (by omega) (fun C u Q2 hC q1 q2 q3 => ⟨rfl, fun z => ?_, fun z => ?_⟩)
    · rw [q2.ten.1] at z
      have z := (nI_leI (b := 0) (by have := q2.ten.2; omega) (by decide)).mp z
      rw [nI_1]
      refine ih (y + 1) b u (by omega) q3 ⟨b, he, Or.inr ⟨?_, rfl⟩⟩
      rintro ⟨Q3, n, X, tx, h3, h4, _⟩
      rw [gos_uniq h3 q1, List.length_eq_zero_iff.mp (show Q2.2.1.length = 0 by omega)] at h4
      cases h4
    · rw [q2.ten.1] at z
      have hpos : 0 < Q2.2.1.length := Nat.pos_of_ne_zero (fun e => z (by rw [e]; decide))
      obtain ⟨⟨n, X⟩, hX⟩ : ∃ p, Q2.2.1[0]? = some p := ⟨_, List.getElem?_eq_getElem hpos⟩
      obtain ⟨_, np, gl, hst⟩ := q2.an hX
      refine cx_40 (i := 0) seaA230 u (by decide) (fun q => ⟨_, rfl, q, ?_⟩)
      refine (ce_58 (v := 0) scr231 q (by decide) (by decide) hst (by decide)).imp ?_
      rintro _ w ⟨rfl, w1, tx, w2, w3⟩
      have k3 := q3.tf w1
      have hn2 : nmb w ns := hn.ext (k3.1 689 (by omega)) (k3.1 690 (by omega))
      refine ⟨rfl, cx_103 hn2 w3 ⟨_, rfl, w_16 w 689 32 row689 ⟨_, rfl, ?_⟩⟩⟩
      have al := alk_le ns tx
      have l3 := hn.2.1
      rw [hn2.1, nI_1]
      refine ⟨fun e => ih (y + 1) b w (by omega) k3 ⟨b, he, Or.inr ⟨fun z => e ?_, rfl⟩⟩, fun e => ih (y + 1) _ w (by omega) k3 ⟨b, he, Or.inl ⟨(wh_iff q1 hX w2).mpr ((alk_pre ns tx).mpr ?_), rfl⟩⟩⟩
      · rw [(alk_pre ns tx).mp ((wh_iff q1 hX w2).mp z)]
      · exact (nI_eq (by omega) (by omega)).mp (Classical.not_not.mp e)
theorem cx_102 {s : rSg} {A : Ab} {im : Option Ab} (h : clI s) {l : Nat} (hl : cSn s l) (hl9 : l + 5304000 + 30000 < 2 ^ 32) (c : CJ s A im) {ns : List Int32} (hn : nmb s ns) (x : Int32) : EvS rSkel 8 102 [.inr (.inr (some 0)), .inl x] s (cP (sWhich A ns x) l 5304000 s) := by
  have k0 : kc0 l 5304000 s s := ⟨kc.rfl', rfl, ⟨l, by omega, hl⟩, h⟩
  refine w_102 s x (cx_82 s x (fun v hv e => ⟨_, rfl, fun _ => ?_, fun q => absurd (by decide) q⟩) (fun hn => ⟨_, rfl, fun q => absurd rfl q, fun _ => cx_no k0 (by decide) (Or.inr ⟨hn, rfl, rfl⟩)⟩))
  rw [e]
  exact cx_102b hl9 c hn hv 10 0 0 s rfl (kc0.rfl' h hl) rfl
