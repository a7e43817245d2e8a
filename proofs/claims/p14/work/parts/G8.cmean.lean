/-! THE CLASS's READER: what was read means what the text means -/
theorem tdn_vr {t : rSg} {s tp v : Nat} (h : v < 6) : tdn t s tp v (vr v) := fun th _ r hr => hr v h
theorem tdn_atm {t : rSg} {s tp a : Nat} (h : a < 11) : tdn t s tp (128 + a) (atm a) := fun th hs r _ => by
  have := (hs (128 + a) (Or.inr (Or.inl ⟨by omega, by omega⟩))).2.1 a (by
    unfold cV
    rw [if_neg (by omega), if_pos (by omega), show 128 + a - 128 = a by omega])
  exact this
theorem tdn_pair {t : rSg} {s tp q a b : Nat} {f g : Tf} (hq : q < tp) (htp : tp ≤ 640) (e1 : t (s + 3) (2 * q) = nI a) (e2 : t (s + 3) (2 * q + 1) = nI b) (ha : a < 2 ^ 31) (hb : b < 2 ^ 31) (h1 : tdn t s tp a f) (h2 : tdn t s tp b g) : tdn t s tp (256 + q) (prf f g) := fun th hs r hr => by
  have hv : cV t s 0 0 (256 + q) = some (.inr (.inr (a, b))) := by
    unfold cV
    rw [if_neg (by omega), if_neg (by omega), if_pos (by omega), show 256 + q - 256 = q by omega, e1, e2, nI_clamp ha, nI_clamp hb]
  rw [(hs (256 + q) (Or.inr (Or.inr ⟨by omega, by omega⟩))).2.2 _ _ hv, h1 th hs r hr, h2 th hs r hr]
  rfl
def mtc (t : rSg) (tp nG : Nat) : List Nat → List Mn → Prop
  | [], [] => True
  | e :: Cd, .inl f :: M => (cTd tp e ∧ tdn t 231 tp e f) ∧ mtc t tp nG Cd M
  | e :: Cd, .inr q :: M => (e = q ∧ q < nG) ∧ mtc t tp nG Cd M
  | _, _ => False
def gEt (tb : Tb) (t : rSg) (nG tp g : Nat) : Prop := ∃ k, t 232 g = nI k ∧ (tb g).1 = k ∧
  (((k = 61 ∨ k = 35 ∨ k = 77) ∧ ∃ x y, t 233 (3 * g) = nI x ∧ t 233 (3 * g + 1) = nI y ∧ (cTd tp x ∧ cTd tp y) ∧ tdn t 231 tp x (tb1 tb g) ∧ tdn t 231 tp y (tb2 tb g)) ∨
   (k = 65 ∧ ∃ x y z, t 233 (3 * g) = nI x ∧ t 233 (3 * g + 1) = nI y ∧ t 233 (3 * g + 2) = nI z ∧ (cTd tp x ∧ cTd tp y ∧ cTd tp z) ∧ tdn t 231 tp x (tb1 tb g) ∧ tdn t 231 tp y (tb2 tb g) ∧ tdn t 231 tp z (tb3 tb g)) ∨
   ((k = 38 ∨ k = 124) ∧ t 233 (3 * g) = nI (tbA tb g) ∧ t 233 (3 * g + 1) = nI (tbB tb g) ∧ tbA tb g < nG ∧ tbB tb g < nG) ∨ k = 42 ∨ k = 33)
def pEt (t : rSg) (tp : Nat) (p : Nat → Nat) (q : Nat) : Prop := ∃ a b, t 234 (2 * q) = nI a ∧ t 234 (2 * q + 1) = nI b ∧ (cTd tp a ∧ cTd tp b) ∧ p a + p b + 1 = p (256 + q) ∧ p (256 + q) ≤ 100 ∧ (a < 256 ∨ 256 + q < a) ∧ (b < 256 ∨ 256 + q < b)
def sumP (p : Nat → Nat) : List Nat → Nat
  | [] => 0
  | e :: l => p e + sumP p l
theorem sumP_congr {p p2 : Nat → Nat} : ∀ {l : List Nat}, (∀ e, e ∈ l → p2 e = p e) → sumP p2 l = sumP p l
  | [], _ => rfl
  | e :: l, h => by simp only [sumP]; rw [h e List.mem_cons_self, sumP_congr (fun x hx => h x (List.mem_cons_of_mem _ hx))]
theorem sumP_app (p : Nat → Nat) : ∀ (a b : List Nat), sumP p (a ++ b) = sumP p a + sumP p b
  | [], b => by simp [sumP]
  | e :: a, b => by simp only [List.cons_append, sumP, sumP_app p a b]; omega
theorem CD_M {t : rSg} {tx : Nat → Int32} {tb : Tb} {nG tp : Nat} (htp : tp ≤ 640) (hnG : nG ≤ 96) : ∀ (f i : Nat) (S : rdS) (np : Nat) (Cd : List Nat) (M : List Mn), f ≤ 96 → CD t tx nG tp f i S np Cd → MR tx tb f i S M → (S.2.1 ≤ nG ∧ np ≤ tp) ∧ mtc t tp nG Cd M ∧ (∀ g, S.2.1 ≤ g → g < nG → gEt tb t nG tp g) ∧ ∃ p : Nat → Nat, (∀ c, c < 256 → p c = 1) ∧ (∀ q, np ≤ q → q < tp → pEt t tp p q) ∧ sumP p Cd ≤ f ∧ (∀ e, e ∈ Cd → e < 256 ∨ (256 + np ≤ e ∧ e < 256 + tp)) := by
  intro f
  induction f with
  | zero =>
    rintro i ⟨l, ng, nt, bad⟩ np Cd M _ h1 h2
    cases l with
    | nil =>
      obtain ⟨rfl, rfl, rfl⟩ := h1
      have h2 : M = [] := h2
      subst h2
      exact ⟨⟨Nat.le_refl _, Nat.le_refl _⟩, trivial, fun g a b => absurd b (by show ¬ g < _; have : ng ≤ g := a; omega), fun _ => 1, fun _ _ => rfl, fun q a b => absurd b (by omega), Nat.le_refl _, fun e he => by cases he⟩
    | cons w l => exact h1.elim
  | succ f ih =>
    rintro i ⟨l, ng, nt, bad⟩ np Cd M hf h1 h2
    cases l with
    | nil =>
      obtain ⟨rfl, rfl, rfl⟩ := h1
      have h2 : M = [] := h2
      subst h2
      exact ⟨⟨Nat.le_refl _, Nat.le_refl _⟩, trivial, fun g a b => absurd b (by show ¬ g < _; have : ng ≤ g := a; omega), fun _ => 1, fun _ _ => rfl, fun q a b => absurd b (by omega), Nat.zero_le _, fun e he => by cases he⟩
    | cons w l =>
      obtain ⟨S2, np2, Cd2, r1, c1, c2⟩ := h1
      obtain ⟨S3, M2, r2, m1, m2⟩ := h2
      have e := RStep_det r1 r2
      subst e
      obtain ⟨⟨i1, i2⟩, i3, i4, p, i5, i6, i7, i8⟩ := ih (i + 1) S2 np2 Cd2 M2 (by omega) c1 m1
      show (ng ≤ nG ∧ np ≤ tp) ∧ mtc t tp nG Cd M ∧ (∀ g, ng ≤ g → g < nG → gEt tb t nG tp g) ∧ _
      rcases c2 with ⟨w0, rfl, rfl⟩ | ⟨w0, c2⟩ | ⟨w0, hc, rfl, k1, es, r, rfl, rfl, k2, k3⟩
      · -- the closing sign
        have hS : S2.2.1 = ng := by
          rcases r1 with ⟨_, _, rfl⟩ | ⟨q, _⟩ | ⟨q, _⟩
          · rfl
          · exact absurd w0 q
          · exact absurd w0 q
        rw [hS] at i1 i4
        rcases m2 with ⟨_, rfl⟩ | ⟨q, _⟩ | ⟨q, _⟩
        · exact ⟨⟨i1, i2⟩, i3, i4, p, i5, i6, by omega, i8⟩
        · rw [w0] at q; exact absurd q (by decide)
        · rw [w0] at q; exact absurd q (by decide)
      · -- a term
        have hS : S2.2.1 = ng := by
          rcases r1 with ⟨q, _, _⟩ | ⟨_, _, _, rfl⟩ | ⟨_, q, _⟩
          · rw [w0] at q; exact absurd q (by decide)
          · rfl
          · exact absurd w0 q
        rw [hS] at i1 i4
        have m2 : (∃ g, lfM (tx i) g ∧ M = .inl g :: M2) ∨ (tx i = 40 ∧ ∃ g1 g2 r, M2 = .inl g1 :: .inl g2 :: r ∧ M = .inl (prf g1 g2) :: r) := by
          rcases m2 with ⟨q, _⟩ | ⟨_, q⟩ | ⟨q, _⟩
          · rw [w0] at q; exact absurd q (by decide)
          · exact q
          · rw [w0] at q; exact absurd q (by decide)
        rcases c2 with ⟨e, he, rfl, rfl⟩ | ⟨hc, rfl, a, b, r, rfl, t1, t2, rfl⟩
        · rcases m2 with ⟨g, hg, rfl⟩ | ⟨q, _⟩
          · have he2 : (cTd tp e ∧ tdn t 231 tp e g) ∧ e < 256 := by
              rcases he with ⟨v, v1, v2, rfl⟩ | ⟨v, v1, v2, rfl⟩ | ⟨v2, rfl⟩ <;> rcases hg with ⟨u, u1, u2, rfl⟩ | ⟨u, u1, u2, rfl⟩ | ⟨u2, rfl⟩
              · rw [v2] at u2
                obtain rfl : e = u := by have := (nI_eq (by omega) (by omega)).mp u2; omega
                exact ⟨⟨Or.inl v1, tdn_vr v1⟩, by omega⟩
              · rw [v2] at u2
                exact absurd ((nI_eq (by omega) (by omega)).mp u2) (by omega)
              · rw [v2] at u2
                exact absurd ((nI_eq (b := 110) (by omega) (by omega)).mp u2) (by omega)
              · rw [v2] at u2
                exact absurd ((nI_eq (by omega) (by omega)).mp u2) (by omega)
              · rw [v2] at u2
                obtain rfl : v = u := by have := (nI_eq (by omega) (by omega)).mp u2; omega
                exact ⟨⟨Or.inr (Or.inl ⟨by omega, by omega⟩), tdn_atm (by omega)⟩, by omega⟩
              · rw [v2] at u2
                exact absurd ((nI_eq (b := 110) (by omega) (by omega)).mp u2) (by omega)
              · rw [v2] at u2
                exact absurd ((nI_eq (a := 110) (by omega) (by omega)).mp u2) (by omega)
              · rw [v2] at u2
                exact absurd ((nI_eq (a := 110) (by omega) (by omega)).mp u2) (by omega)
              · exact ⟨⟨Or.inr (Or.inl ⟨by omega, by omega⟩), tdn_atm (a := 10) (by omega)⟩, by omega⟩
            refine ⟨⟨i1, i2⟩, ⟨he2.1, i3⟩, i4, p, i5, i6, ?_, fun x hx => ?_⟩
            · simp only [sumP]; rw [i5 e he2.2]; omega
            · rcases List.mem_cons.mp hx with rfl | q
              · exact Or.inl he2.2
              · exact i8 x q
          · exact absurd q (lfC_lt he).2
        · rcases m2 with ⟨g, hg, rfl⟩ | ⟨_, g1, g2, mr, rfl, rfl⟩
          · exact absurd hc (lfM_ne hg)
          · obtain ⟨⟨a1, a2⟩, ⟨b1, b2⟩, hr⟩ := i3
            have ca := i8 a (by simp)
            have cb := i8 b (by simp)
            have a9 : a < 2 ^ 31 := by omega
            have b9 : b < 2 ^ 31 := by omega
            have p2 : ∀ e, e ≠ 256 + np → (fun c => if c = 256 + np then p a + p b + 1 else p c) e = p e := fun e he => if_neg he
            have pn : (fun c => if c = 256 + np then p a + p b + 1 else p c) (256 + np) = p a + p b + 1 := if_pos rfl
            simp only [sumP] at i7
            generalize hp : (fun c => if c = 256 + np then p a + p b + 1 else p c) = p3 at p2 pn
            refine ⟨⟨i1, by omega⟩, ⟨⟨Or.inr (Or.inr ⟨by omega, by omega⟩), tdn_pair (by omega) htp t1 t2 a9 b9 a2 b2⟩, hr⟩, i4, p3, fun c hc => ?_, fun q q1 q2 => ?_, ?_, fun x hx => ?_⟩
            · rw [p2 c (by omega)]; exact i5 c hc
            · by_cases hq : q = np
              · subst hq
                exact ⟨a, b, t1, t2, ⟨a1, b1⟩, by rw [pn, p2 a (by omega), p2 b (by omega)], by rw [pn]; omega, by omega, by omega⟩
              · obtain ⟨a', b', y1, y2, y3, y4, y5, y6, y7⟩ := i6 q (by omega) q2
                exact ⟨a', b', y1, y2, y3, by rw [p2 a' (by omega), p2 b' (by omega), p2 (256 + q) (by omega)]; exact y4, by rw [p2 (256 + q) (by omega)]; exact y5, y6, y7⟩
            · simp only [sumP]
              rw [pn, sumP_congr (p := p) (fun e he => p2 e (by have := i8 e (by simp [he]); omega))]
              omega
            · rcases List.mem_cons.mp hx with rfl | q
              · exact Or.inr ⟨by omega, by omega⟩
              · have := i8 x (by simp [q]); omega
      · -- a goal
        have hS : S2.2.1 = ng + 1 := by
          rcases r1 with ⟨q, _, _⟩ | ⟨_, q, _⟩ | ⟨_, _, _, rfl⟩
          · rw [w0] at q; exact absurd q (by decide)
          · rw [w0] at q; exact absurd q (by decide)
          · rfl
        rw [hS] at i1 i4
        have m2 : gEn tb ng (tx i) M M2 := by
          rcases m2 with ⟨q, _⟩ | ⟨q, _⟩ | ⟨_, q⟩
          · rw [w0] at q; exact absurd q (by decide)
          · rw [w0] at q; exact absurd q (by decide)
          · exact q
        have hng : ng < 256 := by omega
        have fin : ∀ mr : List Mn, M = .inr ng :: mr → mtc t tp nG r mr → gEt tb t nG tp ng → (ng ≤ nG ∧ np2 ≤ tp) ∧ mtc t tp nG (ng :: r) M ∧ (∀ g, ng ≤ g → g < nG → gEt tb t nG tp g) ∧ ∃ p : Nat → Nat, (∀ c, c < 256 → p c = 1) ∧ (∀ q, np2 ≤ q → q < tp → pEt t tp p q) ∧ sumP p (ng :: r) ≤ f + 1 ∧ (∀ e, e ∈ ng :: r → e < 256 ∨ (256 + np2 ≤ e ∧ e < 256 + tp)) := by
          rintro mr rfl hr hg
          refine ⟨⟨by omega, i2⟩, ⟨⟨rfl, by omega⟩, hr⟩, fun g g1 g2 => ?_, p, i5, i6, ?_, fun x hx => ?_⟩
          · by_cases q : g = ng
            · subst q; exact hg
            · exact i4 g (by omega) g2
          · rw [sumP_app] at i7
            simp only [sumP]
            rw [i5 ng hng]
            omega
          · rcases List.mem_cons.mp hx with rfl | q
            · exact Or.inl hng
            · exact i8 x (List.mem_append_right _ q)
        obtain ⟨k, hck, htk, m2⟩ := m2
        rcases m2 with ⟨k4, mr, rfl, e⟩ | ⟨k4, mr, rfl, e⟩ | ⟨k4, mr, rfl, e⟩ | ⟨k4, e⟩
        · have e2 : (gAw (tx i)).length = 2 := by rw [hck]; rcases k4 with rfl | rfl | rfl <;> decide
          rw [e2] at k2
          match es, k2, i3, k3 with
          | [x, y], _, i3, k3 =>
            obtain ⟨⟨x1, x2⟩, ⟨y1, y2⟩, hr⟩ := i3
            exact fin mr e hr ⟨k, by rw [k1, hck], htk, Or.inl ⟨k4, x, y, k3 0 x rfl, k3 1 y rfl, ⟨x1, y1⟩, x2, y2⟩⟩
        · have e2 : (gAw (tx i)).length = 3 := by rw [hck, k4]; decide
          rw [e2] at k2
          match es, k2, i3, k3 with
          | [x, y, z], _, i3, k3 =>
            obtain ⟨⟨x1, x2⟩, ⟨y1, y2⟩, ⟨z1, z2⟩, hr⟩ := i3
            exact fin mr e hr ⟨k, by rw [k1, hck], htk, Or.inr (Or.inl ⟨k4, x, y, z, k3 0 x rfl, k3 1 y rfl, k3 2 z rfl, ⟨x1, y1, z1⟩, x2, y2, z2⟩)⟩
        · have e2 : (gAw (tx i)).length = 2 := by rw [hck]; rcases k4 with rfl | rfl <;> decide
          rw [e2] at k2
          match es, k2, i3, k3 with
          | [x, y], _, i3, k3 =>
            obtain ⟨⟨x1, x2⟩, ⟨y1, y2⟩, hr⟩ := i3
            exact fin mr e hr ⟨k, by rw [k1, hck], htk, Or.inr (Or.inr (Or.inl ⟨k4, by rw [← x1]; exact k3 0 x rfl, by rw [← y1]; exact k3 1 y rfl, x2, y2⟩))⟩
        · have e2 : (gAw (tx i)).length = 0 := by rw [hck]; rcases k4 with rfl | rfl <;> decide
          rw [e2] at k2
          obtain rfl : es = [] := List.length_eq_zero_iff.mp k2
          exact fin M2 e i3 ⟨k, by rw [k1, hck], htk, Or.inr (Or.inr (Or.inr k4))⟩
