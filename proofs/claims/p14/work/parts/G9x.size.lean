/-! WHAT WAS TOLD: the sizes of the parts of all goals -/
def gzE (p : Nat → Nat) (t : rSg) (s g w : Nat) : Prop := ∃ k, t (s + 1) g = nI k ∧ k < 256 ∧ ((k = 61 ∨ k = 35 ∨ k = 77) → ∃ x y, t (s + 2) (3 * g) = nI x ∧ t (s + 2) (3 * g + 1) = nI y ∧ (x < 2 ^ 31 ∧ y < 2 ^ 31) ∧ p x + p y = w) ∧ (k = 65 → ∃ x y z, t (s + 2) (3 * g) = nI x ∧ t (s + 2) (3 * g + 1) = nI y ∧ t (s + 2) (3 * g + 2) = nI z ∧ (x < 2 ^ 31 ∧ y < 2 ^ 31 ∧ z < 2 ^ 31) ∧ p x + p y + p z = w)
def sumS (p : Nat → Nat) : List Int32 → List Nat → Nat
  | [], _ => 0
  | w :: l, Cd => if w = 41 then sumS p l Cd else match Cd with
    | [] => 0
    | e :: C => (if w = 116 then p e else 0) + sumS p l C
theorem sumS_41 (p : Nat → Nat) (l : List Int32) (Cd : List Nat) : sumS p (41 :: l) Cd = sumS p l Cd := if_pos rfl
theorem sumS_116 (p : Nat → Nat) (l : List Int32) (e : Nat) (C : List Nat) : sumS p (116 :: l) (e :: C) = p e + sumS p l C := by
  simp only [sumS]
  rw [if_neg (by decide), if_pos trivial]
theorem sumS_103 (p : Nat → Nat) (l : List Int32) (e : Nat) (C : List Nat) : sumS p (103 :: l) (e :: C) = sumS p l C := by
  simp only [sumS]
  rw [if_neg (by decide), if_neg (by decide)]
  exact Nat.zero_add _
theorem CD_sz {t : rSg} {tx : Nat → Int32} {n nG nT tp : Nat} {p : Nat → Nat} (htp : tp ≤ 640) (hnG : nG ≤ 96) (hp1 : ∀ c, c < 256 → p c = 1) (hp2 : ∀ q, q < tp → ∃ a b, t 234 (2 * q) = nI a ∧ t 234 (2 * q + 1) = nI b ∧ (a < 2 ^ 31 ∧ b < 2 ^ 31) ∧ p a + p b + 1 = p (256 + q)) : ∀ (f i : Nat) (S : rdS) (np : Nat) (Cd : List Nat), CD t tx nG tp f i S np Cd → RRun tx n f i S (.inr (nG, nT, none)) → (np ≤ tp ∧ ∀ e ∈ Cd, e < 256 + tp) ∧ ∃ (k : Nat) (gs : Nat → Nat), nG = S.2.1 + k ∧ S.2.2.1 + sumS p S.1 Cd + sR gs S.2.1 k = nT ∧ (∀ g, S.2.1 ≤ g → g < nG → gzE p t 231 g (gs g) ∨ ∃ kk, t 232 g = nI kk ∧ kk < 256 ∧ (kk = 38 ∨ kk = 124 ∨ kk = 42 ∨ kk = 33)) ∧ ∀ q, np ≤ q → q < tp → p (256 + q) ≤ nT := by
  intro f
  induction f with
  | zero =>
    rintro i ⟨l, ng, nt, bad⟩ np Cd h1 h3
    cases l with
    | nil =>
      obtain ⟨rfl, rfl, rfl⟩ := h1
      rcases h3 with ⟨_, e⟩ | ⟨_, e⟩
      · cases e; exact ⟨⟨Nat.le_refl _, fun e he => by cases he⟩, 0, fun _ => 0, rfl, rfl, fun g a b => absurd b (by show ¬ g < _; have : ng ≤ g := a; omega), fun q a b => absurd b (by omega)⟩
      · cases e
    | cons w l => exact h1.elim
  | succ f ih =>
    rintro i ⟨l, ng, nt, bad⟩ np Cd h1 h3
    cases l with
    | nil =>
      obtain ⟨rfl, rfl, rfl⟩ := h1
      rcases h3 with ⟨_, e⟩ | ⟨_, e⟩
      · cases e; exact ⟨⟨Nat.le_refl _, fun e he => by cases he⟩, 0, fun _ => 0, rfl, rfl, fun g a b => absurd b (by show ¬ g < _; have : ng ≤ g := a; omega), fun q a b => absurd b (by omega)⟩
      · cases e
    | cons w l =>
      obtain ⟨S2, np2, Cd2, r1, c1, c2⟩ := h1
      rcases h3 with ⟨S4, r3, q1⟩ | ⟨_, q⟩
      · have e := RStep_det r1 r3
        subst e
        obtain ⟨⟨i1, i2⟩, k, gs, k1, k2, k3, k4⟩ := ih (i + 1) S2 np2 Cd2 c1 q1
        show (np ≤ tp ∧ ∀ e ∈ Cd, e < 256 + tp) ∧ ∃ (k : Nat) (gs : Nat → Nat), nG = ng + k ∧ nt + sumS p (w :: l) Cd + sR gs ng k = nT ∧ (∀ g, ng ≤ g → g < nG → gzE p t 231 g (gs g) ∨ ∃ kk, t 232 g = nI kk ∧ kk < 256 ∧ (kk = 38 ∨ kk = 124 ∨ kk = 42 ∨ kk = 33)) ∧ ∀ q, np ≤ q → q < tp → p (256 + q) ≤ nT
        rcases c2 with ⟨w0, rfl, rfl⟩ | ⟨w0, c2⟩ | ⟨w0, hc, rfl, k9, es, r, rfl, rfl, el, er⟩
        · rcases r1 with ⟨_, _, rfl⟩ | ⟨q, _⟩ | ⟨q, _⟩
          · simp only at k1 k2 k3
            refine ⟨⟨i1, i2⟩, k, gs, k1, ?_, k3, k4⟩
            rw [w0, sumS_41]
            exact k2
          · exact absurd w0 q
          · exact absurd w0 q
        · rcases r1 with ⟨q, _, _⟩ | ⟨_, _, _, rfl⟩ | ⟨_, q, _⟩
          · rw [w0] at q; exact absurd q (by decide)
          · simp only at k1 k2 k3
            rw [w0]
            rcases c2 with ⟨e, he, rfl, rfl⟩ | ⟨hc, rfl, a, b, r, rfl, t1, t2, rfl⟩
            · have : tAw (tx i) = [] := by unfold tAw; rw [if_neg (lfC_lt he).2]
              rw [this] at k2
              have e9 := (lfC_lt he).1
              refine ⟨⟨i1, fun x hx => ?_⟩, k, gs, k1, ?_, k3, k4⟩
              · rcases List.mem_cons.mp hx with rfl | hx
                · omega
                · exact i2 x hx
              · rw [sumS_116, hp1 e e9]
                simp only [List.nil_append] at k2
                omega
            · have : tAw (tx i) = [116, 116, 41] := by rw [hc]; decide
              rw [this] at k2
              simp only [List.cons_append, List.nil_append] at k2
              rw [sumS_116, sumS_116, sumS_41] at k2
              have a1 := i2 a (by simp)
              have b1 := i2 b (by simp)
              obtain ⟨a', b', y1, y2, ⟨y3, y4⟩, y5⟩ := hp2 np (by omega)
              rw [t1] at y1
              rw [t2] at y2
              obtain rfl := (nI_eq (by omega) y3).mp y1
              obtain rfl := (nI_eq (by omega) y4).mp y2
              refine ⟨⟨by omega, fun x hx => ?_⟩, k, gs, k1, ?_, k3, fun q g1 g2 => ?_⟩
              · rcases List.mem_cons.mp hx with rfl | hx
                · omega
                · exact i2 x (by simp [hx])
              · rw [sumS_116, ← y5]
                omega
              · by_cases hq : q = np
                · rw [hq, ← y5]
                  omega
                · exact k4 q (by omega) g2
          · exact absurd w0 q
        · rcases r1 with ⟨q, _, _⟩ | ⟨_, q, _⟩ | ⟨_, _, _, rfl⟩
          · rw [w0] at q; exact absurd q (by decide)
          · rw [w0] at q; exact absurd q (by decide)
          · simp only at k1 k2 k3
            rw [w0]
            have fin : ∀ wg, sumS p (gAw (tx i) ++ l) (es ++ r) = wg + sumS p l r → (gzE p t 231 ng wg ∨ ∃ kk, t 232 ng = nI kk ∧ kk < 256 ∧ (kk = 38 ∨ kk = 124 ∨ kk = 42 ∨ kk = 33)) → (np2 ≤ tp ∧ ∀ e ∈ ng :: r, e < 256 + tp) ∧ ∃ (k : Nat) (gs : Nat → Nat), nG = ng + k ∧ nt + sumS p (103 :: l) (ng :: r) + sR gs ng k = nT ∧ (∀ g, ng ≤ g → g < nG → gzE p t 231 g (gs g) ∨ ∃ kk, t 232 g = nI kk ∧ kk < 256 ∧ (kk = 38 ∨ kk = 124 ∨ kk = 42 ∨ kk = 33)) ∧ ∀ q, np2 ≤ q → q < tp → p (256 + q) ≤ nT := by
              intro wg e1 e2
              have cg : ∀ {m a : Nat}, ng < a → sR (fun g => if g = ng then wg else gs g) a m = sR gs a m := by
                intro m
                induction m with
                | zero => intro a _; rfl
                | succ m im =>
                  intro a ha
                  simp only [sR]
                  rw [im (by omega), if_neg (by omega)]
              refine ⟨⟨i1, fun x hx => ?_⟩, k + 1, fun g => if g = ng then wg else gs g, by omega, ?_, fun g g1 g2 => ?_, k4⟩
              · rcases List.mem_cons.mp hx with rfl | hx
                · omega
                · exact i2 x (List.mem_append_right _ hx)
              · rw [sumS_103]
                simp only [sR]
                rw [cg (Nat.lt_succ_self _), if_pos trivial]
                show nt + sumS p l r + (wg + sR gs (ng + 1) k) = nT
                rw [e1] at k2
                omega
              · by_cases hg : g = ng
                · subst hg
                  simp only [if_pos]
                  exact e2
                · simp only [if_neg hg]
                  exact k3 g (by omega) g2
            have lt31 : ∀ e ∈ es, e < 2 ^ 31 := fun e he => by have := i2 e (List.mem_append_left _ he); omega
            have two : (tx i = 61 ∨ tx i = 35 ∨ tx i = 77) → ∃ wg, sumS p (gAw (tx i) ++ l) (es ++ r) = wg + sumS p l r ∧ gzE p t 231 ng wg := by
              intro hk
              have e2 : gAw (tx i) = [116, 116] := by unfold gAw; rw [if_pos hk]
              rw [e2] at el ⊢
              match es, el, er, lt31 with
              | [x, y], _, er, lt31 =>
                refine ⟨p x + p y, ?_, ?_⟩
                · simp only [List.cons_append, List.nil_append]
                  rw [sumS_116, sumS_116]
                  omega
                · obtain ⟨kk, hkk, e3⟩ : ∃ kk, kk < 256 ∧ tx i = nI kk ∧ kk ≠ 65 := by
                    rcases hk with h | h | h
                    · exact ⟨61, by decide, h, by decide⟩
                    · exact ⟨35, by decide, h, by decide⟩
                    · exact ⟨77, by decide, h, by decide⟩
                  exact ⟨kk, by rw [← e3.1]; exact k9, hkk, fun _ => ⟨x, y, er 0 x rfl, er 1 y rfl, ⟨lt31 x (by simp), lt31 y (by simp)⟩, rfl⟩, fun q => absurd q e3.2⟩
            have non : ∀ kk : Nat, tx i = nI kk → kk < 256 → (kk = 38 ∨ kk = 124 ∨ kk = 42 ∨ kk = 33) → sumS p (gAw (tx i) ++ l) (es ++ r) = 0 + sumS p l r → (np2 ≤ tp ∧ ∀ e ∈ ng :: r, e < 256 + tp) ∧ ∃ (k : Nat) (gs : Nat → Nat), nG = ng + k ∧ nt + sumS p (103 :: l) (ng :: r) + sR gs ng k = nT ∧ (∀ g, ng ≤ g → g < nG → gzE p t 231 g (gs g) ∨ ∃ kk, t 232 g = nI kk ∧ kk < 256 ∧ (kk = 38 ∨ kk = 124 ∨ kk = 42 ∨ kk = 33)) ∧ ∀ q, np2 ≤ q → q < tp → p (256 + q) ≤ nT := fun kk h1 h2 h3 h4 => fin 0 h4 (Or.inr ⟨kk, by rw [← h1]; exact k9, h2, h3⟩)
            rcases hc with hc | hc | hc | hc | hc | hc | hc | hc
            · obtain ⟨wg, a1, a2⟩ := two (Or.inl hc)
              exact fin wg a1 (Or.inl a2)
            · obtain ⟨wg, a1, a2⟩ := two (Or.inr (Or.inl hc))
              exact fin wg a1 (Or.inl a2)
            · refine non 38 hc (by decide) (by decide) ?_
              have e2 : gAw (tx i) = [103, 103] := by rw [hc]; decide
              rw [e2] at el ⊢
              match es, el with
              | [x, y], _ =>
                simp only [List.cons_append, List.nil_append]
                rw [sumS_103, sumS_103]
                omega
            · refine non 124 hc (by decide) (by decide) ?_
              have e2 : gAw (tx i) = [103, 103] := by rw [hc]; decide
              rw [e2] at el ⊢
              match es, el with
              | [x, y], _ =>
                simp only [List.cons_append, List.nil_append]
                rw [sumS_103, sumS_103]
                omega
            · have e2 : gAw (tx i) = [116, 116, 116] := by rw [hc]; decide
              have go : ∃ wg, sumS p (gAw (tx i) ++ l) (es ++ r) = wg + sumS p l r ∧ gzE p t 231 ng wg := by
                rw [e2] at el ⊢
                match es, el, er, lt31 with
                | [x, y, z], _, er, lt31 =>
                  refine ⟨p x + p y + p z, ?_, ?_⟩
                  · simp only [List.cons_append, List.nil_append]
                    rw [sumS_116, sumS_116, sumS_116]
                    omega
                  · exact ⟨65, by rw [k9, hc]; rfl, by decide, fun q => by omega, fun _ => ⟨x, y, z, er 0 x rfl, er 1 y rfl, er 2 z rfl, ⟨lt31 x (by simp), lt31 y (by simp), lt31 z (by simp)⟩, rfl⟩⟩
              obtain ⟨wg, a1, a2⟩ := go
              exact fin wg a1 (Or.inl a2)
            · obtain ⟨wg, a1, a2⟩ := two (Or.inr (Or.inr hc))
              exact fin wg a1 (Or.inl a2)
            · refine non 42 hc (by decide) (by decide) ?_
              have e2 : gAw (tx i) = [] := by rw [hc]; decide
              rw [e2] at el ⊢
              obtain rfl : es = [] := List.length_eq_zero_iff.mp el
              simp only [List.nil_append]
              omega
            · refine non 33 hc (by decide) (by decide) ?_
              have e2 : gAw (tx i) = [] := by rw [hc]; decide
              rw [e2] at el ⊢
              obtain rfl : es = [] := List.length_eq_zero_iff.mp el
              simp only [List.nil_append]
              omega
      · cases q
