/-! THE REFERENCE IS ASKED: texts -/
theorem mx_166 {s : rSg} {A : Ab} {im : Option Ab} (h : MJ s A im) {i n : Nat} {X : Sx} (hX : A.Q.2.1[i]? = some (n, X)) {v : Nat} (hv : v < 6) : EvS rSkel 5 166 [.inr (.inr (some 725)), .inl (nI i), .inl (nI v)] s (fun r t => r = none ∧ mk0 A im s t ∧ mK kF jF s t ∧ ∃ tx, isT X.2.2.2 v tx ∧ tx5 t tx) := by
  obtain ⟨T, G, L, hd, g, r1, _⟩ := id h
  have ha := r1.2.2.1.2.2.2.2.2.2.2 i n X hX
  refine (ms_166 r1.rs (List.getElem?_eq_some_iff.mp hX).1 hv).imp ?_
  rintro _ t ⟨rfl, k, tx, h1, h2⟩
  exact ⟨rfl, mk0.K h k (by decide) (by decide) (by decide) (by decide), k, tx, fTx_isT ha hv h1, h2⟩
theorem mx_163 {s : rSg} {A : Ab} {im : Option Ab} (h : MJ s A im) (x y : Int32) : EvS rSkel 6 163 [.inr (.inr (some 725)), .inl x, .inl y] s (mP (sLen A.Q x y) A im s) := by
  have f := h.f
  have l30 := f.2.1.2
  refine w_163 s x y (mx_164 f.2.1.1 f.2.1.2 x (fun i hi e => ⟨_, rfl, fun q => absurd q (by decide), fun _ => ?_⟩) (fun hn => ⟨_, rfl, fun _ => mx_no (mk0.rfl' h) (by decide) (Or.inr ⟨hn, rfl, rfl⟩), fun q => absurd rfl q⟩))
  obtain ⟨⟨n, X⟩, hX⟩ : ∃ p, A.Q.2.1[i]? = some p := ⟨_, List.getElem?_eq_getElem hi⟩
  refine mx_165 s y (fun v hv e2 => ⟨_, rfl, fun _ => ?_, fun q => absurd (by decide) q⟩) (fun hn => ⟨_, rfl, fun q => absurd rfl q, fun _ => mx_no (mk0.rfl' h) (by decide) (Or.inl ⟨i, n, X, hX, by omega, e, Or.inr ⟨hn, rfl, rfl⟩⟩)⟩)
  rw [e, e2]
  refine (mx_166 h hX hv).imp ?_
  rintro _ t ⟨rfl, t1, _, tx, t2, t3⟩
  rw [t3.1]
  exact ⟨rfl, t1.is (Or.inl ⟨i, n, X, hX, by omega, rfl, Or.inl ⟨v, hv, rfl, tx, t2, rfl, rfl⟩⟩)⟩
theorem mx_172 {s : rSg} {A : Ab} {im : Option Ab} (h : MJ s A im) (x y z : Int32) : EvS rSkel 6 172 [.inr (.inr (some 725)), .inl x, .inl y, .inl z] s (mP (sTxt A.Q x y z) A im s) := by
  have f := h.f
  have l30 := f.2.1.2
  refine w_172 s x y z (mx_164 f.2.1.1 f.2.1.2 x (fun i hi e => ⟨_, rfl, fun q => absurd q (by decide), fun _ => ?_⟩) (fun hn => ⟨_, rfl, fun _ => mx_no (mk0.rfl' h) (by decide) (Or.inr ⟨hn, rfl, rfl⟩), fun q => absurd rfl q⟩))
  obtain ⟨⟨n, X⟩, hX⟩ : ∃ p, A.Q.2.1[i]? = some p := ⟨_, List.getElem?_eq_getElem hi⟩
  refine mx_165 s y (fun v hv e2 => ⟨_, rfl, fun _ => ⟨fun hz => ?_, fun hz => mx_no (mk0.rfl' h) (by decide) (Or.inl ⟨i, n, X, hX, by omega, e, Or.inl ⟨v, hv, e2, Or.inl ⟨hz, rfl, rfl⟩⟩⟩)⟩, fun q => absurd (by decide) q⟩) (fun hn => ⟨_, rfl, fun q => absurd rfl q, fun _ => mx_no (mk0.rfl' h) (by decide) (Or.inl ⟨i, n, X, hX, by omega, e, Or.inr ⟨hn, rfl, rfl⟩⟩)⟩)
  rw [e, e2]
  refine (mx_166 h hX hv).imp ?_
  rintro _ t ⟨rfl, t1, _, tx, t2, t3⟩
  have fin : mP (sTxt A.Q (nI i) (nI v) z) A im s (some (.inl (txD tx z))) t := t1.is (Or.inl ⟨i, n, X, hX, by omega, rfl, Or.inl ⟨v, hv, rfl, Or.inr ⟨hz, tx, t2, rfl, rfl⟩⟩⟩)
  obtain ⟨k, hk, rfl⟩ := nn_of (Int32.not_lt.mpr hz)
  have t4 := t3.2.1
  refine ⟨rfl, fun q => ?_, fun q => ?_⟩
  · rw [t3.1] at q
    have := (nI_leI (by omega) hk).mp q
    unfold txD at fin
    rw [nI_clamp hk, List.getD_eq_getElem?_getD, List.getElem?_eq_none this] at fin
    exact fin
  · rw [t3.1] at q
    have l : k < tx.length := Nat.lt_of_not_le (fun z => q (nI_le z hk))
    unfold txD at fin
    rw [nI_clamp hk, List.getD_eq_getElem?_getD, List.getElem?_eq_getElem l] at fin
    rw [nI_clamp hk, t3.2.2 k _ (List.getElem?_eq_getElem l)]
    exact ⟨rIn_nI (by omega) (by decide), fin⟩
theorem mx_179b {t : rSg} {tx ty : List Int32} (ho : ot t tx) (ht : tx5 t ty) (hl : tx.length ≤ 200) {P : Option rv → rSg → Prop} (h1 : tx = ty → P (some (.inl 1)) t) (h0 : tx ≠ ty → P (some (.inl 0)) t) : ∀ (n y : Nat) (b : Int32), y + n = tx.length → ((b = 0 ∧ tx ≠ ty) ∨ (b = 1 ∧ tx.length = ty.length ∧ ∀ k, k < y → tx[k]? = ty[k]?)) → g_179_24 (nI tx.length) b (nI y) t P := by
  intro n
  induction n with
  | zero =>
    intro y b hy hb
    obtain rfl : y = tx.length := by omega
    refine w_179_24 t _ _ _ ⟨fun _ => ?_, fun q => absurd (nI_le (Nat.le_refl _) (by omega)) q⟩
    rcases hb with ⟨rfl, hb⟩ | ⟨rfl, hb, he⟩
    · exact ⟨by decide, h0 hb⟩
    · refine ⟨by decide, h1 ?_⟩
      apply List.ext_getElem?
      intro k
      by_cases hk : k < tx.length
      · exact he k hk
      · rw [List.getElem?_eq_none (by omega), List.getElem?_eq_none (by omega)]
  | succ n ih =>
    intro y b hy hb
    refine w_179_24 t _ _ _ ⟨fun q => ?_, fun _ => ⟨fun q => ?_, fun q => ?_⟩⟩
    · have := (nI_leI (by omega) (by omega)).mp q; omega
    · rcases hb with ⟨rfl, hb⟩ | ⟨rfl, hb, he⟩
      · exact ⟨by decide, h0 hb⟩
      · exact absurd q (by decide)
    · rcases hb with ⟨rfl, hb⟩ | ⟨rfl, hb, he⟩
      · exact absurd rfl q
      · have la : y < tx.length := by omega
        have lb : y < ty.length := by omega
        have r := rIn_nI (t := y) (n := 200) (by omega) (by decide)
        rw [nI_clamp (by omega), ho y _ (List.getElem?_eq_getElem la), ht.2.2 y _ (List.getElem?_eq_getElem lb), nI_1]
        refine ⟨r, r, fun e => ih (y + 1) 0 (by omega) (Or.inl ⟨rfl, fun z => e ?_⟩), fun e => ih (y + 1) 1 (by omega) (Or.inr ⟨rfl, hb, fun k hk => ?_⟩)⟩
        · subst z; rfl
        · by_cases q : k = y
          · subst q; rw [List.getElem?_eq_getElem la, List.getElem?_eq_getElem lb, Classical.not_not.mp e]
          · exact he k (by omega)
theorem mx_179 {s : rSg} {A : Ab} {im : Option Ab} (h : MJ s A im) {i n : Nat} {X : Sx} (hX : A.Q.2.1[i]? = some (n, X)) {v : Nat} (hv : v < 6) {tx : List Int32} (ho : ot s tx) (hl : tx.length ≤ 200) : EvS rSkel 6 179 [.inr (.inr (some 725)), .inl (nI i), .inl (nI v), .inl (nI tx.length)] s (fun r t => mk0 A im s t ∧ ot t tx ∧ ∃ ty, tq A.Q v i ty ∧ ((r = some (.inl 1) ∧ ty = tx) ∨ (r = some (.inl 0) ∧ ty ≠ tx))) := by
  refine w_179 s _ _ _ ((mx_166 h hX hv).imp ?_)
  rintro _ t ⟨rfl, t1, k, ty, t2, t3⟩
  have o2 : ot t tx := fun j x hj => by rw [k.1 758 (by decide) (by decide)]; exact ho j x hj
  have q1 : tq A.Q v i ty := ⟨n, X, hX, t2⟩
  have fin := mx_179b (t := t) (tx := tx) (ty := ty) (P := fun r t => mk0 A im s t ∧ ot t tx ∧ ∃ ty, tq A.Q v i ty ∧ ((r = some (.inl 1) ∧ ty = tx) ∨ (r = some (.inl 0) ∧ ty ≠ tx))) o2 t3 hl (fun e => ⟨t1, o2, ty, q1, Or.inl ⟨rfl, e.symm⟩⟩) (fun e => ⟨t1, o2, ty, q1, Or.inr ⟨rfl, fun z => e z.symm⟩⟩)
  have l5 := t3.2.1
  refine ⟨rfl, fun q => fin tx.length 0 0 (by omega) (Or.inl ⟨rfl, fun z => q (by rw [t3.1, z])⟩), fun q => fin tx.length 0 1 (by omega) (Or.inr ⟨rfl, ?_, fun k hk => absurd hk (by omega)⟩)⟩
  have q := Classical.not_not.mp q
  rw [t3.1] at q
  exact ((nI_eq (by omega) (by omega)).mp q).symm
theorem mx_178c {s : rSg} {A : Ab} {im : Option Ab} {i v : Nat} (hi : i < A.Q.2.1.length) (hv : v < 6) {tx : List Int32} (hl : tx.length ≤ 200) (hf : tq A.Q v i tx) {P : Option rv → rSg → Prop} (hP : ∀ j t, fsA A.Q v i j → mk0 A im s t → P (some (.inl (nI j))) t) : ∀ (n y : Nat) (t : rSg), y + n = i → mk0 A im s t → ot t tx → (∀ k, k < y → ¬ sm A.Q v k i) → g_178_43 (nI v) (nI tx.length) (nI y) t P := by
  have go : ∀ (y : Nat) (t : rSg), y ≤ i → mk0 A im s t → ot t tx → (∀ k, k < y → ¬ sm A.Q v k i) → (∀ u, mk0 A im s u → ot u tx → ¬ sm A.Q v y i → g_178_43 (nI v) (nI tx.length) (nI y + 1) u P) → g_178_43 (nI v) (nI tx.length) (nI y) t P := fun y t hy k o he nx => by
    obtain ⟨⟨n, X⟩, hX⟩ : ∃ p, A.Q.2.1[y]? = some p := ⟨_, List.getElem?_eq_getElem (by omega)⟩
    refine w_178_43 t _ _ _ ((mx_179 k.1 hX hv o hl).imp ?_)
    rintro r u ⟨u1, u2, ty, u3, ⟨rfl, u4⟩ | ⟨rfl, u4⟩⟩
    · exact ⟨_, rfl, fun _ => hP y u ⟨hy, (sm_iff u3 hf).mpr u4, he⟩ (k.trans u1), fun q => absurd (by decide) q⟩
    · exact ⟨_, rfl, fun q => absurd rfl q, fun _ => nx u (k.trans u1) u2 (fun z => u4 ((sm_iff u3 hf).mp z))⟩
  intro n
  induction n with
  | zero =>
    intro y t hy k o he
    obtain rfl : y = i := by omega
    exact go y t (Nat.le_refl _) k o he (fun u _ _ z => absurd ⟨tx, hf, hf⟩ z)
  | succ n ih =>
    intro y t hy k o he
    refine go y t (by omega) k o he (fun u u1 u2 z => ?_)
    rw [nI_1]
    refine ih (y + 1) u (by omega) u1 u2 (fun k hk => ?_)
    by_cases q : k = y
    · subst q; exact z
    · exact he k (by omega)
theorem mx_178 {s : rSg} {A : Ab} {im : Option Ab} (h : MJ s A im) {i v : Nat} (hi : i < A.Q.2.1.length) (hv : v < 6) : EvS rSkel 7 178 [.inr (.inr (some 725)), .inl (nI i), .inl (nI v)] s (fun r t => ∃ j, r = some (.inl (nI j)) ∧ fsA A.Q v i j ∧ mk0 A im s t) := by
  obtain ⟨⟨n, X⟩, hX⟩ : ∃ p, A.Q.2.1[i]? = some p := ⟨_, List.getElem?_eq_getElem hi⟩
  refine w_178 s _ _ ((mx_166 h hX hv).imp ?_)
  rintro _ t ⟨rfl, t1, k, tx, t2, t3⟩
  rw [t3.1]
  refine ⟨rfl, ms_178b (s0 := t) (tx := tx) t3.2.1 t3.2.2 (fun u u1 u2 => ?_) tx.length 0 t (by omega) mK.rfl' (fun j x hj => absurd hj (by omega))⟩
  exact mx_178c hi hv t3.2.1 ⟨n, X, hX, t2⟩ (fun j u hj hu => ⟨j, rfl, hj, hu⟩) i 0 u (by omega) (t1.trans (mk0.K t1.1 u1 (by simp [kJ]) (by simp) (by simp) (by simp))) u2 (fun k hk => absurd hk (by omega))
theorem mx_180 {s : rSg} {A : Ab} {im : Option Ab} (h : MJ s A im) (x y : Int32) : EvS rSkel 8 180 [.inr (.inr (some 725)), .inl x, .inl y] s (mP (sEar A.Q x y) A im s) := by
  have f := h.f
  have l30 := f.2.1.2
  refine w_180 s x y (mx_164 f.2.1.1 f.2.1.2 x (fun i hi e => ⟨_, rfl, fun q => absurd q (by decide), fun _ => ?_⟩) (fun hn => ⟨_, rfl, fun _ => mx_no (mk0.rfl' h) (by decide) (Or.inr ⟨hn, rfl, rfl⟩), fun q => absurd rfl q⟩))
  obtain ⟨⟨n, X⟩, hX⟩ : ∃ p, A.Q.2.1[i]? = some p := ⟨_, List.getElem?_eq_getElem hi⟩
  refine mx_165 s y (fun v hv e2 => ⟨_, rfl, fun q => absurd q (by decide), fun _ => ?_⟩) (fun hn => ⟨_, rfl, fun _ => mx_no (mk0.rfl' h) (by decide) (Or.inl ⟨i, n, X, hX, by omega, e, Or.inr ⟨hn, rfl, rfl⟩⟩), fun q => absurd rfl q⟩)
  rw [e, e2]
  refine (mx_178 h hi hv).imp ?_
  rintro _ t ⟨j, rfl, hj, ht⟩
  exact ⟨_, rfl, ht.is (Or.inl ⟨i, n, X, hX, by omega, rfl, Or.inl ⟨v, hv, rfl, j, hj, rfl, rfl⟩⟩)⟩
theorem mx_177b {s : rSg} {A : Ab} {im : Option Ab} {v : Nat} (hv : v < 6) {P : Option rv → rSg → Prop} (hP : ∀ c t, dif A.Q v A.Q.2.1.length c → mk0 A im s t → P (some (.inl (nI c))) t) : ∀ (m y c : Nat) (t : rSg), y + m = A.Q.2.1.length → c ≤ y → mk0 A im s t → dif A.Q v y c → g_177_17 (nI v) (nI c) (nI y) t P := by
  intro m
  induction m with
  | zero =>
    intro y c t hy hc k hd
    obtain rfl : y = A.Q.2.1.length := by omega
    have l := k.1.f.2.1
    exact w_177_17 t _ _ _ ⟨fun _ => hP c t hd k, fun q => absurd (by rw [l.1]; exact nI_le (Nat.le_refl _) (by omega)) q⟩
  | succ m ih =>
    intro y c t hy hc k hd
    have l := k.1.f.2.1
    refine w_177_17 t _ _ _ ⟨fun q => ?_, fun _ => ?_⟩
    · rw [l.1] at q; have := (nI_leI (by omega) (by omega)).mp q; omega
    · refine (mx_178 k.1 (by omega) hv).imp ?_
      rintro _ u ⟨j, rfl, hj, hu⟩
      refine ⟨_, rfl, fun q => ?_, fun q => ?_⟩
      · rw [nI_1, show nI c + 0 = nI c from by simp]
        exact ih (y + 1) c u (by omega) (by omega) (k.trans hu) ⟨c, hd, Or.inr ⟨fun z => q (by rw [fsA_uniq hj z]), rfl⟩⟩
      · rw [nI_1, nI_1]
        have e := (nI_eq (by have := hj.1; omega) (by omega)).mp (Classical.not_not.mp q)
        rw [e] at hj
        exact ih (y + 1) (c + 1) u (by omega) (by omega) (k.trans hu) ⟨c, hd, Or.inl ⟨hj, rfl⟩⟩
theorem mx_177 {s : rSg} {A : Ab} {im : Option Ab} (h : MJ s A im) (x : Int32) : EvS rSkel 8 177 [.inr (.inr (some 725)), .inl x] s (mP (sDif A.Q x) A im s) := by
  refine w_177 s x (mx_165 s x (fun v hv e => ⟨_, rfl, fun _ => ?_, fun q => absurd (by decide) q⟩) (fun hn => ⟨_, rfl, fun q => absurd rfl q, fun _ => mx_no (mk0.rfl' h) (by decide) (Or.inr ⟨hn, rfl, rfl⟩)⟩))
  rw [e]
  exact mx_177b hv (fun c t hd hk => hk.is (Or.inl ⟨v, hv, rfl, c, hd, rfl, rfl⟩)) A.Q.2.1.length 0 0 s (by omega) (Nat.le_refl _) (mk0.rfl' h) rfl
