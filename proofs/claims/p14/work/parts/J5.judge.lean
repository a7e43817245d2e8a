/-! JUDGE: both, exactly -/
theorem SH.ns {s : rSg} (h : SH s) : ∃ ns, nmb s ns ∧ nmM s ns := by
  obtain ⟨_, ⟨m, m1, m2, m3, m4⟩, _⟩ := h
  have at9 : ∀ j x, ((List.range m).map (fun i => s 690 i))[j]? = some x → j < m ∧ s 690 j = x := fun j x hj => by
    rw [List.getElem?_map] at hj
    by_cases q : j < m
    · rw [List.getElem?_range q] at hj
      exact ⟨q, Option.some.inj hj⟩
    · rw [List.getElem?_eq_none (by simp; omega)] at hj
      cases hj
  refine ⟨(List.range m).map (fun i => s 690 i), ⟨by simp [m2], by simp [m1], fun j x hj => (at9 j x hj).2⟩, ⟨by simp [m3], by simp [m1], fun j x hj => ?_⟩⟩
  obtain ⟨q1, q2⟩ := at9 j x hj
  rw [← m4 j q1]
  exact q2
def jV (ns tx : List Int32) : Int32 := if alk ns tx = ns.length ∧ alk ns tx = tx.length then -9 else nI (alk ns tx)
def sJud (Q : Qx) (ns : List Int32) (x : Int32) : Int32 → Option Int32 → Prop := wAn Q x (fun _ _ X r o => ∃ tx, isT X.2.2.2 0 tx ∧ wIs (jV ns tx) r o)
theorem cx_105 {s : rSg} {A : Ab} {im : Option Ab} (c : CJ s A im) {ns : List Int32} (hn : nmb s ns) (x : Int32) : EvS rSkel 5 105 [.inr (.inr (some 0)), .inl x] s (fun v t => ∃ r o, sJud A.Q ns x r o ∧ v = some (.inl r) ∧ (∀ q, q < 682 ∨ (685 < q ∧ q ≠ 689 ∧ q ≠ 691) → t q = s q) ∧ t 691 = rfC o (s 691) ∧ (o = none → t 689 1 = nI 0) ∧ (o ≠ none → t 689 1 = s 689 1)) := by
  have f := c.1.f
  have l30 := f.2.2.1.2
  refine w_105 s x (cx_81 f.2.2.1.1 f.2.2.1.2 x (fun i hi e => ⟨_, rfl, fun _ => ?_, fun q => absurd (by decide) q⟩) (fun hn => ⟨_, rfl, fun q => absurd rfl q, fun _ => cx_72r (P := fun v t => ∃ r o, sJud A.Q ns x r o ∧ v = some (.inl r) ∧ (∀ q, q < 682 ∨ (685 < q ∧ q ≠ 689 ∧ q ≠ 691) → t q = s q) ∧ t 691 = rfC o (s 691) ∧ (o = none → t 689 1 = nI 0) ∧ (o ≠ none → t 689 1 = s 689 1)) (by decide) (fun t t1 t2 => ⟨_, some (-1), Or.inr ⟨hn, rfl, rfl⟩, rfl, fun q hq => t1 q (by omega), t2, fun q => (by cases q), fun _ => by rw [t1 689 (by decide)]⟩)⟩))
  obtain ⟨⟨n, X⟩, hX⟩ : ∃ p, A.Q.2.1[i]? = some p := ⟨_, List.getElem?_eq_getElem hi⟩
  rw [e]
  refine cx_40 seaA6 s (by omega) (fun q => ⟨_, rfl, q, (cx_58 (v := 0) c hX (by decide)).imp ?_⟩)
  rintro _ t ⟨rfl, t1, tx, t2, t3⟩
  have hn2 : nmb t ns := hn.ext (t1 689 (by omega)) (t1 690 (by omega))
  have al := alk_le ns tx
  have l3 := hn.2.1
  have l4 := t3.2.1
  have fin : ∀ r, r = jV ns tx → EvS rSkel 1 18 [.inr (.inr (some 689))] t (fun v23 t24 => v23 = none ∧ ∃ r' o, sJud A.Q ns (nI i) r' o ∧ some (.inl r : rv) = some (.inl r') ∧ (∀ q, q < 682 ∨ (685 < q ∧ q ≠ 689 ∧ q ≠ 691) → t24 q = s q) ∧ t24 691 = rfC o (s 691) ∧ (o = none → t24 689 1 = nI 0) ∧ (o ≠ none → t24 689 1 = s 689 1)) := fun r hr => by
    refine w_18 t 689 32 row689 ⟨rfl, r, none, Or.inl ⟨i, n, X, hX, by omega, rfl, tx, t2, hr, rfl⟩, rfl, fun q hq => ?_, ?_, fun _ => ?_, fun q => absurd rfl q⟩
    · rw [up2_nk _ _ _ (by omega)]; exact t1 q (by omega)
    · rw [up2_nk _ _ _ (by decide)]; exact t1 691 (by omega)
    · rw [up2_same]; rfl
  refine ⟨rfl, cx_103 hn2 t3 ⟨_, rfl, w_16 t 689 32 row689 ⟨_, rfl, ?_⟩⟩⟩
  rw [hn2.1, t3.1]
  refine ⟨fun z => fin _ ?_, fun z => ⟨fun z2 => fin _ ?_, fun z2 => fin _ ?_⟩⟩
  · unfold jV
    rw [if_neg (fun w => z (by rw [w.1]))]
  · unfold jV
    rw [if_neg (fun w => z2 (by rw [w.2]))]
  · unfold jV
    rw [if_pos ⟨(nI_eq (by omega) (by omega)).mp (Classical.not_not.mp z), (nI_eq (by omega) (by omega)).mp (Classical.not_not.mp z2)⟩]
theorem mx_198b {t : rSg} {ns tx : List Int32} (hn : ns.length ≤ 32) (h9 : ∀ j x, ns[j]? = some x → t 759 j = x) (ht : tx5 t tx) {P : Option rv → rSg → Prop} (hP : P (some (.inl (jV ns tx))) t) : ∀ (m y : Nat), y + m = ns.length → (∀ k, k < y → k < ns.length ∧ ns[k]? = tx[k]?) → g_198_32 (nI ns.length) (nI y) t P := by
  have al := alk_le ns tx
  have l4 := ht.2.1
  intro m
  induction m with
  | zero =>
    intro y hy he
    have e := alk_at ns tx y he (Or.inl (by omega))
    obtain rfl : y = ns.length := by omega
    refine w_198_32 t _ _ ⟨fun _ => ⟨fun q => ?_, fun q => ?_⟩, fun q => absurd (nI_le (Nat.le_refl _) (by omega)) q⟩
    · rw [ht.1] at q
      have := (nI_leI (by omega) (by omega)).mp q
      unfold jV at hP
      rw [if_pos ⟨e, by omega⟩] at hP
      exact hP
    · rw [ht.1] at q
      unfold jV at hP
      rw [if_neg (fun w => q (nI_le (by omega) (by omega))), e] at hP
      exact hP
  | succ m ih =>
    intro y hy he
    refine w_198_32 t _ _ ⟨fun q => ?_, fun _ => ⟨fun q => ?_, fun q => ?_⟩⟩
    · have := (nI_leI (by omega) (by omega)).mp q; omega
    · rw [ht.1] at q
      have e := alk_at ns tx y he (Or.inr (Or.inl ((nI_leI (by omega) (by omega)).mp q)))
      unfold jV at hP
      rw [if_neg (fun w => by omega), e] at hP
      exact hP
    · rw [ht.1] at q
      have la : y < ns.length := by omega
      have lb : y < tx.length := Nat.lt_of_not_le (fun z => q (nI_le z (by omega)))
      rw [nI_clamp (by omega), h9 y _ (List.getElem?_eq_getElem la), ht.2.2 y _ (List.getElem?_eq_getElem lb), nI_1]
      refine ⟨rIn_nI (by omega) (by decide), rIn_nI (by omega) (by decide), fun e => ih (y + 1) (by omega) (fun k hk => ?_), fun e => ?_⟩
      · by_cases z : k = y
        · subst z; exact ⟨la, by rw [List.getElem?_eq_getElem la, List.getElem?_eq_getElem lb, e]⟩
        · exact he k (by omega)
      · have e2 := alk_at ns tx y he (Or.inr (Or.inr (by rw [List.getElem?_eq_getElem la, List.getElem?_eq_getElem lb]; exact fun z => e (Option.some.inj z).symm)))
        unfold jV at hP
        rw [if_neg (fun w => by omega), e2] at hP
        exact hP
theorem mx_198 {s : rSg} {A : Ab} {im : Option Ab} (h : MJ s A im) {ns : List Int32} (hn : nmM s ns) (x : Int32) : EvS rSkel 6 198 [.inr (.inr (some 725)), .inl x] s (fun v t => ∃ r o, sJud A.Q ns x r o ∧ v = some (.inl r) ∧ mK (kF ++ [726]) (jF ++ [58]) s t ∧ t 726 = rfC o (s 726) ∧ (o = none → t 725 58 = nI 0) ∧ (o ≠ none → t 725 58 = s 725 58)) := by
  have f := h.f
  have l30 := f.2.1.2
  refine w_198 s x (mx_164 f.2.1.1 f.2.1.2 x (fun i hi e => ⟨_, rfl, fun _ => ?_, fun q => absurd (by decide) q⟩) (fun hn => ⟨_, rfl, fun q => absurd rfl q, fun _ => mx_128r (P := fun v t => ∃ r o, sJud A.Q ns x r o ∧ v = some (.inl r) ∧ mK (kF ++ [726]) (jF ++ [58]) s t ∧ t 726 = rfC o (s 726) ∧ (o = none → t 725 58 = nI 0) ∧ (o ≠ none → t 725 58 = s 725 58)) (by decide) (fun t t1 t2 => ⟨_, some (-1), Or.inr ⟨hn, rfl, rfl⟩, rfl, ⟨fun q _ g => t1 q (fun e => g (by simp [e])), fun j _ => by rw [t1 725 (by decide)]⟩, t2, fun q => (by cases q), fun _ => by rw [t1 725 (by decide)]⟩)⟩))
  obtain ⟨⟨n, X⟩, hX⟩ : ∃ p, A.Q.2.1[i]? = some p := ⟨_, List.getElem?_eq_getElem hi⟩
  have k0 : mK [] [58] s (up2 s 725 58 0) := mK.rfl'.upF (by simp)
  have h0 : MJ (up2 s 725 58 0) A im := h.K (k0.mono (by simp) (by simp))
  rw [e]
  refine (mx_166 (v := 0) h0 hX (by decide)).imp ?_
  rintro _ t ⟨rfl, t1, k, tx, t2, t3⟩
  rw [hn.1]
  have kk : mK (kF ++ [726]) (jF ++ [58]) s t := (k0.mono (by simp) (by simp)).trans (k.mono (by simp [kF]) (by simp [jF]))
  refine ⟨rfl, mx_198b hn.2.1 (fun j x hj => by rw [k.1 759 (by decide) (by decide), up2_nk _ _ _ (by decide)]; exact hn.2.2 j x hj) t3 ⟨_, none, Or.inl ⟨i, n, X, hX, by omega, rfl, tx, t2, rfl, rfl⟩, rfl, kk, ?_, fun _ => ?_, fun q => absurd rfl q⟩ ns.length 0 (by omega) (fun k hk => absurd hk (by omega))⟩
  · rw [k.1 726 (by decide) (by decide), up2_nk _ _ _ (by decide)]; rfl
  · rw [k.2 58 (by decide), up2_same]; rfl
theorem sJud_uq (Q : Qx) (ns : List Int32) (x : Int32) : uq (sJud Q ns x) := wAn_uq (fun i n X r o r2 o2 h1 h2 => by
  obtain ⟨tx, a, b⟩ := h1
  obtain ⟨ty, c, d⟩ := h2
  rw [isT_uniq a c] at b
  exact wIs_uq _ _ _ _ _ b d)
theorem oX_judge {k : Nat} {s : rSg} (h : JI (k + 1) s) (x : Int32) : opX s k 105 198 [.inl x] := by
  obtain ⟨A, im, h1, h2, h3, hs, l, h5, h6⟩ := h
  obtain ⟨ns, g1, g2⟩ := hs.ns
  obtain ⟨⟨n, n1, n2, n3, n4⟩, ⟨m, m1, m2, m3, m4⟩, hr⟩ := hs
  refine ((cx_105 h2 g1 x).up (by decide)).imp ?_
  rintro _ t ⟨r, o, w, rfl, c1, c2, c3, c4⟩
  have ct : ∀ q, 725 ≤ q → t q = s q := fun q hq => c1 q (by omega)
  refine ⟨_, rfl, ((mx_198 (h3.cong ct) (ns := ns) ⟨by rw [ct 725 (by omega)]; exact g2.1, g2.2.1, fun j x hj => by rw [ct 759 (by omega)]; exact g2.2.2 j x hj⟩ x).up (by decide)).imp ?_⟩
  rintro _ u ⟨r2, o2, w2, rfl, d1, d2, d3, d4⟩
  obtain ⟨rfl, rfl⟩ := sJud_uq _ _ _ _ _ _ _ w w2
  have cu : mC t u := d1.C (by decide)
  refine ⟨rfl, JI.rows h1 h2 h3 h5 h6 (fun q hq => c1 q (by omega)) cu (d1.mono (by simp [kF, kJ]) (by simp [jF, jI])) ⟨⟨n, n1, by rw [cu 687 (by decide), c1 687 (by omega)]; exact n2, by rw [d1.2 39 (by decide), ct 725 (by omega)]; exact n3, fun i hi => by rw [cu 688 (by decide), c1 688 (by omega), d1.1 752 (by decide) (by decide), ct 752 (by omega)]; exact n4 i hi⟩, ?_, ?_⟩⟩
  · cases o with
    | none => exact ⟨0, by decide, by rw [cu 689 (by decide)]; exact c3 rfl, d3 rfl, fun i hi => by omega⟩
    | some z => exact ⟨m, m1, by rw [cu 689 (by decide), c4 (by simp)]; exact m2, by rw [d4 (by simp), ct 725 (by omega)]; exact m3, fun i hi => by rw [cu 690 (by decide), c1 690 (by omega), d1.1 759 (by decide) (by decide), ct 759 (by omega)]; exact m4 i hi⟩
  · rw [cu 691 (by decide), c2, d2, ct 726 (by omega), hr]
