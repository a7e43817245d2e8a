/-! THE REFERENCE draws -/
theorem cn_le (np : Nat) (t : At) : cn np t ≤ np + 1 := by cases t with | inl x => exact Nat.le_succ _ | inr x => exact Nat.le_refl _
def mc (h : Nat) : Nat := if h < 6 then h else 64 + (h - 6)
def me (T : Nat) : At → Nat
  | .inl h => mc h
  | .inr _ => T
theorem mc_lo {h : Nat} (h9 : h < 6) : mc h = h := if_pos h9
theorem mc_hi (h : Nat) : mc (6 + h) = 64 + h := by unfold mc; rw [if_neg (by omega), Nat.add_sub_cancel_left]
theorem mc_lt {h : Nat} (h9 : h < 9) : mc h < 75 := by unfold mc; split <;> omega
theorem m_draw {s : rSg} {z : Int32} (hz : s 725 59 = z) {m : Nat} (h0 : 1 ≤ m) (hm : m < 2 ^ 31) : EvS rSkel 1 203 [.inr (.inr (some 725)), .inl (nI m)] s (fun v t => v = some (.inl (nI (dN (nx z) m))) ∧ (∀ q, q ≠ 725 → t q = s q) ∧ (∀ j, j ≠ 59 → t 725 j = s 725 j) ∧ t 725 59 = nx z) := by
  subst hz
  refine w_203 s (nI m) ⟨fun q => absurd ((nI_eq (a := m) (b := 0) hm (by decide)).mp q) (by omega), ?_, fun q hq => up2_nk _ _ _ hq, fun j hj => up2_nj _ _ _ hj, up2_same _ _ _ _⟩
  exact congrArg (fun x => some (.inl x : rv)) (draw_val (nx (s 725 59)) (by omega) hm)
theorem m_drawHalf {s : rSg} {z : Int32} (hz : s 725 59 = z) : EvS rSkel 2 204 [.inr (.inr (some 725))] s (fun v t => v = some (.inl (nI (mc (hv z)))) ∧ (∀ q, q ≠ 725 → t q = s q) ∧ (∀ j, j ≠ 59 → t 725 j = s 725 j) ∧ t 725 59 = nx (nx z)) := by
  refine w_204 s ((m_draw hz (m := 2) (by decide) (by decide)).imp ?_)
  rintro _ t ⟨rfl, t0, t1, t2⟩
  have l2 := dN_lt (nx z) (m := 2) (by decide)
  have l6 := dN_lt (nx (nx z)) (m := 6) (by decide)
  refine ⟨_, rfl, fun hne => (m_draw t2 (m := 3) (by decide) (by decide)).imp ?_, fun he => (m_draw t2 (m := 6) (by decide) (by decide)).imp ?_⟩
  · rintro _ u ⟨rfl, u0, u1, u2⟩
    have h2 : ¬ dN (nx z) 2 = 0 := fun q => hne (by rw [q]; rfl)
    refine ⟨_, rfl, ?_, fun q hq => by rw [u0 q hq, t0 q hq], fun j hj => by rw [u1 j hj, t1 j hj], u2⟩
    rw [show (64 : Int32) + nI (dN (nx (nx z)) 3) = nI (64 + dN (nx (nx z)) 3) from nI_add 64 _, hv, if_neg h2, mc_hi]
  · rintro _ u ⟨rfl, u0, u1, u2⟩
    have h2 : dN (nx z) 2 = 0 := (nI_eq (b := 0) (by omega) (by decide)).mp (Classical.not_not.mp he)
    refine ⟨_, rfl, ?_, fun q hq => by rw [u0 q hq, t0 q hq], fun j hj => by rw [u1 j hj, t1 j hj], u2⟩
    rw [hv, if_pos h2, mc_lo l6]
/-- a term is drawn: what it leaves -/
def mDr (s t : rSg) (z : Int32) (T : Nat) : Prop := (∀ q, q ≠ 725 → q ≠ 727 → q ≠ 728 → t q = s q) ∧ (∀ j, j ≠ 59 → j ≠ 10 → t 725 j = s 725 j) ∧ t 725 59 = tZ z ∧ t 725 10 = nI (cn T (tD z)) ∧ (∀ j, j < T → t 727 j = s 727 j ∧ t 728 j = s 728 j) ∧ (∀ p q, tD z = .inr (p, q) → t 727 T = nI (mc p) ∧ t 728 T = nI (mc q))
theorem m_drawTerm {s : rSg} {z : Int32} (hz : s 725 59 = z) {T : Nat} (h : s 725 10 = nI T) (hT : T < 6000) : EvS rSkel 3 202 [.inr (.inr (some 725))] s (fun v t => v = some (.inl (nI (me T (tD z)))) ∧ mDr s t z T) := by
  refine w_202 s ((m_draw hz (m := 3) (by decide) (by decide)).imp ?_)
  rintro _ t ⟨rfl, t0, t1, t2⟩
  have l3 := dN_lt (nx z) (m := 3) (by decide)
  have l6 := dN_lt (nx (nx z)) (m := 6) (by decide)
  refine ⟨_, rfl, fun hne => ⟨fun hne1 => (m_drawHalf t2).imp ?_, fun he => (m_draw t2 (m := 3) (by decide) (by decide)).imp ?_⟩, fun he => (m_draw t2 (m := 6) (by decide) (by decide)).imp ?_⟩
  · rintro _ u ⟨rfl, u0, u1, u2⟩
    have e0 : ¬ dN (nx z) 3 = 0 := fun q => hne (by rw [q]; rfl)
    have e1 : ¬ dN (nx z) 3 = 1 := fun q => hne1 (by rw [q]; rfl)
    have eD : tD z = .inr (hv (nx z), hv (nx (nx (nx z)))) := by unfold tD; rw [if_neg e0, if_neg e1]
    have eZ : tZ z = nx (nx (nx (nx (nx z)))) := by unfold tZ; rw [if_neg e0, if_neg e1]
    refine ⟨_, rfl, (m_drawHalf u2).imp ?_⟩
    rintro _ w ⟨rfl, w0, w1, w2⟩
    refine ⟨_, rfl, (ev_m_pair 0 w (t := T) _ _ (by rw [w1 10 (by decide), u1 10 (by decide), t1 10 (by decide)]; exact h) hT).imp ?_⟩
    rintro _ _ ⟨rfl, rfl⟩
    refine ⟨_, rfl, by rw [eD]; rfl, fun q g1 g2 g3 => ?_, fun j g1 g2 => ?_, ?_, ?_, fun j hj => ⟨?_, ?_⟩, fun p q hp => ?_⟩
    · rw [up2_nk _ _ _ g1, up2_nk _ _ _ g3, up2_nk _ _ _ g2, w0 q g1, u0 q g1, t0 q g1]
    · rw [up2_nj _ _ _ g2, up2_nk _ _ _ (by decide), up2_nk _ _ _ (by decide), w1 j g1, u1 j g1, t1 j g1]
    · rw [up2_nj _ _ _ (by decide), up2_nk _ _ _ (by decide), up2_nk _ _ _ (by decide), w2, eZ]
    · rw [up2_same, eD]; rfl
    · rw [up2_nk _ _ _ (by decide), up2_nk _ _ _ (by decide), up2_nj _ _ _ (by omega), w0 727 (by decide), u0 727 (by decide), t0 727 (by decide)]
    · rw [up2_nk _ _ _ (by decide), up2_nj _ _ _ (by omega), up2_nk _ _ _ (by decide), w0 728 (by decide), u0 728 (by decide), t0 728 (by decide)]
    · rw [eD] at hp
      cases hp
      exact ⟨by rw [up2_nk _ _ _ (by decide), up2_nk _ _ _ (by decide), up2_same], by rw [up2_nk _ _ _ (by decide), up2_same]⟩
  · rintro _ u ⟨rfl, u0, u1, u2⟩
    have e0 : ¬ dN (nx z) 3 = 0 := fun q => hne (by rw [q]; rfl)
    have e : dN (nx z) 3 = 1 := (nI_eq (b := 1) (by omega) (by decide)).mp (Classical.not_not.mp he)
    have eD : tD z = .inl (6 + dN (nx (nx z)) 3) := by unfold tD; rw [if_neg e0, if_pos e]
    have eZ : tZ z = nx (nx z) := by unfold tZ; rw [if_neg e0, if_pos e]
    refine ⟨_, rfl, ?_, fun q g1 g2 g3 => by rw [u0 q g1, t0 q g1], fun j g1 g2 => by rw [u1 j g1, t1 j g1], by rw [u2, eZ], ?_, fun j hj => ⟨by rw [u0 727 (by decide), t0 727 (by decide)], by rw [u0 728 (by decide), t0 728 (by decide)]⟩, fun p q hp => by rw [eD] at hp; cases hp⟩
    · rw [eD, show (64 : Int32) + nI (dN (nx (nx z)) 3) = nI (64 + dN (nx (nx z)) 3) from nI_add 64 _]
      show (some (.inl _) : Option rv) = some (.inl (nI (mc _)))
      rw [mc_hi]
    · rw [u1 10 (by decide), t1 10 (by decide), h, eD]; rfl
  · rintro _ u ⟨rfl, u0, u1, u2⟩
    have e : dN (nx z) 3 = 0 := (nI_eq (b := 0) (by omega) (by decide)).mp (Classical.not_not.mp he)
    have eD : tD z = .inl (dN (nx (nx z)) 6) := by unfold tD; rw [if_pos e]
    have eZ : tZ z = nx (nx z) := by unfold tZ; rw [if_pos e]
    refine ⟨_, rfl, ?_, fun q g1 g2 g3 => by rw [u0 q g1, t0 q g1], fun j g1 g2 => by rw [u1 j g1, t1 j g1], by rw [u2, eZ], ?_, fun j hj => ⟨by rw [u0 727 (by decide), t0 727 (by decide)], by rw [u0 728 (by decide), t0 728 (by decide)]⟩, fun p q hp => by rw [eD] at hp; cases hp⟩
    · rw [eD]
      show (some (.inl _) : Option rv) = some (.inl (nI (mc _)))
      rw [mc_lo l6]
    · rw [u1 10 (by decide), t1 10 (by decide), h, eD]; rfl
def mI (s : rSg) (T : Nat) (E : List (At × At)) : Prop := mSt s T ∧ (∀ th, vSol (mV s) (mD T) th → sat E (fun v => th (2 * v))) ∧ (∀ ρ, sat E ρ → ∃ th, vSol (mV s) (mD T) th ∧ ∀ v, v < 64 → th (2 * v) = ρ v)
theorem mV_loc {s t : rSg} {T : Nat} (h1 : ∀ j, j < T → t 727 j = s 727 j ∧ t 728 j = s 728 j) (h2 : t 736 = s 736) : ∀ c, mD T c → mV t c = mV s c := by
  intro c hc
  have hc : c < 2 * T := hc
  unfold mV
  rw [h2, (h1 (c / 2) (by omega)).1, (h1 (c / 2) (by omega)).2]
theorem mI_ext {s t : rSg} {T : Nat} {E : List (At × At)} (h1 : ∀ j, j < T → t 727 j = s 727 j ∧ t 728 j = s 728 j) (h2 : t 736 = s 736) (h : mI s T E) : mI t T E := by
  obtain ⟨⟨hw, rk, hok⟩, hA, hB⟩ := h
  have e := mV_loc h1 h2
  have es : ∀ th, vSol (mV t) (mD T) th ↔ vSol (mV s) (mD T) th := fun th => ⟨fun h c hc => by have := h c hc; rwa [e c hc] at this, fun h c hc => by rw [e c hc]; exact h c hc⟩
  refine ⟨⟨⟨hw.1, hw.2.1, fun j a b => by rw [(h1 j b).1, (h1 j b).2]; exact hw.2.2.1 j a b, fun i hi => by rw [h2]; exact hw.2.2.2 i hi⟩, rk, fun c hc => by rw [e c hc]; exact hok c hc⟩, fun th h => hA th ((es th).mp h), fun ρ hρ => ?_⟩
  obtain ⟨th, a, b⟩ := hB ρ hρ
  exact ⟨th, (es th).mpr a, b⟩
theorem mI_pair {s t : rSg} {T p q : Nat} {E : List (At × At)} (hT : T < 1000) (h1 : ∀ j, j < T → t 727 j = s 727 j ∧ t 728 j = s 728 j) (h2 : t 736 = s 736) (hp : p < 9) (hq : q < 9) (h3 : t 727 T = nI (mc p)) (h4 : t 728 T = nI (mc q)) (h : mI s T E) : mI t (T + 1) E ∧ ∀ c, c / 2 = T → mV t c = some (.inr (.inr (2 * mc p + c % 2, 2 * mc q + c % 2))) := by
  obtain ⟨⟨hw, rk, hok⟩, hA, hB⟩ := mI_ext h1 h2 h
  have hT75 := hw.1
  have mp := mc_lt hp
  have mq := mc_lt hq
  have e9 : ∀ c, c / 2 = T → mV t c = some (.inr (.inr (2 * mc p + c % 2, 2 * mc q + c % 2))) := fun c hc => by
    unfold mV
    rw [if_neg (by omega), if_neg (by omega), hc, h3, h4, nI_clamp (by omega), nI_clamp (by omega)]
  refine ⟨⟨⟨⟨by omega, by omega, fun j a b => ?_, fun i hi => ?_⟩, ⟨fun c => if c / 2 = T then rk (2 * mc p + c % 2) + rk (2 * mc q + c % 2) + 1 else rk c, fun c hc9 => ?_⟩⟩, fun th hth => hA th (fun c hc9 => hth c (by have hc9 : c < 2 * T := hc9; show c < 2 * (T + 1); omega)), fun ρ hρ => ?_⟩, e9⟩
  · by_cases a1 : j < T
    · obtain ⟨x, y, b1, b2, b3, b4⟩ := hw.2.2.1 j a a1
      exact ⟨x, y, b1, b2, by omega, by omega⟩
    · have : j = T := by omega
      subst this
      exact ⟨mc p, mc q, h3, h4, by omega, by omega⟩
  · rcases hw.2.2.2 i hi with a | ⟨c, a, b⟩
    · exact Or.inl a
    · exact Or.inr ⟨c, a, by omega⟩
  · have hc9 : c < 2 * (T + 1) := hc9
    by_cases e : c / 2 = T
    · rw [e9 c e]
      refine ⟨fun e he => (by cases he), fun n hn => (by cases hn), fun a b hab => ?_⟩
      have hab := Prod.mk.inj (Sum.inr.inj (Sum.inr.inj (Option.some.inj hab)))
      obtain ⟨rfl, rfl⟩ := hab
      refine ⟨⟨show _ < 2 * (T + 1) by omega, ?_⟩, ⟨show _ < 2 * (T + 1) by omega, ?_⟩⟩
      · show (if _ then _ else _) < (if _ then _ else _)
        rw [if_neg (by omega), if_pos e]; omega
      · show (if _ then _ else _) < (if _ then _ else _)
        rw [if_neg (by omega), if_pos e]; omega
    · have hc8 : c < 2 * T := by omega
      have h0 := hok c hc8
      have up : ∀ d, mD T d → rk d < rk c → mD (T + 1) d ∧ (if d / 2 = T then rk (2 * mc p + d % 2) + rk (2 * mc q + d % 2) + 1 else rk d) < (if c / 2 = T then rk (2 * mc p + c % 2) + rk (2 * mc q + c % 2) + 1 else rk c) := fun d hd hlt => by
        have hd : d < 2 * T := hd
        refine ⟨show d < 2 * (T + 1) by omega, ?_⟩
        rw [if_neg (by omega), if_neg e]; exact hlt
      exact ⟨fun e he => up e (h0.1 e he).1 (h0.1 e he).2, h0.2.1, fun a b hab => ⟨up a (h0.2.2 a b hab).1.1 (h0.2.2 a b hab).1.2, up b (h0.2.2 a b hab).2.1 (h0.2.2 a b hab).2.2⟩⟩
  · obtain ⟨th, a, b⟩ := hB ρ hρ
    refine ⟨fun c => if c / 2 = T then nd (th (2 * mc p + c % 2)) (th (2 * mc q + c % 2)) else th c, fun c hc9 => ?_, fun v hv => by show (if _ then _ else _) = _; rw [if_neg (by omega)]; exact b v hv⟩
    have hc9 : c < 2 * (T + 1) := hc9
    by_cases e : c / 2 = T
    · rw [e9 c e]
      refine ⟨fun e he => (by cases he), fun n hn => (by cases hn), fun x y hab => ?_⟩
      have hab := Prod.mk.inj (Sum.inr.inj (Sum.inr.inj (Option.some.inj hab)))
      obtain ⟨rfl, rfl⟩ := hab
      show (if _ then _ else _) = nd (if _ then _ else _) (if _ then _ else _)
      rw [if_pos e, if_neg (by omega), if_neg (by omega)]
    · have hc8 : c < 2 * T := by omega
      have h0 := hok c hc8
      have h8 := a c hc8
      refine ⟨fun d he => ?_, fun n hn => ?_, fun x y hab => ?_⟩
      · have hd : d < 2 * T := (h0.1 d he).1
        show (if _ then _ else _) = (if _ then _ else _)
        rw [if_neg e, if_neg (by omega)]; exact h8.1 d he
      · show (if _ then _ else _) = n
        rw [if_neg e]; exact h8.2.1 n hn
      · have hx : x < 2 * T := (h0.2.2 x y hab).1.1
        have hy : y < 2 * T := (h0.2.2 x y hab).2.1
        show (if _ then _ else _) = nd (if _ then _ else _) (if _ then _ else _)
        rw [if_neg e, if_neg (by omega), if_neg (by omega)]; exact h8.2.2 x y hab
theorem m_hval {s : rSg} {T h : Nat} (hT : 75 ≤ T) (h9 : h < 9) {th : Nat → Nat} (hs : vSol (mV s) (mD T) th) : th (2 * mc h) = fv (fun v => th (2 * v)) h := by
  unfold mc fv
  by_cases q : h < 6
  · rw [if_pos q, if_pos q]
  · rw [if_neg q, if_neg q, (hs (2 * (64 + (h - 6))) (show _ < 2 * T by omega)).2.1 (h - 6) (by rw [mV_atom (by omega) (by omega)]; congr 3; omega)]
theorem mI_draw {s t : rSg} {z : Int32} {T : Nat} {E : List (At × At)} (hT : T < 1000) (hd : mDr s t z T) (h : mI s T E) : mI t (cn T (tD z)) E ∧ me T (tD z) < cn T (tD z) ∧ ∀ th, vSol (mV t) (mD (cn T (tD z))) th → th (2 * me T (tD z)) = tv (fun v => th (2 * v)) (tD z) := by
  obtain ⟨d0, d1, d2, d3, d4, d5⟩ := hd
  have ok := tD_ok z
  have e736 : t 736 = s 736 := d0 736 (by decide) (by decide) (by decide)
  have hT75 : 75 ≤ T := h.1.1.1
  generalize tD z = X at *
  cases X with
  | inl x =>
    have ok : x < 9 := ok
    have := mc_lt ok
    exact ⟨mI_ext d4 e736 h, show mc x < T by omega, fun th hth => m_hval hT75 ok hth⟩
  | inr pq =>
    obtain ⟨p, q⟩ := pq
    obtain ⟨ok1, ok2⟩ := ok
    obtain ⟨d6, d7⟩ := d5 p q rfl
    obtain ⟨c1, c2⟩ := mI_pair hT d4 e736 ok1 ok2 d6 d7 h
    refine ⟨c1, Nat.lt_succ_self _, fun th hth => ?_⟩
    have hth : vSol (mV t) (mD (T + 1)) th := hth
    show th (2 * T) = nd (fv _ p) (fv _ q)
    have hv := c2 (2 * T) (by omega)
    rw [show 2 * T % 2 = 0 by omega, Nat.add_zero, Nat.add_zero] at hv
    rw [(hth (2 * T) (show _ < 2 * (T + 1) by omega)).2.2 _ _ hv, m_hval (T := T + 1) (by omega) ok1 hth, m_hval (T := T + 1) (by omega) ok2 hth]
theorem mI_keep {s t : rSg} {z : Int32} {T a : Nat} {X : At} {E : List (At × At)} (hd : mDr s t z T) (h : mI s T E) (ha : a < T) (hv : ∀ th, vSol (mV s) (mD T) th → th (2 * a) = tv (fun v => th (2 * v)) X) : a < cn T (tD z) ∧ ∀ th, vSol (mV t) (mD (cn T (tD z))) th → th (2 * a) = tv (fun v => th (2 * v)) X := by
  obtain ⟨d0, d1, d2, d3, d4, d5⟩ := hd
  have e736 : t 736 = s 736 := d0 736 (by decide) (by decide) (by decide)
  have mono : T ≤ cn T (tD z) := by cases tD z with | inl x => exact Nat.le_refl _ | inr x => exact Nat.le_succ _
  refine ⟨by omega, fun th hth => hv th (fun c hc => ?_)⟩
  have hc9 : c < 2 * T := hc
  have := hth c (show c < 2 * cn T (tD z) by omega)
  rwa [mV_loc d4 e736 c hc] at this
theorem m_eqLot {s : rSg} {T a b tr : Nat} {T1 T2 : At} {E : List (At × At)} (hT : T ≤ 1400) (h : mI s T E) (ha : a < T) (hb : b < T) (va : ∀ th, vSol (mV s) (mD T) th → th (2 * a) = tv (fun v => th (2 * v)) T1) (vb : ∀ th, vSol (mV s) (mD T) th → th (2 * b) = tv (fun v => th (2 * v)) T2) (ht : s 725 16 = nI tr) (htr : tr ≤ 1000) : EvS rSkel 7 144 [.inr (.inr (some 725)), .inl (nI a), .inl (nI b)] s (fun v t => ((v = some (.inl 1) ∧ Sat (E ++ [(T1, T2)]) ∧ mI t T (E ++ [(T1, T2)])) ∨ (v = some (.inl 0) ∧ ¬ Sat (E ++ [(T1, T2)]))) ∧ (∀ q, q ≠ 736 → q ≠ 737 → q ≠ 738 → q ≠ 725 → t q = s q) ∧ (∀ j, j ≠ 16 → j ≠ 17 → t 725 j = s 725 j) ∧ ∃ tr2, tr2 ≤ tr + 128 ∧ t 725 16 = nI tr2) := by
  obtain ⟨hst, hA, hB⟩ := h
  have e2a : (2 : Int32) * nI a = nI (2 * a) := by rw [show (2 : Int32) = nI 2 from rfl, pk_mul]
  have e2b : (2 : Int32) * nI b = nI (2 * b) := by rw [show (2 : Int32) = nI 2 from rfl, pk_mul]
  refine w_144 s (nI a) (nI b) ?_
  rw [e2a, e2b]
  refine (m_unifies hst hT ht (by omega) (show 2 * a < 2 * T by omega) (show 2 * b < 2 * T by omega)).imp ?_
  rintro _ t ⟨x, bs, rfl, c1, ⟨c2, c3, c4, c5, c6, c7, c8⟩, c9⟩
  have := opens_le s
  have rest : (∀ q, q ≠ 736 → q ≠ 737 → q ≠ 738 → q ≠ 725 → t q = s q) ∧ (∀ j, j ≠ 16 → j ≠ 17 → t 725 j = s 725 j) ∧ ∃ tr2, tr2 ≤ tr + 128 ∧ t 725 16 = nI tr2 := ⟨c2.1, c2.2, tr + bs.length, by omega, c3⟩
  rcases c9 with ⟨rfl, h1, _⟩ | ⟨rfl, h0⟩
  · have fA : ∀ th, vSol (mV t) (mD T) th → sat (E ++ [(T1, T2)]) (fun v => th (2 * v)) := fun th hth => by
      have g := (h1 th).mp hth
      exact sat_app.mpr ⟨hA th g.1, by rw [← va th g.1, ← vb th g.1]; exact g.2⟩
    obtain ⟨hw2, rk, hok⟩ := c1
    obtain ⟨th, t1, _⟩ := vSol_ex hok (fun _ => 0)
    refine ⟨_, rfl, bN1, Or.inl ⟨rfl, ⟨_, fA th t1⟩, ⟨hw2, rk, hok⟩, fA, fun ρ hρ => ?_⟩, rest⟩
    obtain ⟨g1, g2⟩ := sat_app.mp hρ
    obtain ⟨th, a1, a2⟩ := hB ρ g1
    refine ⟨th, (h1 th).mpr ⟨a1, ?_⟩, a2⟩
    rw [va th a1, vb th a1, tv_ext (r := ρ) (fun v hv => a2 v (by omega)) T1, tv_ext (r := ρ) (fun v hv => a2 v (by omega)) T2]
    exact g2
  · refine ⟨_, rfl, bN0, Or.inr ⟨rfl, fun ⟨ρ, hρ⟩ => ?_⟩, rest⟩
    obtain ⟨g1, g2⟩ := sat_app.mp hρ
    obtain ⟨th, a1, a2⟩ := hB ρ g1
    refine h0 th a1 ?_
    rw [va th a1, vb th a1, tv_ext (r := ρ) (fun v hv => a2 v (by omega)) T1, tv_ext (r := ρ) (fun v hv => a2 v (by omega)) T2]
    exact g2
