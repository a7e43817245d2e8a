/-! LOTS: the reference -/
def mc (h : Nat) : Nat := if h < 6 then h else 64 + (h - 6)
def me (T : Nat) : At → Nat
  | .inl h => mc h
  | .inr _ => T
theorem mc_lo {h : Nat} (h9 : h < 6) : mc h = h := if_pos h9
theorem mc_hi (h : Nat) : mc (6 + h) = 64 + h := by unfold mc; rw [if_neg (by omega), Nat.add_sub_cancel_left]
theorem mc_lt {h : Nat} (h9 : h < 9) : mc h < 75 := by unfold mc; split <;> omega
theorem m_draw {s : rSg} {z : Int32} (hz : s 725 59 = z) {m : Nat} (h0 : 1 ≤ m) (hm : m < 2 ^ 31) : EvS rSkel 1 203 [.inr (.inr (some 725)), .inl (nI m)] s (fun v t => v = some (.inl (nI (dN (nx z) m))) ∧ (∀ q, q ≠ 725 → t q = s q) ∧ (∀ j, j ≠ 59 → t 725 j = s 725 j) ∧ t 725 59 = nx z) := by
  subst hz
  refine w_203 s (nI m) ⟨fun q => absurd ((nI_eq (a := m) (b := 0) hm (by decide)).mp q) (by omega), ?_, fun q hq => up2_nk _ _ _ hq, fun j hj => up2_nj _ _ _ hj, up2_same _ _ _ _⟩
  exact congrArg (fun x => some (.inl x : rv)) (draw_val (nx (s 725 59)) (by omega) hm)
theorem m_drawHalf {s : rSg} {z : Int32} (hz : s 725 59 = z) : EvS rSkel 2 204 [.inr (.inr (some 725))] s (fun v t => v = some (.inl (nI (mc (hv z)))) ∧ (∀ q, q ≠ 725 → t q = s q) ∧ (∀ j, j ≠ 59 → t 725 j = s 725 j) ∧ t 725 59 = nx (nx z)) := by
  refine w_204 s ((m_draw hz (m := 2) (by decide) (by decide)).imp ?_)
  rintro _ t ⟨rfl, t0, t1, t2⟩
  have l2 := dN_lt (nx z) (m := 2) (by decide)
  have l6 := dN_lt (nx (nx z)) (m := 6) (by decide)
  refine ⟨_, rfl, fun hne => (m_draw t2 (m := 3) (by decide) (by decide)).imp ?_, fun he => (m_draw t2 (m := 6) (by decide) (by decide)).imp ?_⟩
  · rintro _ u ⟨rfl, u0, u1, u2⟩
    have h2 : ¬ dN (nx z) 2 = 0 := fun q => hne (by rw [q]; rfl)
    refine ⟨_, rfl, ?_, fun q hq => by rw [u0 q hq, t0 q hq], fun j hj => by rw [u1 j hj, t1 j hj], u2⟩
    rw [show (64 : Int32) + nI (dN (nx (nx z)) 3) = nI (64 + dN (nx (nx z)) 3) from nI_add 64 _, hv, if_neg h2, mc_hi]
  · rintro _ u ⟨rfl, u0, u1, u2⟩
    have h2 : dN (nx z) 2 = 0 := (nI_eq (b := 0) (by omega) (by decide)).mp (Classical.not_not.mp he)
    refine ⟨_, rfl, ?_, fun q hq => by rw [u0 q hq, t0 q hq], fun j hj => by rw [u1 j hj, t1 j hj], u2⟩
    rw [hv, if_pos h2, mc_lo l6]
/-- a term is drawn: what it leaves -/
def mDr (s t : rSg) (z : Int32) (T : Nat) : Prop := (∀ q, q ≠ 725 → q ≠ 727 → q ≠ 728 → t q = s q) ∧ (∀ j, j ≠ 59 → j ≠ 10 → t 725 j = s 725 j) ∧ t 725 59 = tZ z ∧ t 725 10 = nI (cn T (tD z)) ∧ (∀ j, j < T → t 727 j = s 727 j ∧ t 728 j = s 728 j) ∧ (∀ p q, tD z = .inr (p, q) → t 727 T = nI (mc p) ∧ t 728 T = nI (mc q))
theorem m_drawTerm {s : rSg} {z : Int32} (hz : s 725 59 = z) {T : Nat} (h : s 725 10 = nI T) (hT : T < 6000) : EvS rSkel 3 202 [.inr (.inr (some 725))] s (fun v t => v = some (.inl (nI (me T (tD z)))) ∧ mDr s t z T) := by
  refine w_202 s ((m_draw hz (m := 3) (by decide) (by decide)).imp ?_)
  rintro _ t ⟨rfl, t0, t1, t2⟩
  have l3 := dN_lt (nx z) (m := 3) (by decide)
  have l6 := dN_lt (nx (nx z)) (m := 6) (by decide)
  refine ⟨_, rfl, fun hne => ⟨fun hne1 => (m_drawHalf t2).imp ?_, fun he => (m_draw t2 (m := 3) (by decide) (by decide)).imp ?_⟩, fun he => (m_draw t2 (m := 6) (by decide) (by decide)).imp ?_⟩
  · rintro _ u ⟨rfl, u0, u1, u2⟩
    have e0 : ¬ dN (nx z) 3 = 0 := fun q => hne (by rw [q]; rfl)
    have e1 : ¬ dN (nx z) 3 = 1 := fun q => hne1 (by rw [q]; rfl)
    have eD : tD z = .inr (hv (nx z), hv (nx (nx (nx z)))) := by unfold tD; rw [if_neg e0, if_neg e1]
    have eZ : tZ z = nx (nx (nx (nx (nx z)))) := by unfold tZ; rw [if_neg e0, if_neg e1]
    refine ⟨_, rfl, (m_drawHalf u2).imp ?_⟩
    rintro _ w ⟨rfl, w0, w1, w2⟩
    refine ⟨_, rfl, (ev_m_pair 0 w (t := T) _ _ (by rw [w1 10 (by decide), u1 10 (by decide), t1 10 (by decide)]; exact h) hT).imp ?_⟩
    rintro _ _ ⟨rfl, rfl⟩
    refine ⟨_, rfl, by rw [eD]; rfl, fun q g1 g2 g3 => ?_, fun j g1 g2 => ?_, ?_, ?_, fun j hj => ⟨?_, ?_⟩, fun p q hp => ?_⟩
    · rw [up2_nk _ _ _ g1, up2_nk _ _ _ g3, up2_nk _ _ _ g2, w0 q g1, u0 q g1, t0 q g1]
    · rw [up2_nj _ _ _ g2, up2_nk _ _ _ (by decide), up2_nk _ _ _ (by decide), w1 j g1, u1 j g1, t1 j g1]
    · rw [up2_nj _ _ _ (by decide), up2_nk _ _ _ (by decide), up2_nk _ _ _ (by decide), w2, eZ]
    · rw [up2_same, eD]; rfl
    · rw [up2_nk _ _ _ (by decide), up2_nk _ _ _ (by decide), up2_nj _ _ _ (by omega), w0 727 (by decide), u0 727 (by decide), t0 727 (by decide)]
    · rw [up2_nk _ _ _ (by decide), up2_nj _ _ _ (by omega), up2_nk _ _ _ (by decide), w0 728 (by decide), u0 728 (by decide), t0 728 (by decide)]
    · rw [eD] at hp
      cases hp
      exact ⟨by rw [up2_nk _ _ _ (by decide), up2_nk _ _ _ (by decide), up2_same], by rw [up2_nk _ _ _ (by decide), up2_same]⟩
  · rintro _ u ⟨rfl, u0, u1, u2⟩
    have e0 : ¬ dN (nx z) 3 = 0 := fun q => hne (by rw [q]; rfl)
    have e : dN (nx z) 3 = 1 := (nI_eq (b := 1) (by omega) (by decide)).mp (Classical.not_not.mp he)
    have eD : tD z = .inl (6 + dN (nx (nx z)) 3) := by unfold tD; rw [if_neg e0, if_pos e]
    have eZ : tZ z = nx (nx z) := by unfold tZ; rw [if_neg e0, if_pos e]
    refine ⟨_, rfl, ?_, fun q g1 g2 g3 => by rw [u0 q g1, t0 q g1], fun j g1 g2 => by rw [u1 j g1, t1 j g1], by rw [u2, eZ], ?_, fun j hj => ⟨by rw [u0 727 (by decide), t0 727 (by decide)], by rw [u0 728 (by decide), t0 728 (by decide)]⟩, fun p q hp => by rw [eD] at hp; cases hp⟩
    · rw [eD, show (64 : Int32) + nI (dN (nx (nx z)) 3) = nI (64 + dN (nx (nx z)) 3) from nI_add 64 _]
      show (some (.inl _) : Option rv) = some (.inl (nI (mc _)))
      rw [mc_hi]
    · rw [u1 10 (by decide), t1 10 (by decide), h, eD]; rfl
  · rintro _ u ⟨rfl, u0, u1, u2⟩
    have e : dN (nx z) 3 = 0 := (nI_eq (b := 0) (by omega) (by decide)).mp (Classical.not_not.mp he)
    have eD : tD z = .inl (dN (nx (nx z)) 6) := by unfold tD; rw [if_pos e]
    have eZ : tZ z = nx (nx z) := by unfold tZ; rw [if_pos e]
    refine ⟨_, rfl, ?_, fun q g1 g2 g3 => by rw [u0 q g1, t0 q g1], fun j g1 g2 => by rw [u1 j g1, t1 j g1], by rw [u2, eZ], ?_, fun j hj => ⟨by rw [u0 727 (by decide), t0 727 (by decide)], by rw [u0 728 (by decide), t0 728 (by decide)]⟩, fun p q hp => by rw [eD] at hp; cases hp⟩
    · rw [eD]
      show (some (.inl _) : Option rv) = some (.inl (nI (mc _)))
      rw [mc_lo l6]
    · rw [u1 10 (by decide), t1 10 (by decide), h, eD]; rfl
def mI (s : rSg) (T : Nat) (E : List (At × At)) : Prop := mSt s T ∧ (∀ th, vSol (mV s) (mD T) th → sat E (fun v => th (2 * v))) ∧ (∀ ρ, sat E ρ → ∃ th, vSol (mV s) (mD T) th ∧ ∀ v, v < 64 → th (2 * v) = ρ v)
theorem mV_loc {s t : rSg} {T : Nat} (h1 : ∀ j, j < T → t 727 j = s 727 j ∧ t 728 j = s 728 j) (h2 : t 736 = s 736) : ∀ c, mD T c → mV t c = mV s c := by
  intro c hc
  have hc : c < 2 * T := hc
  unfold mV
  rw [h2, (h1 (c / 2) (by omega)).1, (h1 (c / 2) (by omega)).2]
theorem mI_ext {s t : rSg} {T : Nat} {E : List (At × At)} (h1 : ∀ j, j < T → t 727 j = s 727 j ∧ t 728 j = s 728 j) (h2 : t 736 = s 736) (h : mI s T E) : mI t T E := by
  obtain ⟨⟨hw, rk, hok⟩, hA, hB⟩ := h
  have e := mV_loc h1 h2
  have es : ∀ th, vSol (mV t) (mD T) th ↔ vSol (mV s) (mD T) th := fun th => ⟨fun h c hc => by have := h c hc; rwa [e c hc] at this, fun h c hc => by rw [e c hc]; exact h c hc⟩
  refine ⟨⟨⟨hw.1, hw.2.1, fun j a b => by rw [(h1 j b).1, (h1 j b).2]; exact hw.2.2.1 j a b, fun i hi => by rw [h2]; exact hw.2.2.2 i hi⟩, rk, fun c hc => by rw [e c hc]; exact hok c hc⟩, fun th h => hA th ((es th).mp h), fun ρ hρ => ?_⟩
  obtain ⟨th, a, b⟩ := hB ρ hρ
  exact ⟨th, (es th).mpr a, b⟩
theorem mI_pair {s t : rSg} {T p q : Nat} {E : List (At × At)} (hT : T < 1000) (h1 : ∀ j, j < T → t 727 j = s 727 j ∧ t 728 j = s 728 j) (h2 : t 736 = s 736) (hp : p < 9) (hq : q < 9) (h3 : t 727 T = nI (mc p)) (h4 : t 728 T = nI (mc q)) (h : mI s T E) : mI t (T + 1) E ∧ ∀ c, c / 2 = T → mV t c = some (.inr (.inr (2 * mc p + c % 2, 2 * mc q + c % 2))) := by
  obtain ⟨⟨hw, rk, hok⟩, hA, hB⟩ := mI_ext h1 h2 h
  have hT75 := hw.1
  have mp := mc_lt hp
  have mq := mc_lt hq
  have e9 : ∀ c, c / 2 = T → mV t c = some (.inr (.inr (2 * mc p + c % 2, 2 * mc q + c % 2))) := fun c hc => by
    unfold mV
    rw [if_neg (by omega), if_neg (by omega), hc, h3, h4, nI_clamp (by omega), nI_clamp (by omega)]
  refine ⟨⟨⟨⟨by omega, by omega, fun j a b => ?_, fun i hi => ?_⟩, ⟨fun c => if c / 2 = T then rk (2 * mc p + c % 2) + rk (2 * mc q + c % 2) + 1 else rk c, fun c hc9 => ?_⟩⟩, fun th hth => hA th (fun c hc9 => hth c (by have hc9 : c < 2 * T := hc9; show c < 2 * (T + 1); omega)), fun ρ hρ => ?_⟩, e9⟩
  · by_cases a1 : j < T
    · obtain ⟨x, y, b1, b2, b3, b4⟩ := hw.2.2.1 j a a1
      exact ⟨x, y, b1, b2, by omega, by omega⟩
    · have : j = T := by omega
      subst this
      exact ⟨mc p, mc q, h3, h4, by omega, by omega⟩
  · rcases hw.2.2.2 i hi with a | ⟨c, a, b⟩
    · exact Or.inl a
    · exact Or.inr ⟨c, a, by omega⟩
  · have hc9 : c < 2 * (T + 1) := hc9
    by_cases e : c / 2 = T
    · rw [e9 c e]
      refine ⟨fun e he => (by cases he), fun n hn => (by cases hn), fun a b hab => ?_⟩
      have hab := Prod.mk.inj (Sum.inr.inj (Sum.inr.inj (Option.some.inj hab)))
      obtain ⟨rfl, rfl⟩ := hab
      refine ⟨⟨show _ < 2 * (T + 1) by omega, ?_⟩, ⟨show _ < 2 * (T + 1) by omega, ?_⟩⟩
      · show (if _ then _ else _) < (if _ then _ else _)
        rw [if_neg (by omega), if_pos e]; omega
      · show (if _ then _ else _) < (if _ then _ else _)
        rw [if_neg (by omega), if_pos e]; omega
    · have hc8 : c < 2 * T := by omega
      have h0 := hok c hc8
      have up : ∀ d, mD T d → rk d < rk c → mD (T + 1) d ∧ (if d / 2 = T then rk (2 * mc p + d % 2) + rk (2 * mc q + d % 2) + 1 else rk d) < (if c / 2 = T then rk (2 * mc p + c % 2) + rk (2 * mc q + c % 2) + 1 else rk c) := fun d hd hlt => by
        have hd : d < 2 * T := hd
        refine ⟨show d < 2 * (T + 1) by omega, ?_⟩
        rw [if_neg (by omega), if_neg e]; exact hlt
      exact ⟨fun e he => up e (h0.1 e he).1 (h0.1 e he).2, h0.2.1, fun a b hab => ⟨up a (h0.2.2 a b hab).1.1 (h0.2.2 a b hab).1.2, up b (h0.2.2 a b hab).2.1 (h0.2.2 a b hab).2.2⟩⟩
  · obtain ⟨th, a, b⟩ := hB ρ hρ
    refine ⟨fun c => if c / 2 = T then nd (th (2 * mc p + c % 2)) (th (2 * mc q + c % 2)) else th c, fun c hc9 => ?_, fun v hv => by show (if _ then _ else _) = _; rw [if_neg (by omega)]; exact b v hv⟩
    have hc9 : c < 2 * (T + 1) := hc9
    by_cases e : c / 2 = T
    · rw [e9 c e]
      refine ⟨fun e he => (by cases he), fun n hn => (by cases hn), fun x y hab => ?_⟩
      have hab := Prod.mk.inj (Sum.inr.inj (Sum.inr.inj (Option.some.inj hab)))
      obtain ⟨rfl, rfl⟩ := hab
      show (if _ then _ else _) = nd (if _ then _ else _) (if _ then _ else _)
      rw [if_pos e, if_neg (by omega), if_neg (by omega)]
    · have hc8 : c < 2 * T := by omega
      have h0 := hok c hc8
      have h8 := a c hc8
      refine ⟨fun d he => ?_, fun n hn => ?_, fun x y hab => ?_⟩
      · have hd : d < 2 * T := (h0.1 d he).1
        show (if _ then _ else _) = (if _ then _ else _)
        rw [if_neg e, if_neg (by omega)]; exact h8.1 d he
      · show (if _ then _ else _) = n
        rw [if_neg e]; exact h8.2.1 n hn
      · have hx : x < 2 * T := (h0.2.2 x y hab).1.1
        have hy : y < 2 * T := (h0.2.2 x y hab).2.1
        show (if _ then _ else _) = nd (if _ then _ else _) (if _ then _ else _)
        rw [if_neg e, if_neg (by omega), if_neg (by omega)]; exact h8.2.2 x y hab
theorem m_hval {s : rSg} {T h : Nat} (hT : 75 ≤ T) (h9 : h < 9) {th : Nat → Nat} (hs : vSol (mV s) (mD T) th) : th (2 * mc h) = fv (fun v => th (2 * v)) h := by
  unfold mc fv
  by_cases q : h < 6
  · rw [if_pos q, if_pos q]
  · rw [if_neg q, if_neg q, (hs (2 * (64 + (h - 6))) (show _ < 2 * T by omega)).2.1 (h - 6) (by rw [mV_atom (by omega) (by omega)]; congr 3; omega)]
theorem mI_draw {s t : rSg} {z : Int32} {T : Nat} {E : List (At × At)} (hT : T < 1000) (hd : mDr s t z T) (h : mI s T E) : mI t (cn T (tD z)) E ∧ me T (tD z) < cn T (tD z) ∧ ∀ th, vSol (mV t) (mD (cn T (tD z))) th → th (2 * me T (tD z)) = tv (fun v => th (2 * v)) (tD z) := by
  obtain ⟨d0, d1, d2, d3, d4, d5⟩ := hd
  have ok := tD_ok z
  have e736 : t 736 = s 736 := d0 736 (by decide) (by decide) (by decide)
  have hT75 : 75 ≤ T := h.1.1.1
  generalize tD z = X at *
  cases X with
  | inl x =>
    have ok : x < 9 := ok
    have := mc_lt ok
    exact ⟨mI_ext d4 e736 h, show mc x < T by omega, fun th hth => m_hval hT75 ok hth⟩
  | inr pq =>
    obtain ⟨p, q⟩ := pq
    obtain ⟨ok1, ok2⟩ := ok
    obtain ⟨d6, d7⟩ := d5 p q rfl
    obtain ⟨c1, c2⟩ := mI_pair hT d4 e736 ok1 ok2 d6 d7 h
    refine ⟨c1, Nat.lt_succ_self _, fun th hth => ?_⟩
    have hth : vSol (mV t) (mD (T + 1)) th := hth
    show th (2 * T) = nd (fv _ p) (fv _ q)
    have hv := c2 (2 * T) (by omega)
    rw [show 2 * T % 2 = 0 by omega, Nat.add_zero, Nat.add_zero] at hv
    rw [(hth (2 * T) (show _ < 2 * (T + 1) by omega)).2.2 _ _ hv, m_hval (T := T + 1) (by omega) ok1 hth, m_hval (T := T + 1) (by omega) ok2 hth]
theorem mI_keep {s t : rSg} {z : Int32} {T a : Nat} {X : At} {E : List (At × At)} (hd : mDr s t z T) (h : mI s T E) (ha : a < T) (hv : ∀ th, vSol (mV s) (mD T) th → th (2 * a) = tv (fun v => th (2 * v)) X) : a < cn T (tD z) ∧ ∀ th, vSol (mV t) (mD (cn T (tD z))) th → th (2 * a) = tv (fun v => th (2 * v)) X := by
  obtain ⟨d0, d1, d2, d3, d4, d5⟩ := hd
  have e736 : t 736 = s 736 := d0 736 (by decide) (by decide) (by decide)
  have mono : T ≤ cn T (tD z) := by cases tD z with | inl x => exact Nat.le_refl _ | inr x => exact Nat.le_succ _
  refine ⟨by omega, fun th hth => hv th (fun c hc => ?_)⟩
  have hc9 : c < 2 * T := hc
  have := hth c (show c < 2 * cn T (tD z) by omega)
  rwa [mV_loc d4 e736 c hc] at this
theorem m_eqLot {s : rSg} {T a b tr : Nat} {T1 T2 : At} {E : List (At × At)} (hT : T ≤ 1400) (h : mI s T E) (ha : a < T) (hb : b < T) (va : ∀ th, vSol (mV s) (mD T) th → th (2 * a) = tv (fun v => th (2 * v)) T1) (vb : ∀ th, vSol (mV s) (mD T) th → th (2 * b) = tv (fun v => th (2 * v)) T2) (ht : s 725 16 = nI tr) (htr : tr ≤ 1000) : EvS rSkel 7 144 [.inr (.inr (some 725)), .inl (nI a), .inl (nI b)] s (fun v t => ((v = some (.inl 1) ∧ Sat (E ++ [(T1, T2)]) ∧ mI t T (E ++ [(T1, T2)])) ∨ (v = some (.inl 0) ∧ ¬ Sat (E ++ [(T1, T2)]))) ∧ (∀ q, q ≠ 736 → q ≠ 737 → q ≠ 738 → q ≠ 725 → t q = s q) ∧ (∀ j, j ≠ 16 → j ≠ 17 → t 725 j = s 725 j) ∧ ∃ tr2, tr2 ≤ tr + 128 ∧ t 725 16 = nI tr2) := by
  obtain ⟨hst, hA, hB⟩ := h
  have e2a : (2 : Int32) * nI a = nI (2 * a) := by rw [show (2 : Int32) = nI 2 from rfl, pk_mul]
  have e2b : (2 : Int32) * nI b = nI (2 * b) := by rw [show (2 : Int32) = nI 2 from rfl, pk_mul]
  refine w_144 s (nI a) (nI b) ?_
  rw [e2a, e2b]
  refine (m_unifies hst hT ht (by omega) (show 2 * a < 2 * T by omega) (show 2 * b < 2 * T by omega)).imp ?_
  rintro _ t ⟨x, bs, rfl, c1, ⟨c2, c3, c4, c5, c6, c7, c8⟩, c9⟩
  have := opens_le s
  have rest : (∀ q, q ≠ 736 → q ≠ 737 → q ≠ 738 → q ≠ 725 → t q = s q) ∧ (∀ j, j ≠ 16 → j ≠ 17 → t 725 j = s 725 j) ∧ ∃ tr2, tr2 ≤ tr + 128 ∧ t 725 16 = nI tr2 := ⟨c2.1, c2.2, tr + bs.length, by omega, c3⟩
  rcases c9 with ⟨rfl, h1, _⟩ | ⟨rfl, h0⟩
  · have fA : ∀ th, vSol (mV t) (mD T) th → sat (E ++ [(T1, T2)]) (fun v => th (2 * v)) := fun th hth => by
      have g := (h1 th).mp hth
      exact sat_app.mpr ⟨hA th g.1, by rw [← va th g.1, ← vb th g.1]; exact g.2⟩
    obtain ⟨hw2, rk, hok⟩ := c1
    obtain ⟨th, t1, _⟩ := vSol_ex hok (fun _ => 0)
    refine ⟨_, rfl, bN1, Or.inl ⟨rfl, ⟨_, fA th t1⟩, ⟨hw2, rk, hok⟩, fA, fun ρ hρ => ?_⟩, rest⟩
    obtain ⟨g1, g2⟩ := sat_app.mp hρ
    obtain ⟨th, a1, a2⟩ := hB ρ g1
    refine ⟨th, (h1 th).mpr ⟨a1, ?_⟩, a2⟩
    rw [va th a1, vb th a1, tv_ext (r := ρ) (fun v hv => a2 v (by omega)) T1, tv_ext (r := ρ) (fun v hv => a2 v (by omega)) T2]
    exact g2
  · refine ⟨_, rfl, bN0, Or.inr ⟨rfl, fun ⟨ρ, hρ⟩ => ?_⟩, rest⟩
    obtain ⟨g1, g2⟩ := sat_app.mp hρ
    obtain ⟨th, a1, a2⟩ := hB ρ g1
    refine h0 th a1 ?_
    rw [va th a1, vb th a1, tv_ext (r := ρ) (fun v hv => a2 v (by omega)) T1, tv_ext (r := ρ) (fun v hv => a2 v (by omega)) T2]
    exact g2
theorem m_lot_loop {z0 : Int32} {c54 : Int32} {P : Option rv → rSg → Prop} (hP : ∀ (t : rSg) (T : Nat), t 725 59 = zn 4 z0 → t 725 54 = c54 → (Sat (lE 4 z0) → mI t T (lE 4 z0)) → P (some (.inl (iteP (Sat (lE 4 z0)) 1 0))) t) :
    ∀ (n k : Nat) (y : Int32) (s : rSg) (T tr : Nat), k + n = 4 → s 725 59 = zn k z0 → s 725 54 = c54 → s 725 10 = nI T → T ≤ 75 + 2 * k → s 725 16 = nI tr → tr ≤ 128 * k → ((y = 1 ∧ Sat (lE k z0) ∧ mI s T (lE k z0)) ∨ (y = 0 ∧ ¬ Sat (lE k z0))) → g_201_8 y (nI k) s P := by
  intro n
  induction n with
  | zero =>
    intro k y s T tr hk hz h54 h10 hT h16 htr hy
    obtain rfl : k = 4 := by omega
    refine w_201_8 s y (nI 4) ⟨fun _ => ?_, fun q => absurd (by decide) q⟩
    rcases hy with ⟨rfl, h1, h2⟩ | ⟨rfl, h1⟩
    · have := hP s T hz h54 (fun _ => h2)
      rw [iteP_pos h1] at this
      exact ⟨bN1, this⟩
    · have := hP s T hz h54 (fun q => absurd q h1)
      rw [iteP_neg h1] at this
      exact ⟨bN0, this⟩
  | succ n ih =>
    intro k y s T tr hk hz h54 h10 hT h16 htr hy
    refine w_201_8 s y (nI k) ⟨fun q => absurd ((nI_leI (a := 4) (by decide) (by omega)).mp q) (by omega), fun _ => (m_drawTerm hz h10 (by omega)).imp ?_⟩
    rintro _ t ⟨rfl, hd1⟩
    have n1 := cn_le T (tD (zn k z0))
    refine ⟨_, rfl, (m_drawTerm hd1.2.2.1 hd1.2.2.2.1 (by omega)).imp ?_⟩
    rintro _ u ⟨rfl, hd2⟩
    generalize enp1 : cn T (tD (zn k z0)) = T1 at *
    have n2 := cn_le T1 (tD (tZ (zn k z0)))
    have u54 : u 725 54 = c54 := by rw [hd2.2.1 54 (by decide) (by decide), hd1.2.1 54 (by decide) (by decide)]; exact h54
    have u16 : u 725 16 = nI tr := by rw [hd2.2.1 16 (by decide) (by decide), hd1.2.1 16 (by decide) (by decide)]; exact h16
    rw [nI_1]
    refine ⟨_, rfl, fun hy0 => ?_, fun hy1 => ?_⟩
    · have h1 : ¬ Sat (lE k z0) := by
        rcases hy with ⟨e, _⟩ | ⟨_, h⟩
        · rw [e] at hy0; exact absurd hy0 (by decide)
        · exact h
      exact ih (k + 1) 0 u _ tr (by omega) hd2.2.2.1 u54 hd2.2.2.2.1 (by omega) u16 (by omega) (Or.inr ⟨rfl, lE_mono h1⟩)
    · obtain ⟨h1, h2⟩ : Sat (lE k z0) ∧ mI s T (lE k z0) := by
        rcases hy with ⟨_, h⟩ | ⟨e, _⟩
        · exact h
        · exact absurd e hy1
      obtain ⟨i1, D1, v1⟩ := mI_draw (by omega) hd1 h2
      rw [enp1] at i1 D1 v1
      obtain ⟨i2, D2, v2⟩ := mI_draw (by omega) hd2 i1
      obtain ⟨D3, v3⟩ := mI_keep hd2 i1 D1 v1
      refine (m_eqLot (by omega) i2 D3 D2 v3 v2 u16 (by omega)).imp ?_
      rintro _ w ⟨hr, w0, w1, tr2, wtr, w16⟩
      have w59 : w 725 59 = zn (k + 1) z0 := by rw [w1 59 (by decide) (by decide)]; exact hd2.2.2.1
      have w10 : w 725 10 = nI (cn T1 (tD (tZ (zn k z0)))) := by rw [w1 10 (by decide) (by decide)]; exact hd2.2.2.2.1
      have w54 : w 725 54 = c54 := by rw [w1 54 (by decide) (by decide)]; exact u54
      rcases hr with ⟨rfl, r1, r2⟩ | ⟨rfl, r1⟩
      · exact ⟨_, rfl, fun q => absurd q (by decide), fun _ => ih (k + 1) 1 w _ tr2 (by omega) w59 w54 w10 (by omega) w16 (by omega) (Or.inl ⟨rfl, r1, r2⟩)⟩
      · exact ⟨_, rfl, fun _ => ih (k + 1) 0 w _ tr2 (by omega) w59 w54 w10 (by omega) w16 (by omega) (Or.inr ⟨rfl, r1⟩), fun q => absurd rfl q⟩
theorem m_lot {s : rSg} {z : Int32} (hz : s 725 59 = z) (h10 : s 725 10 = nI 75) : EvS rSkel 8 201 [.inr (.inr (some 725))] s (fun v t => v = some (.inl (iteP (Sat (lE 4 z)) 1 0)) ∧ t 725 59 = zn 4 z ∧ t 725 54 = s 725 54 ∧ (Sat (lE 4 z) → ∃ T, mI t T (lE 4 z))) := by
  refine w_201 s ((ev_m_empties 0 s).imp ?_)
  rintro _ _ ⟨rfl, rfl⟩
  have e1 : ∀ j, j ≠ 16 → mEmp s 725 j = s 725 j := fun j g => by unfold mEmp; rw [up2_nj _ _ _ g, upC_ne _ _ (by decide)]
  have e16 : mEmp s 725 16 = nI 0 := by unfold mEmp; rw [up2_same]; rfl
  have em : ∀ j, j < 128 → mEmp s 736 j = -9 := fun j hj => by
    unfold mEmp
    rw [up2_nk _ _ _ (by decide), upC_same]
    unfold fillF
    rw [if_pos (by omega)]
  obtain ⟨hst, hok⟩ := mOK0 em
  have i0 : mI (mEmp s) 75 [] := by
    refine ⟨hst, fun th _ e he => (by cases he), fun ρ _ => ?_⟩
    obtain ⟨th, a1, a2, _⟩ := vSol_ex hok (fun c => ρ (c / 2))
    refine ⟨th, a1, fun v hv => ?_⟩
    have ho : mV (mEmp s) (2 * v) = none := by
      rcases mV_var hst.1 (c := 2 * v) (by omega) with ⟨_, q⟩ | ⟨e, _, q, _⟩
      · exact q
      · rw [em _ (opn_lt (by omega))] at q
        exact absurd q.symm (nI_ne9 (by omega))
    rw [a2 _ ho, show 2 * v / 2 = v by omega]
  exact ⟨rfl, m_lot_loop (c54 := s 725 54) (fun t T g1 g2 g3 => ⟨rfl, g1, g2, fun hs => ⟨T, g3 hs⟩⟩) 4 0 1 (mEmp s) 75 0 rfl (by rw [e1 59 (by decide)]; exact hz) (e1 54 (by decide)) (by rw [e1 10 (by decide)]; exact h10) (by decide) e16 (by decide) (Or.inl ⟨rfl, ⟨fun _ => 0, fun e he => (by cases he)⟩, i0⟩)⟩
theorem m_closed_loop {s : rSg} {T : Nat} {E : List (At × At)} (h : mI s T E) {P : Option rv → rSg → Prop} {r : Int32} (hP : P (some (.inl r)) s) : ∀ (n v : Nat) (a : Int32), v + n = 6 → cN E n v a = r → g_205_4 a (nI v) s P := by
  obtain ⟨⟨hw, rk, hok⟩, hA, hB⟩ := h
  have hT := hw.2.1
  have hT75 := hw.1
  intro n
  induction n with
  | zero =>
    intro v a hv hr
    obtain rfl : v = 6 := by omega
    refine w_205_4 s a (nI 6) ⟨fun _ => ?_, fun q => absurd (by decide) q⟩
    rw [show a = r from hr]
    exact hP
  | succ n ih =>
    intro v a hv hr
    refine w_205_4 s a (nI v) ⟨fun q => absurd ((nI_leI (a := 6) (by decide) (by omega)).mp q) (by omega), fun _ => ?_⟩
    rw [show (2 : Int32) * nI v = nI (2 * v) by rw [show (2 : Int32) = nI 2 from rfl, pk_mul]]
    refine (mw_walk hw hok (c := 2 * v) (by omega)).imp ?_
    rintro _ s ⟨rfl, c2, rfl, D2, r2, w2⟩
    refine ⟨_, rfl, (m_isOpen s (by omega)).imp ?_⟩
    rintro _ s ⟨rfl, rfl⟩
    rw [nI_1]
    by_cases q : c2 / 2 < 64
    · rw [if_pos q]
      have hop : ¬ closedP E v := by
        intro hcl
        have ho : mV s c2 = none := by
          rcases mV_var hw q with ⟨_, q⟩ | ⟨e, _, _, q⟩
          · exact q
          · exact absurd q (r2 e)
        obtain ⟨th, a1, a2⟩ := vSol_any hok ho 11
        exact hcl ⟨_, hA th a1, by show th (2 * v) = 11; rw [w2.1 th a1]; exact a2⟩
      refine ⟨_, rfl, fun q => absurd q (by decide), fun _ => ?_⟩
      rw [Int32.add_zero]
      refine ih (v + 1) a (by omega) ?_
      rw [← hr]
      show _ = cN E n (v + 1) (iteP (closedP E v) (a + 1) a)
      rw [iteP_neg hop]
    · rw [if_neg q]
      have hcl : closedP E v := by
        rintro ⟨ρ, h1, h2⟩
        obtain ⟨th, a1, a2⟩ := hB ρ h1
        have e : th c2 = 11 := by rw [← w2.1 th a1, a2 v (by omega)]; exact h2
        by_cases q2 : c2 / 2 < 75
        · have := (a1 c2 D2).2.1 _ (mV_atom (by omega) q2)
          omega
        · obtain ⟨x, y, _, _, _, _, hp⟩ := mV_pair hw (c := c2) (by omega) D2
          have := (a1 c2 D2).2.2 _ _ hp
          have := nd_big (th (2 * x + c2 % 2)) (th (2 * y + c2 % 2))
          omega
      refine ⟨_, rfl, fun _ => ih (v + 1) (a + 1) (by omega) ?_, fun q => absurd rfl q⟩
      rw [← hr]
      show _ = cN E n (v + 1) (iteP (closedP E v) (a + 1) a)
      rw [iteP_pos hcl]
theorem m_lots_loop {N : Nat} {w : Int32} (hN : N ≤ 20) {r : Int32} : ∀ (n i : Nat) (z a : Int32) (s : rSg), i + n = N → (if w = 0 then hA n z a else tA n z a) = r → s 725 59 = z → s 725 10 = nI 75 → g_200_50 (nI N) w a (nI i) s (fun v _ => v = some (.inl r)) := by
  intro n
  induction n with
  | zero =>
    intro i z a s hi hr _ _
    obtain rfl : i = N := by omega
    refine w_200_50 s (nI i) w a (nI i) ⟨fun _ => ?_, fun q => absurd (Int32.le_refl _) q⟩
    have : a = r := by rw [← hr]; split <;> rfl
    rw [this]
  | succ n ih =>
    intro i z a s hi hr hz h10
    refine w_200_50 s (nI N) w a (nI i) ⟨fun q => absurd ((nI_leI (by omega) (by omega)).mp q) (by omega), fun _ => w_183 s ⟨rfl, ?_⟩⟩
    show EvS rSkel 8 201 [.inr (.inr (some 725))] (mMin s) _
    obtain ⟨f0, f1, f54, f55, f56⟩ := mMin_f s
    refine (m_lot (z := z) (by rw [f1 59 (by decide)]; exact hz) (by rw [f1 10 (by decide)]; exact h10)).imp ?_
    rintro _ t ⟨rfl, t59, t54, ti⟩
    rw [nI_1]
    have t54' : t 725 54 = nI 75 := by rw [t54, f54]; exact h10
    have nxt : ∀ a2 : Int32, (if w = 0 then hA n (zn 4 z) a2 else tA n (zn 4 z) a2) = r → g_200_50 (nI N) w a2 (nI (i + 1)) (up2 (up2 (up2 (up2 t 725 21 0) 725 10 (t 725 54)) 725 11 (t 725 55)) 725 12 (t 725 56)) (fun v _ => v = some (.inl r)) := fun a2 h2 => by
      refine ih (i + 1) (zn 4 z) a2 _ (by omega) h2 ?_ ?_
      · rw [up2_nj _ _ _ (by decide), up2_nj _ _ _ (by decide), up2_nj _ _ _ (by decide), up2_nj _ _ _ (by decide)]; exact t59
      · rw [up2_nj _ _ _ (by decide), up2_nj _ _ _ (by decide), up2_same]; exact t54'
    by_cases hs : Sat (lE 4 z)
    · rw [iteP_pos hs]
      obtain ⟨T, hI⟩ := ti hs
      refine ⟨_, rfl, fun q => absurd q (by decide), fun _ => ⟨fun hw => w_205 t (m_closed_loop hI ⟨_, rfl, w_184 t ⟨rfl, nxt _ ?_⟩⟩ 6 0 0 rfl rfl), fun hw => w_184 t ⟨rfl, nxt _ ?_⟩⟩⟩
      · have hw := Classical.not_not.mp hw
        rw [← hr, if_pos hw, if_pos hw]
        show _ = hA n (zn 4 z) (iteP (Sat (lE 4 z)) (a + 1) a)
        rw [iteP_pos hs]
      · rw [← hr, if_neg hw, if_neg hw]
        show _ = tA n (zn 4 z) (iteP (Sat (lE 4 z)) (a + cN (lE 4 z) 6 0 0) a)
        rw [iteP_pos hs]
    · rw [iteP_neg hs]
      refine ⟨_, rfl, fun _ => w_184 t ⟨rfl, nxt _ ?_⟩, fun q => absurd rfl q⟩
      rw [← hr]
      by_cases hw : w = 0
      · rw [if_pos hw, if_pos hw]
        show _ = hA n (zn 4 z) (iteP (Sat (lE 4 z)) (a + 1) a)
        rw [iteP_neg hs]
      · rw [if_neg hw, if_neg hw]
        show _ = tA n (zn 4 z) (iteP (Sat (lE 4 z)) (a + cN (lE 4 z) 6 0 0) a)
        rw [iteP_neg hs]
theorem o_lots {s : rSg} (hc : clF s) (hm : mdF s) (a b c : Int32) : opI s 107 200 [.inl a, .inl b, .inl c] := by
  by_cases h1 : 1 ≤ a
  · by_cases h20 : a ≤ 20
    · by_cases hw : c = 0 ∨ c = 1
      · obtain ⟨N, hN, rfl⟩ := nn_of (x := a) (fun q => absurd (Int32.lt_of_lt_of_le (Int32.lt_of_lt_of_le q (by decide)) h1) Int32.lt_irrefl)
        have N20 : N ≤ 20 := (nI_leI (b := 20) hN (by decide)).mp h20
        have go : g_107_58 (nI N) c 0 0 0 (up2 s 686 0 b) (fun v s2 => v = some (.inl (if c = 0 then hA N b 0 else tA N b 0)) ∧ fr s s2) := c_lots_loop (s0 := s) N20 (fun t ht => ⟨rfl, ht⟩) N 0 0 b 0 0 _ (by omega) rfl (fr.up (by decide)) (up2_same _ _ _ _) (cSn_ext (up2_nk _ _ _ (by decide)) (up2_nk _ _ _ (by decide)) (cSn_of hc)) (by decide)
        refine op2 hm (d := 6) (d2 := 9) (by decide) (by decide) (w_107 s (nI N) b c ⟨fun _ => ⟨fun _ => ⟨fun _ => go, fun h0 => ⟨fun _ => go, fun h9 => absurd hw (by intro q; rcases q with q | q; exact h0 q; exact h9 q)⟩⟩, fun q => absurd h20 q⟩, fun q => absurd h1 q⟩) (fun s2 h => w_200 s2 (nI N) b c ((ev_m_bound 0 s2 (nI N) 1 20).imp ?_))
        rintro _ s2 ⟨rfl, rfl⟩
        rw [if_pos h1, if_pos h20]
        refine ⟨_, rfl, fun q => absurd rfl q, fun _ => (ev_m_isIn 0 s2 c 0 1).imp ?_⟩
        rintro _ s2 ⟨rfl, rfl⟩
        have e1 : (if c < 0 then (0 : Int32) else if 1 < c then 0 else 1) = 1 := by rcases hw with rfl | rfl <;> decide
        rw [e1]
        refine ⟨_, rfl, fun _ => ⟨fun _ => ?_, fun q => absurd rfl q⟩, fun q => absurd (by decide) q⟩
        exact m_lots_loop N20 N 0 b 0 _ (by omega) rfl (up2_same _ _ _ _) (by rw [up2_nj _ _ _ (by decide)]; exact h.2.2.2.2.2.2.2.2.2.2.2.2.2.2.2.2.2.2.1)
      · have w0 : ¬ c = 0 := fun q => hw (Or.inl q)
        have w1 : ¬ c = 1 := fun q => hw (Or.inr q)
        refine op2 hm (d := 6) (d2 := 9) (r := -2) (by decide) (by decide) (w_107 s a b c ⟨fun _ => ⟨fun _ => ⟨fun q => absurd q w0, fun _ => ⟨fun q => absurd q w1, fun _ => c_ref fr.rfl' (-2)⟩⟩, fun q => absurd h20 q⟩, fun q => absurd h1 q⟩) (fun s2 h => w_200 s2 a b c ((ev_m_bound 0 s2 a 1 20).imp ?_))
        rintro _ s2 ⟨rfl, rfl⟩
        rw [if_pos h1, if_pos h20]
        refine ⟨_, rfl, fun q => absurd rfl q, fun _ => (ev_m_isIn 0 s2 c 0 1).imp ?_⟩
        rintro _ s2 ⟨rfl, rfl⟩
        rw [in01 w0 w1]
        exact ⟨_, rfl, fun q => absurd rfl q, fun _ => m_ref (by decide) _⟩
    · refine op2 hm (d := 6) (d2 := 9) (r := -6) (by decide) (by decide) (w_107 s a b c ⟨fun _ => ⟨fun q => absurd q h20, fun _ => c_ref fr.rfl' (-6)⟩, fun q => absurd h1 q⟩) (fun s2 h => w_200 s2 a b c ((ev_m_bound 0 s2 a 1 20).imp ?_))
      rintro _ _ ⟨rfl, rfl⟩
      rw [if_pos h1, if_neg h20]
      exact ⟨_, rfl, fun _ => ⟨fun q => absurd q (by decide), fun _ => m_ref (by decide) _⟩, fun q => absurd (by decide) q⟩
  · refine op2 hm (d := 6) (d2 := 9) (r := -4) (by decide) (by decide) (w_107 s a b c ⟨fun q => absurd q h1, fun _ => c_ref fr.rfl' (-4)⟩) (fun s2 h => w_200 s2 a b c ((ev_m_bound 0 s2 a 1 20).imp ?_))
    rintro _ _ ⟨rfl, rfl⟩
    rw [if_neg h1]
    exact ⟨_, rfl, fun _ => ⟨fun q => absurd q (by decide), fun _ => m_ref (by decide) _⟩, fun q => absurd (by decide) q⟩
