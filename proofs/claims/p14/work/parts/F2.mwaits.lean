/-! THE REFERENCE: states stand for abstract ones; waits, exactly -/
theorem mKv_growN {s t : rSg} {T : Nat} {K : Kx} (hst : mSt s T) (e : ∀ j, j < T → t 727 j = s 727 j ∧ t 728 j = s 728 j) (eb : ∀ j, j < 128 → t 736 j = s 736 j) (hk : mKv s T K) : ∀ (n T2 : Nat), T2 = T + n → T2 ≤ 6000 → hpP t T2 → mKv t T2 K
  | 0, T2, h, _, _ => by
    have e2 : T2 = T := h
    rw [e2]
    refine mKv_ag (fun c hc => ?_) hk
    have hc : c < 2 * T := hc
    by_cases q : c / 2 < 64
    · unfold mV
      rw [if_pos q, if_pos q, eb _ (opn_lt q)]
    · exact mV_high (by omega) (fun _ => e _ (by omega))
  | n + 1, T2, h, h6, hP => by
    subst h
    have hT := hst.1.1
    have hP2 : hpP t (T + n) := fun q h1 h2 => hP q h1 (by omega)
    have ih := mKv_growN hst e eb hk n (T + n) rfl (by omega) hP2
    obtain ⟨a, b, e1, e2, la, lb⟩ := hP (T + n) (by omega) (by omega)
    exact mKv_grow (mSt_grow (T2 := T + n) hst (by omega) (by omega) hP2 e (fun j hj => Or.inl (eb j hj))) (fun _ _ => ⟨rfl, rfl⟩) (fun _ _ => rfl) e1 e2 la lb ih
theorem mKv_row {s t : rSg} {T T2 : Nat} {K : Kx} {f f2 : Nat → Int32} (hr : bRow s T f) (hT : T ≤ T2) (h6 : T2 ≤ 6000) (hP : hpP t T2) (e : ∀ j, j < T → t 727 j = s 727 j ∧ t 728 j = s 728 j) (ef : ∀ j, j < 64 → f2 j = f j) (hk : mKv (upC s 736 (ldF f)) T K) : mKv (upC t 736 (ldF f2)) T2 K := by
  refine mKv_growN (s := upC s 736 (ldF f)) (t := upC t 736 (ldF f2)) hr.1 (fun j hj => ?_) (fun j hj => ?_) hk (T2 - T) T2 (by omega) h6 (fun q h1 h2 => ?_)
  · rw [upC_ne _ _ (by decide), upC_ne _ _ (by decide), upC_ne _ _ (by decide), upC_ne _ _ (by decide)]
    exact e j hj
  · rw [upC_same, upC_same]
    unfold ldF
    split
    · next h => exact ef j h
    · rfl
  · obtain ⟨a, b, z⟩ := hP q h1 h2
    exact ⟨a, b, by rw [upC_ne _ _ (by decide), upC_ne _ _ (by decide)]; exact z⟩
theorem sol_even {V V2 : Nat → TV} {D : Nat → Prop} {rk rk2 : Nat → Nat} (hok : vOK V D rk) (hok2 : vOK V2 D rk2) (ag : ∀ c, D c → c % 2 = 0 → V2 c = V c) (cl : ∀ c, D c → c % 2 = 0 → (∀ e, V c = some (.inl e) → e % 2 = 0) ∧ (∀ a b, V c = some (.inr (.inr (a, b))) → a % 2 = 0 ∧ b % 2 = 0)) {th : Nat → Nat} (hs : vSol V D th) : ∃ t2, vSol V2 D t2 ∧ ∀ c, D c → c % 2 = 0 → t2 c = th c := by
  obtain ⟨t2, s2, o2, _⟩ := vSol_ex hok2 th
  refine ⟨t2, s2, fun c hc he => ?_⟩
  have key : ∀ (n c : Nat), rk c < n → D c → c % 2 = 0 → t2 c = th c := by
    intro n
    induction n with
    | zero => intro c h; omega
    | succ n ih =>
      intro c hr hc he
      have h1 := hs c hc
      have h2 := s2 c hc
      have h3 := hok c hc
      have h4 := cl c hc he
      rw [ag c hc he] at h2
      cases hv : V c with
      | none => exact o2 c (by rw [ag c hc he]; exact hv)
      | some x =>
        rcases x with e | n | ⟨a, b⟩
        · rw [h2.1 e hv, h1.1 e hv]
          exact ih e (by have := (h3.1 e hv).2; omega) (h3.1 e hv).1 (h4.1 e hv)
        · rw [h2.2.1 n hv, h1.2.1 n hv]
        · have z := h3.2.2 a b hv
          have y := h4.2 a b hv
          rw [h2.2.2 a b hv, h1.2.2 a b hv, ih a (by omega) z.1.1 y.1, ih b (by omega) z.2.1 y.2]
  exact key (rk c + 1) c (by omega) hc he
/-- the second half of the bindings does not matter -/
theorem mKv_half {s : rSg} {T : Nat} {K : Kx} (hc : cB s T) (hb : bRow s T (s 736)) (hk : mKv s T K) : mKv (upC s 736 (ldF (s 736))) T K := by
  obtain ⟨⟨hw, rk, hok⟩, ev, _⟩ := hc
  obtain ⟨⟨hw2, rk2, hok2⟩, _⟩ := hb
  have ag : ∀ c, mD T c → c % 2 = 0 → mV (upC s 736 (ldF (s 736))) c = mV s c := fun c _ he => by
    by_cases q : c / 2 < 64
    · have e : opn c < 64 := by unfold opn; rw [he]; omega
      simp only [mV, if_pos q, upC_same]
      unfold ldF
      rw [if_pos e]
    · exact mV_high (by omega) (fun _ => by rw [upC_ne _ _ (by decide), upC_ne _ _ (by decide)]; exact ⟨rfl, rfl⟩)
  have cl : ∀ c, mD T c → c % 2 = 0 → (∀ e, mV s c = some (.inl e) → e % 2 = 0) ∧ (∀ a b, mV s c = some (.inr (.inr (a, b))) → a % 2 = 0 ∧ b % 2 = 0) := fun c _ he => ⟨fun e h => ev_reach ev he (reach.ref h), fun a b h => ⟨ev_reach ev he (reach.left h), ev_reach ev he (reach.right h)⟩⟩
  have v2 : ∀ v, v < 64 → mD T (2 * v) ∧ 2 * v % 2 = 0 := fun v hv => ⟨by show 2 * v < 2 * T; have := hw.1; omega, by omega⟩
  intro r
  rw [hk r]
  constructor
  · rintro ⟨th, h1, h2⟩
    obtain ⟨t2, g1, g2⟩ := sol_even hok hok2 ag cl h1
    exact ⟨t2, g1, fun v hv => by rw [g2 _ (v2 v hv).1 (v2 v hv).2]; exact h2 v hv⟩
  · rintro ⟨th, h1, h2⟩
    obtain ⟨t2, g1, g2⟩ := sol_even hok2 hok (fun c a b => (ag c a b).symm) (fun c a b => by rw [ag c a b]; exact cl c a b) h1
    exact ⟨t2, g1, fun v hv => by rw [g2 _ (v2 v hv).1 (v2 v hv).2]; exact h2 v hv⟩
def mL (tb : Tb) (R : Nat → Nat → Prop) (s : rSg) (T G : Nat) (p : stP) (X : Sx) : Prop := mIts R s T G p.2.1 X.1 ∧ (∃ ks, ks.Perm X.2.1 ∧ mK2 tb s T p.2.2.2.1 ks) ∧ p.2.2.2.2 = X.2.2.1
def cXa (tb : Tb) (R : Nat → Nat → Prop) (s : rSg) (T G L : Nat) (p : stP) (X : Sx) : Prop := cX s T G L p ∧ mL tb R s T G p X ∧ mKv s T X.2.2.2
def wXa (tb : Tb) (R : Nat → Nat → Prop) (s : rSg) (T G L sl : Nat) (p : stP) (X : Sx) : Prop := wX s T G L sl p ∧ mL tb R s T G p X ∧ mKv (upC s 736 (ldF (fun j => s 739 (64 * sl + j)))) T X.2.2.2
theorem mL_ext {tb : Tb} {R : Nat → Nat → Prop} {s t : rSg} {T G L T2 G2 : Nat} {p : stP} {X : Sx} (e : hx T G L s t) (hT : T ≤ T2) (hG : G ≤ G2) (h : mL tb R s T G p X) : mL tb R t T2 G2 p X := by
  obtain ⟨h1, ⟨ks, h2, h3⟩, h4⟩ := h
  exact ⟨mIts_ext e hT hG h1, ⟨ks, h2, mK2_ext e hT h3⟩, h4⟩
/-- the cells of a search, all of them -/
def sy (z : Nat) (s t : rSg) : Prop := sz z s t ∧ (∀ j, j < 30 → t 744 (30 * z + j) = s 744 (30 * z + j) ∧ t 745 (30 * z + j) = s 745 (30 * z + j)) ∧ t 750 z = s 750 z ∧ t 751 z = s 751 z
theorem sy.of {z : Nat} {s t : rSg} (h : ∀ k, 739 ≤ k → k ≤ 751 → t k = s k) : sy z s t := ⟨sz.of (fun k h1 h2 => h k h1 (by omega)), fun j _ => by rw [h 744 (by decide) (by decide), h 745 (by decide) (by decide)]; exact ⟨rfl, rfl⟩, by rw [h 750 (by decide) (by decide)], by rw [h 751 (by decide) (by decide)]⟩
theorem sy.rfl' {z : Nat} {s : rSg} : sy z s s := sy.of (fun _ _ _ => rfl)
theorem sy.trans {z : Nat} {s t u : rSg} (h1 : sy z s t) (h2 : sy z t u) : sy z s u := ⟨h1.1.trans h2.1, fun j hj => ⟨(h2.2.1 j hj).1.trans (h1.2.1 j hj).1, (h2.2.1 j hj).2.trans (h1.2.1 j hj).2⟩, h2.2.2.1.trans h1.2.2.1, h2.2.2.2.trans h1.2.2.2⟩
theorem wXa.ext {tb : Tb} {R : Nat → Nat → Prop} {s t : rSg} {T G L T2 G2 L2 sl : Nat} {p : stP} {X : Sx} (h : wXa tb R s T G L sl p X) (hh : hp s T G L) (ht : hp t T2 G2 L2) (e : hx T G L s t) (hT : T ≤ T2) (hG : G ≤ G2) (hL : L ≤ L2) (e0 : t 740 sl = s 740 sl ∧ t 741 sl = s 741 sl ∧ t 742 sl = s 742 sl) (e9 : ∀ j, j < 64 → t 739 (64 * sl + j) = s 739 (64 * sl + j)) : wXa tb R t T2 G2 L2 sl p X :=
  ⟨h.1.ext hh ht e hT hG hL e0 e9, mL_ext e hT hG h.2.1, mKv_row h.1.1 hT (by have := ht.1; omega) ht.2.2.1 e.1 e9 h.2.2⟩
theorem wXa.sz {tb : Tb} {R : Nat → Nat → Prop} {s t : rSg} {T G L T2 G2 L2 z i : Nat} {p : stP} {X : Sx} (h : wXa tb R s T G L (42 * z + i) p X) (hi : i < 42) (hh : hp s T G L) (ht : hp t T2 G2 L2) (e : hx T G L s t) (hT : T ≤ T2) (hG : G ≤ G2) (hL : L ≤ L2) (g : sz z s t) : wXa tb R t T2 G2 L2 (42 * z + i) p X :=
  h.ext hh ht e hT hG hL (g.1 i hi) (fun j hj => by
    have := g.2.1 (64 * i + j) (by omega)
    rw [show 64 * (42 * z + i) + j = 2688 * z + (64 * i + j) by omega]
    exact this)
theorem cXa.ext {tb : Tb} {R : Nat → Nat → Prop} {s t : rSg} {T G L T2 G2 L2 : Nat} {p : stP} {X : Sx} (h : cXa tb R s T G L p X) (hh : hp s T G L) (ht : hp t T2 G2 L2) (e : hx T G L s t) (hT : T ≤ T2) (hG : G ≤ G2) (hL : L ≤ L2) (e6 : t 736 = s 736) (e0 : t 725 16 = s 725 16 ∧ t 725 18 = s 725 18 ∧ t 725 19 = s 725 19 ∧ t 725 20 = s 725 20) : cXa tb R t T2 G2 L2 p X :=
  ⟨h.1.ext hh ht e hT hG hL e6 e0, mL_ext e hT hG h.2.1, mKv_growN h.1.1.1 e.1 (fun j _ => by rw [e6]) h.2.2 (T2 - T) T2 (by omega) (by have := ht.1; omega) ht.2.2.1⟩
def aXa (s : rSg) (T z i n : Nat) (X : Sx) : Prop := bRow s T (fun j => s 743 (64 * (30 * z + i) + j)) ∧ mKv (upC s 736 (ldF (fun j => s 743 (64 * (30 * z + i) + j)))) T X.2.2.2 ∧ s 744 (30 * z + i) = nI n ∧ s 745 (30 * z + i) = nI X.2.1.length
def seaQ (tb : Tb) (R : Nat → Nat → Prop) (s : rSg) (z T G L h : Nat) (Q : Qx) : Prop := (s 746 z = nI h ∧ h < 42) ∧ (s 747 z = nI Q.1.length ∧ Q.1.length ≤ 40) ∧ (s 748 z = nI Q.2.1.length ∧ Q.2.1.length ≤ 30) ∧ s 749 z = nI Q.2.2.1 ∧ s 750 z = nI Q.2.2.2.1 ∧ s 751 z = nI Q.2.2.2.2 ∧ (∀ (i : Nat) X, Q.1[i]? = some X → ∃ p, wXa tb R s T G L (42 * z + (h + i) % 42) p X) ∧ (∀ (i n : Nat) X, Q.2.1[i]? = some (n, X) → aXa s T z i n X)
theorem aXa.ext {s t : rSg} {T T2 z i n G L G2 L2 : Nat} {X : Sx} (h : aXa s T z i n X) (hi : i < 30) (ht : hp t T2 G2 L2) (e : hx T G L s t) (hT : T ≤ T2) (g : sy z s t) : aXa t T2 z i n X := by
  have er : ∀ j, j < 64 → t 743 (64 * (30 * z + i) + j) = s 743 (64 * (30 * z + i) + j) := fun j hj => by
    have := g.1.2.2.1 (64 * i + j) (by omega)
    rw [show 64 * (30 * z + i) + j = 1920 * z + (64 * i + j) by omega]
    exact this
  exact ⟨bRow_ext h.1 hT (by have := ht.1; omega) ht.2.2.1 e.1 er, mKv_row h.1 hT (by have := ht.1; omega) ht.2.2.1 e.1 er h.2.1, by rw [(g.2.1 i hi).1]; exact h.2.2.1, by rw [(g.2.1 i hi).2]; exact h.2.2.2⟩
theorem seaQ.ext {tb : Tb} {R : Nat → Nat → Prop} {s t : rSg} {z T G L T2 G2 L2 h : Nat} {Q : Qx} (hs : seaQ tb R s z T G L h Q) (hh : hp s T G L) (ht : hp t T2 G2 L2) (e : hx T G L s t) (hT : T ≤ T2) (hG : G ≤ G2) (hL : L ≤ L2) (g : sy z s t) : seaQ tb R t z T2 G2 L2 h Q := by
  obtain ⟨h1, h2, h3, h4, h5, h6, h7, h8⟩ := hs
  refine ⟨by rw [g.1.2.2.2.1]; exact h1, by rw [g.1.2.2.2.2.1]; exact h2, by rw [g.1.2.2.2.2.2.1]; exact h3, by rw [g.1.2.2.2.2.2.2]; exact h4, by rw [g.2.2.1]; exact h5, by rw [g.2.2.2]; exact h6, fun i X hi => ?_, fun i n X hi => ?_⟩
  · obtain ⟨p, hp1⟩ := h7 i X hi
    exact ⟨p, hp1.sz (Nat.mod_lt _ (by decide)) hh ht e hT hG hL g.1⟩
  · have hl : i < Q.2.1.length := by
      obtain ⟨q, _⟩ := List.getElem?_eq_some_iff.mp hi
      exact q
    exact (h8 i n X hi).ext (by omega) ht e hT g
/-- the frame of a search's step -/
def fy (z : Nat) (s t : rSg) : Prop := mK kZ jZ s t ∧ ∀ y, y < 2 → y ≠ z → sy y s t
theorem fy.rfl' {z : Nat} {s : rSg} : fy z s s := ⟨mK.rfl', fun _ _ _ => sy.rfl'⟩
theorem fy.trans {z : Nat} {s t u : rSg} (h1 : fy z s t) (h2 : fy z t u) : fy z s u := ⟨h1.1.trans h2.1, fun y a b => (h1.2 y a b).trans (h2.2 y a b)⟩
theorem mK.sy {ks js : List Nat} {s t : rSg} (h : mK ks js s t) (hk : ∀ k, 739 ≤ k → k ≤ 751 → k ∉ ks) {z : Nat} : sy z s t := sy.of (fun k h1 h2 => h.1 k (by omega) (hk k h1 h2))
theorem fy.of {z : Nat} {s t : rSg} {ks js : List Nat} (h : mK ks js s t) (hk : ∀ k, k ∈ ks → k ∈ kZ) (hj : ∀ k, k ∈ js → k ∈ jZ) (h9 : ∀ k, 739 ≤ k → k ≤ 751 → k ∉ ks) : fy z s t := ⟨h.mono hk hj, fun _ _ _ => h.sy h9⟩
/-- in a step: the search, and the state that was taken from it -/
def SSa (tb : Tb) (R : Nat → Nat → Prop) (s : rSg) (z T G L h : Nat) (Q : Qx) (p : stP) (X : Sx) : Prop := hp s T G L ∧ (s 725 21 = nI z ∧ z < 2) ∧ seaQ tb R s z T G L h Q ∧ wXa tb R s T G L (42 * z + (h + 41) % 42) p X ∧ mTab tb R s T G
theorem SSa.ext {tb : Tb} {R : Nat → Nat → Prop} {s t : rSg} {z T G L T2 G2 L2 h : Nat} {Q : Qx} {p : stP} {X : Sx} (hs : SSa tb R s z T G L h Q p X) (ht : hp t T2 G2 L2) (e : hx T G L s t) (hT : T ≤ T2) (hG : G ≤ G2) (hL : L ≤ L2) (g : sy z s t) (e21 : t 725 21 = s 725 21) : SSa tb R t z T2 G2 L2 h Q p X :=
  ⟨ht, ⟨by rw [e21]; exact hs.2.1.1, hs.2.1.2⟩, hs.2.2.1.ext hs.1 ht e hT hG hL g, hs.2.2.2.1.sz (Nat.mod_lt _ (by decide)) hs.1 ht e hT hG hL g.1, mTab_ext e hT hG hs.2.2.2.2⟩
theorem SSa.K {tb : Tb} {R : Nat → Nat → Prop} {s t : rSg} {z T G L T2 G2 L2 h : Nat} {Q : Qx} {p : stP} {X : Sx} (hs : SSa tb R s z T G L h Q p X) (ht : hp t T2 G2 L2) (e : hx T G L s t) (hT : T ≤ T2) (hG : G ≤ G2) (hL : L ≤ L2) {ks js : List Nat} (k : mK ks js s t) (hk : ∀ k, 739 ≤ k → k ≤ 751 → k ∉ ks) (hj : 21 ∉ js) : SSa tb R t z T2 G2 L2 h Q p X := hs.ext ht e hT hG hL (k.sy hk) (k.2 21 hj)
/-- waits: behind all others, or lost -/
theorem fs_124 {tb : Tb} {R : Nat → Nat → Prop} {s : rSg} {z T G L h : Nat} {Q : Qx} {p q : stP} {X0 X : Sx} (hs : SSa tb R s z T G L h Q p X0) (hc : cXa tb R s T G L q X) : EvS rSkel 2 124 [.inr (.inr (some 725))] s (fun v t => v = none ∧ SSa tb R t z T G L h (enq Q X) p X0 ∧ hx T G L s t ∧ fy z s t) := by
  obtain ⟨hh, ⟨h21, hz⟩, ⟨⟨a1, a2⟩, ⟨a3, a4⟩, ⟨a5, a6⟩, a9, a10, a11, a7, a8⟩, hw0, htab⟩ := id hs
  have hf : q.2.2.2.2 = X.2.2.1 := hc.2.1.2.2
  by_cases hl : 60 < X.2.2.1 ∨ 40 ≤ Q.1.length
  · have he : enq Q X = (Q.1, Q.2.1, Q.2.2.1, Q.2.2.2.1 + 1, Q.2.2.2.2) := by
      unfold enq
      rw [if_pos hl]
    rw [he]
    refine ((ev_m_waits_lost 0 s h21 hz a1 hc.1.2.2.2.1 (by have := hc.1.2.2.2.2.1; omega) a3 (by omega) (by rw [hf]; exact hl)).up (by decide)).imp ?_
    rintro _ _ ⟨rfl, rfl⟩
    have k : mK [750] [] s (up2 s 750 z (s 750 z + 1)) := mK.rfl'.up (by simp) (by decide)
    have e : hx T G L s (up2 s 750 z (s 750 z + 1)) := k.hx (fun k a b => by simp; omega)
    have ht := hh.keep e ⟨k.2 10 (by simp), k.2 11 (by simp), k.2 12 (by simp)⟩
    have c50 : (up2 s 750 z (s 750 z + 1)) 750 z = nI (Q.2.2.2.1 + 1) := by rw [up2_same, a10, nI_1]
    have c50o : ∀ y, y ≠ z → (up2 s 750 z (s 750 z + 1)) 750 y = s 750 y := fun y hy => up2_nj _ _ _ hy
    generalize up2 s 750 z (s 750 z + 1) = t at k e ht c50 c50o
    have hsz : ∀ y, sz y s t := fun y => k.sz (fun k a b => by simp; omega)
    have hsy : ∀ y, y ≠ z → sy y s t := fun y hy => ⟨hsz y, fun j _ => by rw [k.1 744 (by decide) (by simp), k.1 745 (by decide) (by simp)]; exact ⟨rfl, rfl⟩, c50o y hy, by rw [k.1 751 (by decide) (by simp)]⟩
    refine ⟨rfl, ⟨ht, ⟨by rw [k.2 21 (by simp)]; exact h21, hz⟩, ⟨⟨by rw [k.1 746 (by decide) (by simp)]; exact a1, a2⟩, ⟨by rw [k.1 747 (by decide) (by simp)]; exact a3, a4⟩, ⟨by rw [k.1 748 (by decide) (by simp)]; exact a5, a6⟩, by rw [k.1 749 (by decide) (by simp)]; exact a9, c50, by rw [k.1 751 (by decide) (by simp)]; exact a11, fun i Y hi => ?_, fun i n Y hi => ?_⟩, hw0.sz (Nat.mod_lt _ (by decide)) hh ht e (Nat.le_refl _) (Nat.le_refl _) (Nat.le_refl _) (hsz z), mTab_ext e (Nat.le_refl _) (Nat.le_refl _) htab⟩, e, ⟨k.mono (by simp [kZ]) (by simp), fun y _ hy => hsy y hy⟩⟩
    · obtain ⟨p1, h1⟩ := a7 i Y hi
      exact ⟨p1, h1.sz (Nat.mod_lt _ (by decide)) hh ht e (Nat.le_refl _) (Nat.le_refl _) (Nat.le_refl _) (hsz z)⟩
    · obtain ⟨b1, b2, b3, b4⟩ := a8 i n Y hi
      have er : ∀ j, j < 64 → t 743 (64 * (30 * z + i) + j) = s 743 (64 * (30 * z + i) + j) := fun j _ => by rw [k.1 743 (by decide) (by simp)]
      exact ⟨bRow_ext b1 (Nat.le_refl _) (by have := ht.1; omega) ht.2.2.1 e.1 er, mKv_row b1 (Nat.le_refl _) (by have := ht.1; omega) ht.2.2.1 e.1 er b2, by rw [k.1 744 (by decide) (by simp)]; exact b3, by rw [k.1 745 (by decide) (by simp)]; exact b4⟩
  · have he : enq Q X = (Q.1 ++ [X], Q.2) := by
      unfold enq
      rw [if_neg hl]
    rw [he]
    have w9 : Q.1.length < 40 := by omega
    refine (ev_m_waits_in 0 s h21 hz a1 hc.1.2.2.2.1 (by have := hc.1.2.2.2.2.1; omega) a3 (by omega) a2 (by omega) w9).imp ?_
    rintro _ _ ⟨rfl, rfl⟩
    generalize esl : 42 * z + (h + Q.1.length) % 42 = sl
    have k := wait_K s z q.2.2.2.2 Q.1.length sl
    obtain ⟨r0, r1, r2, r7⟩ := wait_742 s z q.2.2.2.2 Q.1.length sl
    have rr : ∀ j, j < 64 → mWaitS s z q.2.2.2.2 Q.1.length sl 739 (64 * sl + j) = s 736 j := fun j hj => wait_row hj
    have ro : ∀ k, k < 64 * sl ∨ 64 * sl + 64 ≤ k → mWaitS s z q.2.2.2.2 Q.1.length sl 739 k = s 739 k := fun k hk => wait_other hk
    generalize mWaitS s z q.2.2.2.2 Q.1.length sl = t at k r0 r1 r2 r7 rr ro
    have e : hx T G L s t := k.hx (fun k a b => by simp; omega)
    have ht : hp t T G L := hh.keep e ⟨k.2 10 (by simp), k.2 11 (by simp), k.2 12 (by simp)⟩
    have keep : ∀ i p Y, i < 42 → 42 * z + i ≠ sl → wXa tb R s T G L (42 * z + i) p Y → wXa tb R t T G L (42 * z + i) p Y := fun i p Y hi hne hp1 => by
      refine hp1.ext hh ht e (Nat.le_refl _) (Nat.le_refl _) (Nat.le_refl _) ⟨?_, ?_, ?_⟩ (fun j hj => ro _ ?_)
      · rw [r0]; exact if_neg hne
      · rw [r1]; exact if_neg hne
      · rw [r2]; exact if_neg hne
      · rcases Nat.lt_or_gt_of_ne hne with q | q
        · exact Or.inl (by omega)
        · exact Or.inr (by omega)
    have hbr : bRow s T (s 736) := bRow_of hc.1.1.1 hh.2.2.1 hc.1.1.2.1
    have new : wXa tb R t T G L sl q X := by
      refine ⟨⟨bRow_ext hbr (Nat.le_refl _) (by have := hh.1; omega) ht.2.2.1 e.1 rr, ?_, ?_, ?_, by omega, hc.1.2.2.2.2.2.ext hh e (Nat.le_refl _) (Nat.le_refl _) (Nat.le_refl _)⟩, mL_ext e (Nat.le_refl _) (Nat.le_refl _) hc.2.1, ?_⟩
      · rw [r0, show upd (s 740) sl (s 725 18) sl = s 725 18 from if_pos rfl]; exact hc.1.2.1
      · rw [r1, show upd (s 741) sl (s 725 19) sl = s 725 19 from if_pos rfl]; exact hc.1.2.2.1
      · rw [r2]; exact if_pos rfl
      · refine mKv_row hbr (Nat.le_refl _) (by have := hh.1; omega) ht.2.2.1 e.1 rr ?_
        exact mKv_half hc.1.1 hbr hc.2.2
    refine ⟨rfl, ⟨ht, ⟨by rw [k.2 21 (by simp)]; exact h21, hz⟩, ⟨⟨by rw [k.1 746 (by decide) (by simp)]; exact a1, a2⟩, ⟨by rw [r7, show upd (s 747) z (nI (Q.1.length + 1)) z = nI (Q.1.length + 1) from if_pos rfl]; simp, by simp; omega⟩, ⟨by rw [k.1 748 (by decide) (by simp)]; exact a5, a6⟩, by rw [k.1 749 (by decide) (by simp)]; exact a9, by rw [k.1 750 (by decide) (by simp)]; exact a10, by rw [k.1 751 (by decide) (by simp)]; exact a11, fun i Y hi => ?_, fun i n Y hi => ?_⟩, keep _ p X0 (Nat.mod_lt _ (by decide)) (by omega) hw0, mTab_ext e (Nat.le_refl _) (Nat.le_refl _) htab⟩, e, ⟨k.mono (by simp [kZ]) (by simp), fun y hy hne => ⟨⟨fun j hj => ?_, fun j hj => ro _ ?_, fun j _ => by rw [k.1 743 (by decide) (by simp)], by rw [k.1 746 (by decide) (by simp)], by rw [r7]; exact if_neg hne, by rw [k.1 748 (by decide) (by simp)], by rw [k.1 749 (by decide) (by simp)]⟩, fun j _ => by rw [k.1 744 (by decide) (by simp), k.1 745 (by decide) (by simp)]; exact ⟨rfl, rfl⟩, by rw [k.1 750 (by decide) (by simp)], by rw [k.1 751 (by decide) (by simp)]⟩⟩⟩
    · by_cases hil : i < Q.1.length
      · have hi2 : Q.1[i]? = some Y := by
          have := hi
          simp only at this
          rw [List.getElem?_append_left hil] at this
          exact this
        obtain ⟨p1, h1⟩ := a7 i Y hi2
        exact ⟨p1, keep _ p1 Y (Nat.mod_lt _ (by decide)) (by omega) h1⟩
      · simp only at hi
        rw [List.getElem?_append_right (by omega)] at hi
        have hi0 : i = Q.1.length := by
          obtain ⟨z, _⟩ := List.getElem?_eq_some_iff.mp hi
          simp at z
          omega
        subst hi0
        simp at hi
        subst hi
        rw [esl]
        exact ⟨q, new⟩
    · obtain ⟨b1, b2, b3, b4⟩ := a8 i n Y hi
      have er : ∀ j, j < 64 → t 743 (64 * (30 * z + i) + j) = s 743 (64 * (30 * z + i) + j) := fun j _ => by rw [k.1 743 (by decide) (by simp)]
      exact ⟨bRow_ext b1 (Nat.le_refl _) (by have := ht.1; omega) ht.2.2.1 e.1 er, mKv_row b1 (Nat.le_refl _) (by have := ht.1; omega) ht.2.2.1 e.1 er b2, by rw [k.1 744 (by decide) (by simp)]; exact b3, by rw [k.1 745 (by decide) (by simp)]; exact b4⟩
    · have n0 : 42 * y + j ≠ sl := by omega
      exact ⟨by rw [r0]; exact if_neg n0, by rw [r1]; exact if_neg n0, by rw [r2]; exact if_neg n0⟩
    · omega
