/-! CHAINS OF BLOCKS, when nothing is left to do -/
/-- q is the n-th block of the chain that begins at R -/
def dpt (L : List Bk) (R : Nat) : Nat → Bk → Prop
  | 0, q => (q ∈ L ∧ bkR q = R) ∧ bkP q = 0
  | n + 1, q => (q ∈ L ∧ bkR q = R) ∧ ∃ p, dpt L R n p ∧ bkP q = bkB p ∧ bkP q ≠ 0
theorem dpt_in {L : List Bk} {R : Nat} : ∀ {n : Nat} {q : Bk}, dpt L R n q → q ∈ L ∧ bkR q = R
  | 0, _, h => h.1
  | _ + 1, _, h => h.1
theorem sfx_snoc : ∀ {k a x y : Nat}, sfx k a (nd x y) → sfx (k + 1) a y
  | 0, a, x, y, h => by
    have h : a = nd x y := h
    exact ⟨x, y, h, rfl⟩
  | k + 1, a, x, y, ⟨u, v, e, h⟩ => ⟨u, v, e, sfx_snoc h⟩
theorem sfx_back : ∀ {k a s : Nat}, sfx (k + 1) a s → ∃ x, sfx k a (nd x s)
  | 0, a, s, ⟨u, v, e, h⟩ => by
    have h : v = s := h
    rw [h] at e
    exact ⟨u, e⟩
  | k + 1, a, s, ⟨u, v, e, h⟩ => by
    obtain ⟨x, g⟩ := sfx_back h
    exact ⟨x, u, v, e, g⟩
theorem sfx_one : ∀ {k j a w : Nat}, sfx k a w → sfx j a w → k = j
  | 0, 0, _, _, _, _ => rfl
  | 0, j + 1, a, w, h, g => by
    have h : a = w := h
    have := sfx_lt g
    omega
  | k + 1, 0, a, w, h, g => by
    have g : a = w := g
    have := sfx_lt h
    omega
  | k + 1, j + 1, a, w, ⟨x, y, e, h⟩, ⟨x2, y2, e2, g⟩ => by
    rw [e] at e2
    obtain ⟨_, rfl⟩ := nd_inj e2
    rw [sfx_one h g]
/-- an unfold's values -/
def utv (r : Nat → Nat) (q : Bk) : Nat := nd (r (bkB q)) (r (bkB q + 1))
def uhv (r : Nat → Nat) (q : Bk) : Nat := nd (r (bkB q)) (r (bkB q + 2))
section
variable {tb : Tb} {nv : Nat} {K : Kx} {L : List Bk} {r : Nat → Nat}
theorem HsO.pre (h : HsO tb [] nv K L) {q : Bk} (hq : q ∈ L) (h0 : bkP q ≠ 0) : ∃ p ∈ L, bkB p = bkP q ∧ bkG p = bkG q ∧ bkR p = bkR q ∧ bkK p = (if bkK q = 0 then 0 else 1) ∧ bkB p < bkB q := (h.2.1 q hq).2.2 h0
theorem HsO.suc (h : HsO tb [] nv K L) {p q : Bk} (hp : p ∈ L) (hq : q ∈ L) (e : bkP p = bkB q) : bkP p ≠ 0 ∧ bkG q = bkG p ∧ bkR q = bkR p ∧ bkK q = (if bkK p = 0 then 0 else 1) ∧ bkB q < bkB p := by
  have := (cov_in h.1).2 q hq
  have h0 : bkP p ≠ 0 := by omega
  obtain ⟨u, hu, u1, u2, u3, u4, u5⟩ := h.pre hp h0
  obtain rfl := cov_uniq h.1 u hu q hq (by rw [u1, e])
  exact ⟨h0, u2, u3, u4, u5⟩
theorem dpt_ex (h : HsO tb [] nv K L) : ∀ (m : Nat) (q : Bk), bkB q < m → q ∈ L → ∃ n, dpt L (bkR q) n q := by
  intro m
  induction m with
  | zero => intro q hm; omega
  | succ m ih =>
    intro q hm hq
    by_cases h0 : bkP q = 0
    · exact ⟨0, ⟨hq, rfl⟩, h0⟩
    · obtain ⟨p, hp, p1, p2, p3, p4, p5⟩ := h.pre hq h0
      obtain ⟨n, hn⟩ := ih p (by omega) hp
      rw [p3] at hn
      exact ⟨n + 1, ⟨hq, rfl⟩, p, hn, p1.symm, h0⟩
theorem dpt_u (h : HsO tb [] nv K L) {R : Nat} : ∀ {n : Nat} {p q : Bk}, dpt L R n p → dpt L R n q → p = q
  | 0, p, q, hp, hq => by
    have a := ((h.2.1 p hp.1.1).2.1 hp.2)
    have b := ((h.2.1 q hq.1.1).2.1 hq.2)
    refine cov_uniq h.1 p hp.1.1 q hq.1.1 ?_
    rw [← a, ← b, hp.1.2, hq.1.2]
  | n + 1, p, q, ⟨hp, u, hu, e1, e2⟩, ⟨hq, v, hv, g1, g2⟩ => by
    have := dpt_u h hu hv
    subst this
    exact h.2.2.2.1 p hp.1 q hq.1 (by rw [e1, g1]) e2
/-- a chain has one goal, one kind -/
theorem dpt_0 (h : HsO tb [] nv K L) {R : Nat} : ∀ {n : Nat} {q : Bk}, dpt L R n q → ∃ p, dpt L R 0 p ∧ bkG p = bkG q ∧ (bkK p = 0 ↔ bkK q = 0)
  | 0, q, hq => ⟨q, hq, rfl, Iff.rfl⟩
  | n + 1, q, ⟨hq, u, hu, e1, e2⟩ => by
    obtain ⟨p, p1, p2, p3⟩ := dpt_0 h hu
    obtain ⟨_, s1, s2, s3, _⟩ := h.suc hq.1 (dpt_in hu).1 e1
    refine ⟨p, p1, p2.trans s1, p3.trans ?_⟩
    rw [s3]
    by_cases z : bkK q = 0
    · rw [if_pos z]; exact ⟨fun _ => z, fun _ => rfl⟩
    · rw [if_neg z]; exact ⟨fun y => absurd y (by decide), fun y => absurd y z⟩
theorem chn_G (h : HsO tb [] nv K L) {p q : Bk} (hp : p ∈ L) (hq : q ∈ L) (e : bkR p = bkR q) : bkG p = bkG q ∧ (bkK p = 0 ↔ bkK q = 0) := by
  obtain ⟨n, hn⟩ := dpt_ex h _ p (Nat.lt_succ_self _) hp
  obtain ⟨m, hm⟩ := dpt_ex h _ q (Nat.lt_succ_self _) hq
  rw [e] at hn
  obtain ⟨a, a1, a2, a3⟩ := dpt_0 h hn
  obtain ⟨b, b1, b2, b3⟩ := dpt_0 h hm
  obtain rfl := dpt_u h a1 b1
  exact ⟨a2.symm.trans b2, a3.symm.trans b3⟩
/-- 'A': where a block stands in the lists -/
theorem A_sfx (h : HsO tb [] nv K L) (hr : K r) {R : Nat} : ∀ {n : Nat} {q : Bk}, dpt L R n q → bkK q = 0 → sfx n (tb1 tb (bkG q) r) (utv r q) ∧ sfx n (tb3 tb (bkG q) r) (uhv r q)
  | 0, q, hq, h0 => by
    have := ((h.2.2.1 r hr q hq.1.1).1 h0).1 hq.2
    exact ⟨this.1, this.2⟩
  | n + 1, q, ⟨hq, p, hp, e1, e2⟩, h0 => by
    obtain ⟨_, s1, s2, s3, _⟩ := h.suc hq.1 (dpt_in hp).1 e1
    rw [if_pos h0] at s3
    obtain ⟨g1, g2⟩ := A_sfx h hr hp s3
    have e := ((h.2.2.1 r hr q hq.1).1 h0).2 e2
    rw [e1] at e
    rw [s1] at g1 g2
    have k1 := sfx_snoc g1
    have k2 := sfx_snoc g2
    rw [e.1] at k1
    rw [e.2] at k2
    exact ⟨k1, k2⟩
theorem A_next (h : HsO tb [] nv K L) (hr : K r) {q : Bk} (hq : q ∈ L) (h0 : bkK q = 0) : (∃ p ∈ L, bkP p = bkB q ∧ bkP p ≠ 0 ∧ bkG q = bkG p ∧ bkR q = bkR p ∧ bkK p = 0 ∧ bkB q < bkB p ∧ r (bkB q + 1) = utv r p ∧ r (bkB q + 2) = uhv r p) ∨ (r (bkB q + 1) = 10 ∧ tb2 tb (bkG q) r = r (bkB q + 2)) := by
  obtain ⟨_, _, h3, _, bs, h5, _, _, h8, _⟩ := id h
  have h5 : bs = [] := h5
  rcases h8 q hq h0 with ⟨p, hp, e⟩ | e | e
  · left
    obtain ⟨s0, s1, s2, s3, s4⟩ := h.suc hp hq e
    have k0 : bkK p = 0 := by
      by_cases z : bkK p = 0
      · exact z
      · rw [if_neg z] at s3; omega
    have v := ((h3 r hr p hp).1 k0).2 s0
    rw [e] at v
    exact ⟨p, hp, e, s0, s1, s2, k0, s4, v.1, v.2⟩
  · exact Or.inr (e r hr)
  · rw [h5] at e; cases e
theorem A_end (h : HsO tb [] nv K L) (hr : K r) : ∀ (m : Nat) (q : Bk), nv - bkB q < m → q ∈ L → bkK q = 0 → ∃ k, catV k (r (bkB q + 1)) (tb2 tb (bkG q) r) (r (bkB q + 2)) := by
  intro m
  induction m with
  | zero => intro q hm; omega
  | succ m ih =>
    intro q hm hq h0
    rcases A_next h hr hq h0 with ⟨p, hp, p1, p2, p3, p4, p5, p6, p7, p8⟩ | ⟨e1, e2⟩
    · have c1 := (cov_in h.1).2 p hp
      have c2 := bkS_pos p
      obtain ⟨k, hk⟩ := ih p (by omega) hp p5
      rw [← p3] at hk
      exact ⟨k + 1, _, _, _, p7, p8, hk⟩
    · exact ⟨0, e1, e2.symm⟩
theorem A_cov (h : HsO tb [] nv K L) (hr : K r) {R g : Nat} {p0 : Bk} (h0 : dpt L R 0 p0) (hk : bkK p0 = 0) (hg : bkG p0 = g) : ∀ {m s : Nat}, sfx m (tb1 tb g r) s → 11 < s → ∃ q, dpt L R m q ∧ bkK q = 0 ∧ bkG q = g ∧ utv r q = s
  | 0, s, hs, h9 => by
    have hs : tb1 tb g r = s := hs
    have := ((h.2.2.1 r hr p0 h0.1.1).1 hk).1 h0.2
    rw [hg, hs] at this
    exact ⟨p0, h0, hk, hg, this.1.symm⟩
  | m + 1, s, hs, h9 => by
    obtain ⟨x, hx⟩ := sfx_back hs
    obtain ⟨q, q1, q2, q3, q4⟩ := A_cov h hr h0 hk hg hx (nd_big x s)
    have es : r (bkB q + 1) = s := (nd_inj q4).2
    obtain ⟨i1, i2⟩ := dpt_in q1
    rcases A_next h hr i1 q2 with ⟨p, hp, p1, p2, p3, p4, p5, p6, p7, p8⟩ | ⟨e1, e2⟩
    · exact ⟨p, ⟨⟨hp, by rw [← p4, i2]⟩, q, q1, p1, p2⟩, p5, by rw [← p3, q3], by rw [← p7, es]⟩
    · omega
/-- 'M': the letter comes in the end -/
theorem M_end (h : HsO tb [] nv K L) (hr : K r) : ∀ (m : Nat) (q : Bk), nv - bkB q < m → q ∈ L → bkK q = 1 → ∃ k s, sfx k (r (bkB q + 1)) (nd (tb1 tb (bkG q) r) s) := by
  intro m
  induction m with
  | zero => intro q hm; omega
  | succ m ih =>
    intro q hm hq h1
    obtain ⟨_, _, h3, _, bs, h5, _, _, _, h9⟩ := id h
    have h5 : bs = [] := h5
    rcases h9 q hq h1 with ⟨p, hp, e⟩ | e
    · obtain ⟨s0, s1, s2, s3, s4⟩ := h.suc hp hq e
      have c1 := (cov_in h.1).2 p hp
      have c2 := bkS_pos p
      have k0 : bkK p ≠ 0 := fun z => by
        rw [if_pos z] at s3; omega
      have kk : bkK p = 1 ∨ bkK p = 2 := by
        rcases (h.2.1 p hp).1 with z | z
        · exact absurd z.1 k0
        · exact z.1
      rcases kk with z | z
      · have v := ((h3 r hr p hp).2.1 z).2 s0
        obtain ⟨k, s, hk⟩ := ih p (by omega) hp z
        rw [e] at v
        rw [← s1] at hk
        exact ⟨k + 1, s, _, _, v, hk⟩
      · have v := ((h3 r hr p hp).2.2 z).2 s0
        rw [e, ← s1] at v
        exact ⟨0, _, v⟩
    · rw [h5] at e; cases e
theorem dpt_lt (h : HsO tb [] nv K L) {R : Nat} : ∀ {m n : Nat} {q : Bk}, dpt L R m q → n < m → ∃ p, dpt L R n p ∧ bkK p ≠ 2
  | 0, n, q, _, hn => by omega
  | m + 1, n, q, ⟨hq, p, hp, e1, e2⟩, hn => by
    by_cases z : n = m
    · subst z
      refine ⟨p, hp, fun k2 => ?_⟩
      obtain ⟨_, _, _, s3, _⟩ := h.suc hq.1 (dpt_in hp).1 e1
      rw [k2] at s3
      by_cases y : bkK q = 0
      · rw [if_pos y] at s3; omega
      · rw [if_neg y] at s3; omega
    · exact dpt_lt h hp (by omega)
/-- an 'M' is found once -/
theorem M_one {C : Cf} (h : HsO C.tb [] nv K L) (hc : hCt C [] L) {p q : Bk} (hp : p ∈ L) (hq : q ∈ L) (kp : bkK p = 2) (kq : bkK q = 2) (e : bkG p = bkG q) : p = q := by
  obtain ⟨n, hn⟩ := dpt_ex h _ p (Nat.lt_succ_self _) hp
  obtain ⟨m, hm⟩ := dpt_ex h _ q (Nat.lt_succ_self _) hq
  obtain ⟨a, a1, a2, _⟩ := dpt_0 h hn
  obtain ⟨b, b1, b2, _⟩ := dpt_0 h hm
  have h77 : (C.tb (bkG p)).1 = 77 := by
    rcases (h.2.1 p hp).1 with z | z
    · rw [kp] at z; exact absurd z.1 (by decide)
    · exact z.2
  have one := hc (bkG p) h77
  simp only [sumI, Nat.add_zero] at one
  have hab : a = b := by
    refine Classical.byContradiction (fun hne => ?_)
    have : 2 ≤ L.countP (fun q => decide (bkP q = 0 ∧ bkG q = bkG p)) := by
      rw [List.countP_eq_length_filter]
      have m1 : a ∈ L.filter (fun q => decide (bkP q = 0 ∧ bkG q = bkG p)) := List.mem_filter.mpr ⟨a1.1.1, decide_eq_true ⟨a1.2, a2⟩⟩
      have m2 : b ∈ L.filter (fun q => decide (bkP q = 0 ∧ bkG q = bkG p)) := List.mem_filter.mpr ⟨b1.1.1, decide_eq_true ⟨b1.2, b2.trans e.symm⟩⟩
      match L.filter (fun q => decide (bkP q = 0 ∧ bkG q = bkG p)), m1, m2 with
      | [], m1, _ => cases m1
      | [x], m1, m2 =>
        rw [List.mem_singleton] at m1 m2
        exact absurd (m1.trans m2.symm) hne
      | x :: y :: l, _, _ => simp only [List.length_cons]; omega
    omega
  subst hab
  have eR : bkR p = bkR q := by rw [← a1.1.2, ← b1.1.2]
  rw [← eR] at hm
  rcases Nat.lt_trichotomy n m with z | z | z
  · obtain ⟨u, u1, u2⟩ := dpt_lt h hm z
    rw [← dpt_u h hn u1] at u2
    exact absurd kp u2
  · subst z
    exact dpt_u h hn hm
  · obtain ⟨u, u1, u2⟩ := dpt_lt h hn z
    rw [← dpt_u h hm u1] at u2
    exact absurd kq u2
theorem cov_sum : ∀ {L : List Bk} {n : Nat}, cov L n → 3 * L.countP (fun q => decide (bkK q = 0)) + 2 * L.countP (fun q => decide (bkK q = 1)) + 6 ≤ n
  | [], n, h => by
    have h : n = 6 := h
    simp only [List.countP_nil]
    omega
  | q :: L, n, ⟨h, g⟩ => by
    have ih := cov_sum g
    rw [List.countP_cons, List.countP_cons]
    unfold bkS at h
    by_cases z : bkK q = 0
    · rw [if_pos z] at h
      rw [if_pos (decide_eq_true z), if_neg (by rw [decide_eq_true_eq]; omega)]
      omega
    · rw [if_neg z] at h
      rw [if_neg (by rw [decide_eq_true_eq]; exact z)]
      by_cases y : bkK q = 1
      · rw [if_pos y] at h
        rw [if_pos (decide_eq_true y)]
        omega
      · rw [if_neg y] at h
        rw [if_neg (by rw [decide_eq_true_eq]; exact y)]
        omega
end
