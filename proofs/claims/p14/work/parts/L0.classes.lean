/-! MEET, THE COUNT: leaves, where a head that nobody turns into counts one; classes of values -/
def fcf (tn : Nat → Bool) (b : Nat) : Nat → Nat → Nat
  | 0, _ => 1
  | k + 1, n => if b < n then (if tn n = true then fcf tn b k (dn1 n) else 1) + fcf tn b k (dn2 n) else 1
theorem fcf_stab (tn : Nat → Bool) {b : Nat} (hb : 11 ≤ b) : ∀ (k j n : Nat), n < k → n < j → fcf tn b k n = fcf tn b j n
  | 0, _, _, h, _ => by omega
  | _, 0, _, _, h => by omega
  | k + 1, j + 1, n, h1, h2 => by
    simp only [fcf]
    by_cases h : b < n
    · rw [if_pos h, if_pos h]
      obtain ⟨x, y, e⟩ := nd_ex (show 11 < n by omega)
      have q1 := nd_gt1 x y
      have q2 := nd_gt2 x y
      rw [← e] at q1 q2
      have e1 : dn1 n = x := by rw [e, dn1_nd]
      have e2 : dn2 n = y := by rw [e, dn2_nd]
      rw [e1, e2, fcf_stab tn hb k j x (by omega) (by omega), fcf_stab tn hb k j y (by omega) (by omega)]
    · rw [if_neg h, if_neg h]
/-- the leaves of a value, if it is cut at the values up to b -/
def fct (tn : Nat → Bool) (b n : Nat) : Nat := fcf tn b (n + 1) n
theorem fct_low {tn : Nat → Bool} {b n : Nat} (h : n ≤ b) : fct tn b n = 1 := by
  unfold fct fcf
  rw [if_neg (by omega)]
theorem fct_nd {tn : Nat → Bool} {b : Nat} (hb : 11 ≤ b) {x y : Nat} (h : b < nd x y) : fct tn b (nd x y) = (if tn (nd x y) = true then fct tn b x else 1) + fct tn b y := by
  have q1 := nd_gt1 x y
  have q2 := nd_gt2 x y
  unfold fct
  rw [show fcf tn b (nd x y + 1) (nd x y) = (if tn (nd x y) = true then fcf tn b (nd x y) (dn1 (nd x y)) else 1) + fcf tn b (nd x y) (dn2 (nd x y)) by
    rw [fcf, if_pos h]]
  rw [dn1_nd, dn2_nd, fcf_stab tn hb (nd x y) (x + 1) x q1 (by omega), fcf_stab tn hb (nd x y) (y + 1) y q2 (by omega)]
theorem fct_pos (tn : Nat → Bool) (b n : Nat) : 0 < fct tn b n := by
  have : ∀ k m, 0 < fcf tn b k m := by
    intro k
    induction k with
    | zero => intro m; simp [fcf]
    | succ k ih =>
      intro m
      simp only [fcf]
      split
      · have := ih (dn2 m)
        omega
      · omega
  exact this _ _
/-- cut higher, and then lower -/
theorem fct_mul {tn : Nat → Bool} {S : Nat → Prop} (hS : ∀ x y, S (nd x y) → S x ∧ S y) {c b M : Nat} (hc : 11 ≤ c) (hcb : c ≤ b) (hM1 : 1 ≤ M) (hM : ∀ u, S u → u ≤ b → fct tn c u ≤ M) : ∀ (n w : Nat), w < n → S w → fct tn c w ≤ fct tn b w * M
  | 0, w, h, _ => by omega
  | n + 1, w, h, hw => by
    by_cases hb : w ≤ b
    · rw [fct_low hb, Nat.one_mul]
      exact hM w hw hb
    · obtain ⟨x, y, rfl⟩ := nd_ex (show 11 < w by omega)
      have q1 := nd_gt1 x y
      have q2 := nd_gt2 x y
      have hs := hS x y hw
      have i1 := fct_mul hS hc hcb hM1 hM n x (by omega) hs.1
      have i2 := fct_mul hS hc hcb hM1 hM n y (by omega) hs.2
      rw [fct_nd hc (by omega), fct_nd (by omega) (by omega), Nat.add_mul]
      split
      · omega
      · omega
/-- classes of values: bounds downwards, and how many leaves each class has at most -/
def clsOK (tn : Nat → Bool) (S : Nat → Prop) : Nat → List (Nat × Nat) → Prop
  | t, [] => t ≤ 11
  | t, q :: r => 11 ≤ q.1 ∧ 1 ≤ q.2 ∧ (∀ w, S w → w ≤ t → fct tn q.1 w ≤ q.2) ∧ clsOK tn S q.1 r
def prF : List (Nat × Nat) → Nat
  | [] => 1
  | q :: r => q.2 * prF r
theorem prF_pos {tn : Nat → Bool} {S : Nat → Prop} : ∀ {t : Nat} {bs : List (Nat × Nat)}, clsOK tn S t bs → 1 ≤ prF bs
  | _, [], _ => Nat.le_refl _
  | _, q :: r, h => by
    have := prF_pos h.2.2.2
    simp only [prF]
    exact Nat.mul_pos h.2.1 this
theorem fct_cls {tn : Nat → Bool} {S : Nat → Prop} (hS : ∀ x y, S (nd x y) → S x ∧ S y) : ∀ {t : Nat} {bs : List (Nat × Nat)}, clsOK tn S t bs → ∀ w, S w → w ≤ t → fct tn 11 w ≤ prF bs
  | t, [], h, w, _, hw => by
    have h : t ≤ 11 := h
    rw [fct_low (by omega)]
    exact Nat.le_refl _
  | t, q :: r, h, w, hs, hw => by
    have h1 := fct_cls hS h.2.2.2
    have h2 := fct_mul hS (Nat.le_refl 11) h.1 (prF_pos h.2.2.2) h1 (w + 1) w (by omega) hs
    have h3 := h.2.2.1 w hs hw
    simp only [prF]
    exact Nat.le_trans h2 (Nat.mul_le_mul_right _ h3)
/-- two codes come to one thing -/
def tgE (V : Nat → TV) (a c : Nat) : Prop := ∃ x, tg V a x ∧ tg V c x
theorem tgE_bind {V : Nat → TV} {i c : Nat} (ho : V i = none) (hc : vRes V c) (hne : c ≠ i) {a e : Nat} (h : tgE V a e) : tgE (vB V i c) a e := by
  obtain ⟨x, h1, h2⟩ := h
  by_cases hx : x = i
  · subst hx
    exact ⟨c, (tg_bind ho hc hne).mpr (Or.inr ⟨h1, rfl⟩), (tg_bind ho hc hne).mpr (Or.inr ⟨h2, rfl⟩)⟩
  · exact ⟨x, (tg_bind ho hc hne).mpr (Or.inl ⟨h1, hx⟩), (tg_bind ho hc hne).mpr (Or.inl ⟨h2, hx⟩)⟩
/-- where nobody turns, the heads of all codes are one -/
def tnI (tn : Nat → Bool) (D : Nat → Prop) (th : Nat → Nat) (V : Nat → TV) : Prop := ∀ c d a b e f, D c → D d → V c = some (.inr (.inr (a, b))) → V d = some (.inr (.inr (e, f))) → th c = th d → tn (th c) = false → tgE V a e
theorem tnI_bind {tn : Nat → Bool} {D : Nat → Prop} {th : Nat → Nat} {V : Nat → TV} {i x : Nat} (ho : V i = none) (hx : vRes V x) (hne : x ≠ i) (h : tnI tn D th V) : tnI tn D th (vB V i x) := by
  intro c d a b e f dc dd hc hd hv ht
  have nc : c ≠ i := fun q => by rw [q, vB_same] at hc; cases hc
  have nd2 : d ≠ i := fun q => by rw [q, vB_same] at hd; cases hd
  rw [vB_ne V i x nc] at hc
  rw [vB_ne V i x nd2] at hd
  exact tgE_bind ho hx hne (h c d a b e f dc dd hc hd hv ht)
def cTn (tn : Nat → Bool) (th : Nat → Nat) (W : Nat → TV) : List (Nat × Nat) → Nat → Prop
  | [], n => n = 0
  | q :: qs, n => ∃ k m, n = k + m ∧ cTn tn th W qs m ∧ (k + 1 = 2 * fct tn 11 (th q.1) ∨ (k = 1 ∧ tgE W q.1 q.2))
theorem cTn_bind {tn : Nat → Bool} {th : Nat → Nat} {V : Nat → TV} {i x : Nat} (ho : V i = none) (hx : vRes V x) (hne : x ≠ i) : ∀ {qs : List (Nat × Nat)} {n : Nat}, cTn tn th V qs n → cTn tn th (vB V i x) qs n
  | [], _, h => h
  | q :: qs, n, ⟨k, m, e, h, hk⟩ => ⟨k, m, e, cTn_bind ho hx hne h, hk.imp id (fun g => ⟨g.1, tgE_bind ho hx hne g.2⟩)⟩
theorem uSt_tn {tn : Nat → Bool} {D : Nat → Prop} {th : Nat → Nat} {W U : Nat → TV} {ps rs : List (Nat × Nat)} (hst : uSt D W ps U rs) (hok : ∃ rk, vOK W D rk) (hs : vSol W D th) (ht : tnI tn D th W) (hq : ∀ q ∈ ps, th q.1 = th q.2) {n : Nat} (hn : cTn tn th W ps n) : (∃ rk, vOK U D rk) ∧ vSol U D th ∧ tnI tn D th U ∧ (∀ q ∈ rs, th q.1 = th q.2) ∧ ∃ m, m < n ∧ cTn tn th U rs m := by
  obtain ⟨rk, hok⟩ := hok
  obtain ⟨x0, y0, x, y, qs, rfl, ⟨d1, d2, d3, d4⟩, ⟨w1, w2, r1, r2⟩, h⟩ := hst
  obtain ⟨k, m, rfl, hm, hk⟩ := hn
  have hqs : ∀ q ∈ qs, th q.1 = th q.2 := fun q h => hq q (List.mem_cons_of_mem _ h)
  have hxy : th x0 = th y0 := hq (x0, y0) List.mem_cons_self
  have hx : th x0 = th x := w1.1 th hs
  have hy : th y0 = th y := w2.1 th hs
  have t1 := tg_wlk hok d1 w1 r1
  have t2 := tg_wlk hok d2 w2 r2
  have hkp : 0 < k := by
    have := fct_pos tn 11 (th x0)
    rcases hk with q | q
    · simp only at q; omega
    · omega
  rcases h with ⟨_, rfl, rfl⟩ | ⟨i, c, hic, hne, ho, hr, rfl, rfl⟩ | ⟨a, b, c, d, hne, e1, e2, rfl, rfl⟩
  · exact ⟨⟨rk, hok⟩, hs, ht, hqs, m, by omega, hm⟩
  · have hcr : vRes W c := by
      rcases hic with ⟨rfl, rfl⟩ | ⟨rfl, rfl⟩
      · exact r2
      · exact r1
    refine ⟨?_, ?_, tnI_bind ho hcr (Ne.symm hne) ht, hqs, m, by omega, cTn_bind ho hcr (Ne.symm hne) hm⟩
    · rcases hic with ⟨rfl, rfl⟩ | ⟨rfl, rfl⟩
      · exact vOK_bind ho hok d4 hr
      · exact vOK_bind ho hok d3 hr
    · rcases hic with ⟨rfl, rfl⟩ | ⟨rfl, rfl⟩
      · exact (vSol_bind ho d3).mpr ⟨hs, by omega⟩
      · exact (vSol_bind ho d4).mpr ⟨hs, by omega⟩
  · have ea := (hs x d3).2.2 a b e1
    have ec := (hs y d4).2.2 c d e2
    have hxe : th x = th y := by omega
    have hi := nd_inj (a := th a) (b := th b) (a2 := th c) (b2 := th d) (by rw [← ea, ← ec]; exact hxe)
    have hb := nd_big (th a) (th b)
    have hk2 : k + 1 = 2 * fct tn 11 (th x) := by
      rcases hk with q | ⟨_, z, g1, g2⟩
      · rw [← hx]; exact q
      · exact absurd ((tg_uniq t1 g1).trans (tg_uniq t2 g2).symm) hne
    rw [ea, fct_nd (Nat.le_refl 11) hb] at hk2
    refine ⟨⟨rk, hok⟩, hs, ht, fun q hq2 => ?_, ?_⟩
    · rcases List.mem_cons.mp hq2 with rfl | hq2
      · exact hi.1
      · rcases List.mem_cons.mp hq2 with rfl | hq2
        · exact hi.2
        · exact hqs q hq2
    · have pb := fct_pos tn 11 (th b)
      have pa := fct_pos tn 11 (th a)
      cases htn : tn (nd (th a) (th b)) with
      | true =>
        rw [htn, if_pos rfl] at hk2
        refine ⟨(2 * fct tn 11 (th a) - 1) + ((2 * fct tn 11 (th b) - 1) + m), by omega, _, _, rfl, ⟨_, m, rfl, hm, Or.inl ?_⟩, Or.inl ?_⟩
        · simp only; omega
        · simp only; omega
      | false =>
        rw [htn, if_neg (by decide)] at hk2
        refine ⟨1 + ((2 * fct tn 11 (th b) - 1) + m), by omega, _, _, rfl, ⟨_, m, rfl, hm, Or.inl ?_⟩, Or.inr ⟨rfl, ?_⟩⟩
        · simp only; omega
        · exact ht x y a b c d d3 d4 e1 e2 hxe (by rw [ea]; exact htn)
theorem uRun_tn {tn : Nat → Bool} {D : Nat → Prop} {th : Nat → Nat} {V : Nat → TV} {qs : List (Nat × Nat)} (hok : ∃ rk, vOK V D rk) (hs : vSol V D th) (ht : tnI tn D th V) (hq : ∀ q ∈ qs, th q.1 = th q.2) {N : Nat} (hN : cTn tn th V qs N) : ∀ {n : Nat} {W : Nat → TV} {rs : List (Nat × Nat)}, uRun D V qs n W rs → (∃ rk, vOK W D rk) ∧ vSol W D th ∧ tnI tn D th W ∧ (∀ q ∈ rs, th q.1 = th q.2) ∧ ∃ m, n + m ≤ N ∧ cTn tn th W rs m
  | 0, W, rs, h => by
    obtain ⟨rfl, rfl⟩ := h
    exact ⟨hok, hs, ht, hq, N, by omega, hN⟩
  | n + 1, W, rs, h => by
    obtain ⟨W1, rs1, h1, h2⟩ := h
    obtain ⟨g1, g2, g3, g4, m, g5, g6⟩ := uRun_tn hok hs ht hq hN h1
    obtain ⟨k1, k2, k3, k4, m2, k5, k6⟩ := uSt_tn h2 g1 g2 g3 g4 g6
    exact ⟨k1, k2, k3, k4, m2, by omega, k6⟩
/-- so many turns as twice the leaves, at most -/
theorem uRun_lv {tn : Nat → Bool} {D : Nat → Prop} {th : Nat → Nat} {V : Nat → TV} {a b : Nat} (hok : ∃ rk, vOK V D rk) (hs : vSol V D th) (ht : tnI tn D th V) (hab : th a = th b) {n : Nat} {W : Nat → TV} {rs : List (Nat × Nat)} (hr : uRun D V [(a, b)] n W rs) : n + 1 ≤ 2 * fct tn 11 (th a) := by
  have hp := fct_pos tn 11 (th a)
  obtain ⟨k, hk⟩ : ∃ k, k + 1 = 2 * fct tn 11 (th a) := ⟨2 * fct tn 11 (th a) - 1, by omega⟩
  obtain ⟨_, _, _, _, m, g, _⟩ := uRun_tn (qs := [(a, b)]) hok hs ht (fun q hq => by
    rcases List.mem_cons.mp hq with rfl | hq
    · exact hab
    · cases hq) (N := k + 0) ⟨k, 0, rfl, rfl, Or.inl hk⟩ hr
  omega
/-- classes bound the turns -/
theorem uRun_cls {tn : Nat → Bool} {S D : Nat → Prop} {th : Nat → Nat} {V : Nat → TV} {a b t : Nat} {bs : List (Nat × Nat)} (hS : ∀ x y, S (nd x y) → S x ∧ S y) (hcl : clsOK tn S t bs) (ha : S (th a)) (hat : th a ≤ t) (hp : prF bs ≤ 500000) (hok : ∃ rk, vOK V D rk) (hs : vSol V D th) (ht : tnI tn D th V) (hab : th a = th b) {n : Nat} {W : Nat → TV} {rs : List (Nat × Nat)} (hr : uRun D V [(a, b)] n W rs) : n < 1000000 := by
  have h1 := uRun_lv hok hs ht hab hr
  have h2 := fct_cls hS hcl (th a) ha hat
  omega
