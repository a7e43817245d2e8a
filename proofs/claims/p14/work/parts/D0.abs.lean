/-! THE ABSTRACT SEARCH: terms are what they come to, states hold the set of their solutions -/
abbrev Tf : Type := (Nat → Nat) → Nat
abbrev Kx : Type := (Nat → Nat) → Prop
abbrev It : Type := Nat ⊕ (Bool × Tf × Tf × Tf)
abbrev Sx : Type := List It × List Nat × Nat × Kx
abbrev Qx : Type := List Sx × List (Nat × Sx) × Nat × Nat × Nat
abbrev Tb : Type := Nat → Nat × Tf × Tf × Tf × Nat × Nat
def uni (K : Kx) (f g : Tf) : Kx := fun r => K r ∧ f r = g r
def sax (K : Kx) : Prop := ∃ r, K r
def vr (i : Nat) : Tf := fun r => r i
def atm (n : Nat) : Tf := fun _ => n
def prf (f g : Tf) : Tf := fun r => nd (f r) (g r)
/-- the two terms of a told goal -/
def tb1 (tb : Tb) (g : Nat) : Tf := (tb g).2.1
def tb2 (tb : Tb) (g : Nat) : Tf := (tb g).2.2.1
def tb3 (tb : Tb) (g : Nat) : Tf := (tb g).2.2.2.1
def tbA (tb : Tb) (g : Nat) : Nat := (tb g).2.2.2.2.1
def tbB (tb : Tb) (g : Nat) : Nat := (tb g).2.2.2.2.2
/-- kept ones that can still be the same -/
def flt (tb : Tb) (K : Kx) : List Nat → List Nat → Prop
  | [], r => r = []
  | g :: gs, r => (sax (uni K (tb1 tb g) (tb2 tb g)) ∧ ∃ r2, r = g :: r2 ∧ flt tb K gs r2) ∨ (¬ sax (uni K (tb1 tb g) (tb2 tb g)) ∧ flt tb K gs r)
/-- a kept one that is the same -/
def kSame (tb : Tb) (K : Kx) (ks : List Nat) : Prop := ∃ g ∈ ks, ∀ r, K r → tb1 tb g r = tb2 tb g r
/-- the state goes behind all others, unless it is lost -/
def enq (q : Qx) (s : Sx) : Qx := if 60 < s.2.2.1 ∨ 40 ≤ q.1.length then (q.1, q.2.1, q.2.2.1, q.2.2.2.1 + 1, q.2.2.2.2) else (q.1 ++ [s], q.2)
/-- a state with more bindings: gone, or it goes on -/
def tri (tb : Tb) (q : Qx) (s : Sx) (q2 : Qx) : Prop := (¬ (sax s.2.2.2 ∧ ¬ kSame tb s.2.2.2 s.2.1) ∧ q2 = q) ∨ ((sax s.2.2.2 ∧ ¬ kSame tb s.2.2.2 s.2.1) ∧ ∃ ks, flt tb s.2.2.2 s.2.1 ks ∧ q2 = enq q (s.1, ks, s.2.2))
def doA (tb : Tb) (q : Qx) (td : List It) (ks : List Nat) (nv : Nat) (K : Kx) (x y z : Tf) (q2 : Qx) : Prop := ∃ q1, tri tb q (td, ks, nv, uni (uni K x (atm 10)) y z) q1 ∧ tri tb q1 (.inr (true, vr (nv + 1), y, vr (nv + 2)) :: td, ks, nv + 3, uni (uni K x (prf (vr nv) (vr (nv + 1)))) z (prf (vr nv) (vr (nv + 2)))) q2
def doM (tb : Tb) (q : Qx) (td : List It) (ks : List Nat) (nv : Nat) (K : Kx) (x l : Tf) (q2 : Qx) : Prop := ∃ q1, tri tb q (td, ks, nv + 1, uni K l (prf x (vr nv))) q1 ∧ tri tb q1 (.inr (false, x, vr (nv + 1), atm 10) :: td, ks, nv + 2, uni K l (prf (vr nv) (vr (nv + 1)))) q2
def doT (tb : Tb) (q : Qx) (g : Nat) (td : List It) (ks : List Nat) (nv : Nat) (K : Kx) (q2 : Qx) : Prop :=
  ((tb g).1 = 61 ∧ tri tb q (td, ks, nv, uni K (tb1 tb g) (tb2 tb g)) q2) ∨ ((tb g).1 = 35 ∧ tri tb q (td, g :: ks, nv, K) q2) ∨ ((tb g).1 = 38 ∧ q2 = enq q (.inl (tbA tb g) :: .inl (tbB tb g) :: td, ks, nv, K)) ∨ ((tb g).1 = 124 ∧ q2 = enq (enq q (.inl (tbA tb g) :: td, ks, nv, K)) (.inl (tbB tb g) :: td, ks, nv, K)) ∨ ((tb g).1 = 42 ∧ q2 = enq q (td, ks, nv, K)) ∨ ((tb g).1 = 33 ∧ q2 = q) ∨ ((tb g).1 = 65 ∧ doA tb q td ks nv K (tb1 tb g) (tb2 tb g) (tb3 tb g) q2) ∨ ((tb g).1 = 77 ∧ doM tb q td ks nv K (tb1 tb g) (tb2 tb g) q2)
/-- what a state that has left THE QUEUE does -/
def stp (tb : Tb) (q : Qx) (s : Sx) (q2 : Qx) : Prop := match s.1 with
  | [] => q2 = (q.1, q.2.1 ++ [(q.2.2.1, s)], q.2.2)
  | .inl g :: td => doT tb q g td s.2.1 s.2.2.1 s.2.2.2 q2
  | .inr (true, x, y, z) :: td => doA tb q td s.2.1 s.2.2.1 s.2.2.2 x y z q2
  | .inr (false, x, y, _) :: td => doM tb q td s.2.1 s.2.2.1 s.2.2.2 x y q2
def st1 (tb : Tb) (q q2 : Qx) : Prop := ∃ s rest q1, q.1 = s :: rest ∧ q.2.1.length < 30 ∧ stp tb (rest, q.2.1, q.2.2.1 + 1, q.2.2.2.1, q.2.2.2.2) s q1 ∧ q2 = (q1.1, q1.2.1, q1.2.2.1, q1.2.2.2.1, max q1.2.2.2.2 q1.1.length)
def stN (tb : Tb) : Nat → Qx → Qx → Prop
  | 0, q, q2 => q2 = q
  | n + 1, q, q2 => ∃ m, stN tb n q m ∧ st1 tb m q2
def bgn (top : Nat) : Qx := ([([.inl top], [], 6, fun _ => True)], [], 0, 0, 1)
theorem flt_uniq {tb : Tb} {K : Kx} : ∀ {gs a b : List Nat}, flt tb K gs a → flt tb K gs b → a = b
  | [], a, b, h1, h2 => h1.trans h2.symm
  | g :: gs, a, b, h1, h2 => by
    rcases h1 with ⟨s1, r1, rfl, h1⟩ | ⟨s1, h1⟩ <;> rcases h2 with ⟨s2, r2, rfl, h2⟩ | ⟨s2, h2⟩
    · rw [flt_uniq h1 h2]
    · exact absurd s1 s2
    · exact absurd s2 s1
    · exact flt_uniq h1 h2
theorem flt_ex (tb : Tb) (K : Kx) : ∀ gs : List Nat, ∃ r, flt tb K gs r
  | [] => ⟨[], rfl⟩
  | g :: gs => by
    obtain ⟨r, h⟩ := flt_ex tb K gs
    by_cases s : sax (uni K (tb1 tb g) (tb2 tb g))
    · exact ⟨g :: r, Or.inl ⟨s, r, rfl, h⟩⟩
    · exact ⟨r, Or.inr ⟨s, h⟩⟩
theorem tri_uniq {tb : Tb} {q a b : Qx} {s : Sx} (h1 : tri tb q s a) (h2 : tri tb q s b) : a = b := by
  rcases h1 with ⟨s1, rfl⟩ | ⟨s1, k1, f1, rfl⟩ <;> rcases h2 with ⟨s2, rfl⟩ | ⟨s2, k2, f2, rfl⟩
  · rfl
  · exact absurd s2 s1
  · exact absurd s1 s2
  · rw [flt_uniq f1 f2]
theorem doA_uniq {tb : Tb} {q a b : Qx} {td : List It} {ks : List Nat} {nv : Nat} {K : Kx} {x y z : Tf} (h1 : doA tb q td ks nv K x y z a) (h2 : doA tb q td ks nv K x y z b) : a = b := by
  obtain ⟨p, g1, g2⟩ := h1
  obtain ⟨r, k1, k2⟩ := h2
  have := tri_uniq g1 k1
  subst this
  exact tri_uniq g2 k2
theorem doM_uniq {tb : Tb} {q a b : Qx} {td : List It} {ks : List Nat} {nv : Nat} {K : Kx} {x y : Tf} (h1 : doM tb q td ks nv K x y a) (h2 : doM tb q td ks nv K x y b) : a = b := by
  obtain ⟨p, g1, g2⟩ := h1
  obtain ⟨r, k1, k2⟩ := h2
  have := tri_uniq g1 k1
  subst this
  exact tri_uniq g2 k2
theorem doT_uniq {tb : Tb} {q a b : Qx} {g : Nat} {td : List It} {ks : List Nat} {nv : Nat} {K : Kx} (h1 : doT tb q g td ks nv K a) (h2 : doT tb q g td ks nv K b) : a = b := by
  unfold doT at h1 h2
  rcases h1 with ⟨e, h1⟩ | ⟨e, h1⟩ | ⟨e, h1⟩ | ⟨e, h1⟩ | ⟨e, h1⟩ | ⟨e, h1⟩ | ⟨e, h1⟩ | ⟨e, h1⟩ <;> rcases h2 with ⟨e2, h2⟩ | ⟨e2, h2⟩ | ⟨e2, h2⟩ | ⟨e2, h2⟩ | ⟨e2, h2⟩ | ⟨e2, h2⟩ | ⟨e2, h2⟩ | ⟨e2, h2⟩ <;> first | (exfalso; omega) | exact h1.trans h2.symm | exact tri_uniq h1 h2 | exact doA_uniq h1 h2 | exact doM_uniq h1 h2
theorem stp_uniq {tb : Tb} {q a b : Qx} {s : Sx} (h1 : stp tb q s a) (h2 : stp tb q s b) : a = b := by
  obtain ⟨td, ks, nv, K⟩ := s
  unfold stp at h1 h2
  match td, h1, h2 with
  | [], h1, h2 => exact h1.trans h2.symm
  | .inl g :: td, h1, h2 => exact doT_uniq h1 h2
  | .inr (true, x, y, z) :: td, h1, h2 => exact doA_uniq h1 h2
  | .inr (false, x, y, z) :: td, h1, h2 => exact doM_uniq h1 h2
theorem st1_uniq {tb : Tb} {q a b : Qx} (h1 : st1 tb q a) (h2 : st1 tb q b) : a = b := by
  obtain ⟨s, r, p, e1, _, g1, rfl⟩ := h1
  obtain ⟨s2, r2, p2, e2, _, g2, rfl⟩ := h2
  rw [e1] at e2
  cases e2
  rw [stp_uniq g1 g2]
theorem stN_uniq {tb : Tb} {q : Qx} : ∀ {n : Nat} {a b : Qx}, stN tb n q a → stN tb n q b → a = b
  | 0, a, b, h1, h2 => h1.trans h2.symm
  | n + 1, a, b, ⟨m, g1, g2⟩, ⟨m2, k1, k2⟩ => by
    have := stN_uniq g1 k1
    subst this
    exact st1_uniq g2 k2
theorem enq_step (q : Qx) (s : Sx) : (enq q s).2.2.1 = q.2.2.1 ∧ (enq q s).2.1 = q.2.1 ∧ (enq q s).2.2.2.2 = q.2.2.2.2 := by
  unfold enq
  split <;> exact ⟨rfl, rfl, rfl⟩
theorem tri_step {tb : Tb} {q a : Qx} {s : Sx} (h : tri tb q s a) : a.2.2.1 = q.2.2.1 ∧ a.2.1 = q.2.1 := by
  rcases h with ⟨_, rfl⟩ | ⟨_, ks, _, rfl⟩
  · exact ⟨rfl, rfl⟩
  · exact ⟨(enq_step _ _).1, (enq_step _ _).2.1⟩
theorem stp_step {tb : Tb} {q a : Qx} {s : Sx} (h : stp tb q s a) : a.2.2.1 = q.2.2.1 := by
  obtain ⟨td, ks, nv, K⟩ := s
  have hA : ∀ {td x y z}, doA tb q td ks nv K x y z a → a.2.2.1 = q.2.2.1 := by
    rintro td x y z ⟨p, g1, g2⟩
    rw [(tri_step g2).1, (tri_step g1).1]
  have hM : ∀ {td x y}, doM tb q td ks nv K x y a → a.2.2.1 = q.2.2.1 := by
    rintro td x y ⟨p, g1, g2⟩
    rw [(tri_step g2).1, (tri_step g1).1]
  unfold stp at h
  match td, h with
  | [], h => rw [h]
  | .inl g :: td, h =>
    rcases h with ⟨_, h⟩ | ⟨_, h⟩ | ⟨_, h⟩ | ⟨_, h⟩ | ⟨_, h⟩ | ⟨_, h⟩ | ⟨_, h⟩ | ⟨_, h⟩
    · exact (tri_step h).1
    · exact (tri_step h).1
    · rw [h]; exact (enq_step _ _).1
    · rw [h, (enq_step _ _).1]; exact (enq_step _ _).1
    · rw [h]; exact (enq_step _ _).1
    · rw [h]
    · exact hA h
    · exact hM h
  | .inr (true, x, y, z) :: td, h => exact hA h
  | .inr (false, x, y, z) :: td, h => exact hM h
theorem tri_most {tb : Tb} {q a : Qx} {s : Sx} (h : tri tb q s a) : a.2.2.2.2 = q.2.2.2.2 ∧ a.2.1 = q.2.1 := by
  rcases h with ⟨_, rfl⟩ | ⟨_, ks, _, rfl⟩
  · exact ⟨rfl, rfl⟩
  · exact ⟨(enq_step _ _).2.2, (enq_step _ _).2.1⟩
theorem stp_most {tb : Tb} {q a : Qx} {s : Sx} (h : stp tb q s a) : a.2.2.2.2 = q.2.2.2.2 := by
  obtain ⟨td, ks, nv, K⟩ := s
  have hA : ∀ {td x y z}, doA tb q td ks nv K x y z a → a.2.2.2.2 = q.2.2.2.2 := by
    rintro td x y z ⟨p, g1, g2⟩
    rw [(tri_most g2).1, (tri_most g1).1]
  have hM : ∀ {td x y}, doM tb q td ks nv K x y a → a.2.2.2.2 = q.2.2.2.2 := by
    rintro td x y ⟨p, g1, g2⟩
    rw [(tri_most g2).1, (tri_most g1).1]
  unfold stp at h
  match td, h with
  | [], h => rw [h]
  | .inl g :: td, h =>
    rcases h with ⟨_, h⟩ | ⟨_, h⟩ | ⟨_, h⟩ | ⟨_, h⟩ | ⟨_, h⟩ | ⟨_, h⟩ | ⟨_, h⟩ | ⟨_, h⟩
    · exact (tri_most h).1
    · exact (tri_most h).1
    · rw [h]; exact (enq_step _ _).2.2
    · rw [h, (enq_step _ _).2.2]; exact (enq_step _ _).2.2
    · rw [h]; exact (enq_step _ _).2.2
    · rw [h]
    · exact hA h
    · exact hM h
  | .inr (true, x, y, z) :: td, h => exact hA h
  | .inr (false, x, y, z) :: td, h => exact hM h
theorem stN_step {tb : Tb} {q : Qx} : ∀ {n : Nat} {a : Qx}, stN tb n q a → a.2.2.1 = q.2.2.1 + n
  | 0, a, h => by rw [h]; rfl
  | n + 1, a, ⟨m, g1, s, r, p, e1, _, g2, g3⟩ => by
    have := stN_step g1
    have h2 := stp_step g2
    rw [g3]
    show p.2.2.1 = _
    rw [h2]
    show m.2.2.1 + 1 = _
    omega
theorem st1_step {tb : Tb} {q a : Qx} (h : st1 tb q a) : a.2.2.1 = q.2.2.1 + 1 := by
  obtain ⟨s, r, p, e1, _, g2, g3⟩ := h
  rw [g3]
  show p.2.2.1 = _
  rw [stp_step g2]
