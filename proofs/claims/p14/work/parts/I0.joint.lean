/-! BOTH, EXACTLY: what they hold between calls -/
abbrev Ab : Type := Tb × Nat × Nat × Qx
abbrev Ab.tb (A : Ab) : Tb := A.1
abbrev Ab.nG (A : Ab) : Nat := A.2.1
abbrev Ab.nT (A : Ab) : Nat := A.2.2.1
abbrev Ab.Q (A : Ab) : Qx := A.2.2.2
def gTx (tx : Nat → Int32) (n : Nat) (A : Ab) : Prop := n ≤ 96 ∧ A.nG ≤ 24 ∧ A.nT ≤ 40 ∧ RRun tx n n 0 ([103], 0, 0, none) (.inr (A.nG, A.nT, none)) ∧ MRt tx A.tb n
def stA (A : Ab) : Prop := A.Q.2.2.1 ≤ 300 ∧ rcd A.tb A.Q ∧ A.Q.2.2.2.2 ≤ 40
/-- the reference -/
def MJb (s : rSg) (A : Ab) (im : Option Ab) (T G L h g : Nat) : Prop := RSa A.tb (Rb A.nG A.nG) s 0 T G L h A.Q ∧ (T ≤ 115 + 2 * A.Q.2.2.1 ∧ G ≤ 24 + A.Q.2.2.1 ∧ L ≤ 2 + 25 * A.Q.2.2.1) ∧ (s 725 47 = nI g ∧ g + 1 = A.nG ∧ g < G ∧ nh s g ≤ 12) ∧ (∃ n, s 725 40 = nI n ∧ gTx (s 753) n A) ∧ stA A ∧ (im = none → s 725 48 = 0) ∧ ∀ B, im = some B → s 725 48 = 1 ∧ stA B ∧ ∃ n, s 725 41 = nI n ∧ gTx (s 754) n B ∧ s 725 42 = nI B.Q.2.2.1
def MJ (s : rSg) (A : Ab) (im : Option Ab) : Prop := ∃ T G L h g, MJb s A im T G L h g
/-- the class -/
def CJ (s : rSg) (A : Ab) (im : Option Ab) : Prop := hQ s 6 A.tb A.nG A.nT A.Q ∧ (im = none → s 0 13 = 0) ∧ ∀ B, im = some B → s 0 13 = 1 ∧ hQ s 454 B.tb B.nG B.nT B.Q
/-- what both have: letters, numbers, refusals -/
def SH (s : rSg) : Prop := (∃ n, n ≤ 96 ∧ s 687 1 = nI n ∧ s 725 39 = nI n ∧ ∀ i, i < n → s 688 i = s 752 i) ∧ (∃ m, m ≤ 32 ∧ s 689 1 = nI m ∧ s 725 58 = nI m ∧ ∀ i, i < m → s 690 i = s 759 i) ∧ s 691 = s 726
def JI (k : Nat) (s : rSg) : Prop := ∃ A im, clI s ∧ CJ s A im ∧ MJ s A im ∧ SH s ∧ ∃ l, cSn s l ∧ l + k * 5304000 + 30000 < 2 ^ 32
theorem cSe_frame {C : Cf} (hC : cfOK C) {s t : rSg} {b : Nat} {Q : Qx} (h : cSe C s b Q) (e : ∀ q, b ≤ q → q ≤ b + 223 → t q = s q) : cSe C t b Q := by
  obtain ⟨np, gl, h1, h2, h3⟩ := h
  have ss : scSame np gl (b + 1) (b + 1) s t := scSame.of (e _ (by omega) (by omega)) (e _ (by omega) (by omega)) (e _ (by omega) (by omega))
  exact ⟨np, gl, cSc_same h1 ss (by rw [e _ (by omega) (by omega)]; exact h1.2.1) (by rw [e _ (by omega) (by omega)]; exact h1.2.2.1) ⟨Nat.le_refl _, h1.1.2.1⟩ ⟨Nat.le_refl _, h1.1.2.2.2⟩, cQ_frame hC h1 h2 ⟨Nat.le_refl _, h1.1.2.1⟩ (Nat.le_refl _) ss (fun j _ _ => by rw [e _ (by omega) (by omega)]) (fun q a b => e q (by omega) (by omega)), h3⟩
theorem scT_frame {C : Cf} {s t : rSg} {b top nT : Nat} (htp : C.tp ≤ 640) (h : scT C s b top nT) (e : ∀ q, b ≤ q → q ≤ b + 3 → t q = s q) : scT C t b top nT := by
  obtain ⟨h1, h2, h3, h4, h5, h6, h7⟩ := h
  have e0 := e b (by omega) (by omega)
  refine ⟨by rw [e0]; exact h1, by rw [e0]; exact h2, by rw [e0]; exact h3, by rw [e0]; exact h4, cTo_same h5 (fun j _ => by rw [e _ (by omega) (by omega)]), cTab_same h5 htp (scSame.of (e _ (by omega) (by omega)) (e _ (by omega) (by omega)) (e _ (by omega) (by omega))) h6, h7⟩
theorem hQ_frame {s t : rSg} {b : Nat} {tb : Tb} {nG nT : Nat} {Q : Qx} (h : hQ s b tb nG nT Q) (e : ∀ q, b ≤ q → q ≤ b + 223 → t q = s q) : hQ t b tb nG nT Q := by
  obtain ⟨C, h1, h2, h3, h4, h5, h6, h7, h8⟩ := h
  have htp : C.tp ≤ 640 := by
    obtain ⟨np, gl, q, _⟩ := h7
    have := q.1
    omega
  exact ⟨C, h1, h2, h3, h4, h5, h6, cSe_frame h3.1 h7 e, scT_frame htp h8 (fun q a b => e q (by omega) (by omega))⟩
/-- cells of the class that no asking changes -/
def kc (s t : rSg) : Prop := ∀ q, q = 0 ∨ (6 ≤ q ∧ q ≤ 229) ∨ (454 ≤ q ∧ q ≤ 677) ∨ (687 ≤ q ∧ q ≤ 690) ∨ 725 ≤ q → t q = s q
theorem kc.rfl' {s : rSg} : kc s s := fun _ _ => rfl
theorem kc.trans {s t u : rSg} (h1 : kc s t) (h2 : kc t u) : kc s u := fun q hq => (h2 q hq).trans (h1 q hq)
theorem kc.of {s t : rSg} (h : ∀ q, q < 230 ∨ 453 < q → t q = s q) : kc s t := fun q hq => h q (by omega)
theorem kc.tf {s t : rSg} (h : tf s t) : kc s t := fun q hq => h q (by omega)
theorem CJ.fr {s t : rSg} {A : Ab} {im : Option Ab} (c : CJ s A im) (h : ∀ q, q = 0 ∨ (6 ≤ q ∧ q ≤ 229) ∨ (454 ≤ q ∧ q ≤ 677) → t q = s q) : CJ t A im := by
  obtain ⟨c1, c2, c3⟩ := c
  refine ⟨hQ_frame c1 (fun q a b => h q (by omega)), fun z => by rw [h 0 (by omega)]; exact c2 z, fun B z => ?_⟩
  obtain ⟨d1, d2⟩ := c3 B z
  exact ⟨by rw [h 0 (by omega)]; exact d1, hQ_frame d2 (fun q a b => h q (by omega))⟩
theorem kc.C {s t : rSg} {A : Ab} {im : Option Ab} (h : kc s t) (c : CJ s A im) : CJ t A im := c.fr (fun q hq => h q (by omega))
theorem CJ.cong {s t : rSg} {A : Ab} {im : Option Ab} (c : CJ s A im) (e : mC s t) : CJ t A im := c.fr (fun q hq => e q (by omega))
theorem RSa.keep {tb : Tb} {R : Nat → Nat → Prop} {s t : rSg} {z T G L h : Nat} {Q : Qx} (hs : RSa tb R s z T G L h Q) (k1 : ∀ q, (727 ≤ q ∧ q ≤ 735) ∨ (739 ≤ q ∧ q ≤ 751) → t q = s q) (k2 : ∀ j, j = 10 ∨ j = 11 ∨ j = 12 ∨ j = 21 → t 725 j = s 725 j) : RSa tb R t z T G L h Q ∧ hx T G L s t := by
  obtain ⟨h1, h2, h3, h4⟩ := hs
  have e : hx T G L s t := ⟨fun j _ => by rw [k1 727 (by omega), k1 728 (by omega)]; exact ⟨rfl, rfl⟩, fun j _ => by rw [k1 729 (by omega), k1 730 (by omega), k1 731 (by omega), k1 732 (by omega)]; exact ⟨rfl, rfl, rfl, rfl⟩, fun j _ => by rw [k1 733 (by omega), k1 734 (by omega), k1 735 (by omega)]; exact ⟨rfl, rfl, rfl⟩⟩
  have ht : hp t T G L := h1.keep e ⟨k2 10 (by omega), k2 11 (by omega), k2 12 (by omega)⟩
  exact ⟨⟨ht, ⟨by rw [k2 21 (by omega)]; exact h2.1, h2.2⟩, h3.ext h1 ht e (Nat.le_refl _) (Nat.le_refl _) (Nat.le_refl _) (sy.of (fun k a b => k1 k (by omega))), mTab_ext e (Nat.le_refl _) (Nat.le_refl _) h4⟩, e⟩
theorem MJb.keep {s t : rSg} {A : Ab} {im : Option Ab} {T G L h g : Nat} (hm : MJb s A im T G L h g) (k1 : ∀ q, (727 ≤ q ∧ q ≤ 735) ∨ (739 ≤ q ∧ q ≤ 751) ∨ q = 753 ∨ q = 754 → t q = s q) (k2 : ∀ j, j = 10 ∨ j = 11 ∨ j = 12 ∨ j = 21 ∨ (40 ≤ j ∧ j ≤ 42) ∨ j = 47 ∨ j = 48 → t 725 j = s 725 j) : MJb t A im T G L h g := by
  obtain ⟨r1, r2, r3, r4, r5, r6, r7⟩ := hm
  obtain ⟨t1, e⟩ := r1.keep (t := t) (fun q hq => k1 q (by omega)) (fun j hj => k2 j (by omega))
  refine ⟨t1, r2, ⟨by rw [k2 47 (by omega)]; exact r3.1, r3.2.1, r3.2.2.1, ?_⟩, by rw [k2 40 (by omega), k1 753 (by omega)]; exact r4, r5, fun z => by rw [k2 48 (by omega)]; exact r6 z, fun B z => by rw [k2 48 (by omega), k2 41 (by omega), k2 42 (by omega), k1 754 (by omega)]; exact r7 B z⟩
  rw [nh_ext r1.1.2.2.2 (by have := r1.1.1; omega) e.2.1 r3.2.2.1]
  exact r3.2.2.2
theorem MJ.cong {s t : rSg} {A : Ab} {im : Option Ab} (h : MJ s A im) (e : ∀ q, 725 ≤ q → t q = s q) : MJ t A im := by
  obtain ⟨T, G, L, hd, g, hb⟩ := h
  exact ⟨T, G, L, hd, g, hb.keep (fun q hq => e q (by omega)) (fun j hj => by rw [e 725 (by omega)])⟩
/-- cells that asking changes -/
def kJ : List Nat := [726, 736, 737, 738, 752, 755, 756, 757, 758, 759]
theorem MJ.K {s t : rSg} {A : Ab} {im : Option Ab} (h : MJ s A im) (k : mK kJ (jI ++ [39, 58]) s t) : MJ t A im := by
  obtain ⟨T, G, L, hd, g, hb⟩ := h
  exact ⟨T, G, L, hd, g, hb.keep (fun q hq => k.1 q (by omega) (by simp [kJ]; omega)) (fun j hj => k.2 j (by simp [jI]; omega))⟩
theorem MJ.mi {s : rSg} {A : Ab} {im : Option Ab} (h : MJ s A im) (hs : SH s) : MI s := by
  obtain ⟨T, G, L, hd, g, r1, r2, r3, r4, r5, r6, r7⟩ := h
  obtain ⟨⟨n, n1, n2, n3, _⟩, ⟨m, m1, m2, m3, _⟩, _⟩ := hs
  obtain ⟨n4, q1, q2⟩ := r4
  refine ⟨T, G, L, hd, _, _, A.Q.2.2.1, g, r1.rs, ⟨r1.2.2.1.2.2.2.1, r5.1⟩, r2, ⟨r3.1, r3.2.2.1, r3.2.2.2⟩, ⟨n, n3, n1⟩, ⟨m, m3, m1⟩, ⟨n4, q1, q2.1, _, _, ⟨q2.2.1, q2.2.2.1⟩, q2.2.2.2.1⟩, ?_⟩
  cases im with
  | none => exact Or.inl (r6 rfl)
  | some B =>
    obtain ⟨_, b2, n5, b3, b4, b5⟩ := r7 B rfl
    exact Or.inr ⟨n5, _, b3, ⟨b4.1, _, _, ⟨b4.2.1, b4.2.2.1⟩, b4.2.2.2.1⟩, b5, b2.1⟩
/-! answers -/
def rfC (o : Option Int32) (f : Nat → Int32) : Nat → Int32 := match o with
  | none => f
  | some z => fun j => if j = (-z).toNatClampNeg then f j + 1 else f j
theorem rfC_up (s : rSg) (c : Nat) (z : Int32) : up2 s c (-z).toNatClampNeg (s c (-z).toNatClampNeg + 1) c = rfC (some z) (s c) := by
  funext j
  by_cases e : j = (-z).toNatClampNeg
  · subst e; rw [up2_same]; simp [rfC]
  · rw [up2_nj _ _ _ e]; simp [rfC, e]
/-- a call of the class: its answer and refusal are of W -/
def cP (W : Int32 → Option Int32 → Prop) (l D : Nat) (s : rSg) (v : Option rv) (t : rSg) : Prop := ∃ r o, W r o ∧ v = some (.inl r) ∧ kc s t ∧ t 691 = rfC o (s 691) ∧ (∃ m, m ≤ l + D ∧ cSn t m) ∧ clI t
/-- a call of the reference -/
def mP (W : Int32 → Option Int32 → Prop) (A : Ab) (im : Option Ab) (s : rSg) (v : Option rv) (t : rSg) : Prop := ∃ r o, W r o ∧ v = some (.inl r) ∧ MJ t A im ∧ mC s t ∧ (t 752 = s 752 ∧ t 759 = s 759) ∧ (t 725 39 = s 725 39 ∧ t 725 58 = s 725 58) ∧ t 726 = rfC o (s 726)
def opX (s : rSg) (k yx ym : Nat) (as : List rv) : Prop := EvS rSkel 18 yx (.inr (.inr (some 0)) :: as) s (fun v t => ∃ r : Int32, v = some (.inl r) ∧ EvS rSkel 18 ym (.inr (.inr (some 725)) :: as) t (fun v2 u => v2 = some (.inl r) ∧ JI k u))
def opXU (s : rSg) (k yx ym : Nat) (as : List rv) : Prop := EvS rSkel 18 yx (.inr (.inr (some 0)) :: as) s (fun v t => ∃ r : Int32, v = some (.inl r) ∧ EvS rSkel 18 ym (.inr (.inr (some 725)) :: as) t (fun v2 u => (∃ r2 : Int32, v2 = some (.inl r2)) ∧ JI k u))
def uq (W : Int32 → Option Int32 → Prop) : Prop := ∀ r o r2 o2, W r o → W r2 o2 → r = r2 ∧ o = o2
theorem SH.both {s t u : rSg} {o : Option Int32} (h : SH s) (k : kc s t) (e1 : t 691 = rfC o (s 691)) (c : mC t u) (e : (u 752 = t 752 ∧ u 759 = t 759) ∧ (u 725 39 = t 725 39 ∧ u 725 58 = t 725 58)) (e2 : u 726 = rfC o (t 726)) : SH u := by
  obtain ⟨⟨n, n1, n2, n3, n4⟩, ⟨m, m1, m2, m3, m4⟩, h3⟩ := h
  refine ⟨⟨n, n1, by rw [c 687 (by decide), k 687 (by omega)]; exact n2, by rw [e.2.1, k 725 (by omega)]; exact n3, fun i hi => by rw [c 688 (by decide), k 688 (by omega), e.1.1, k 752 (by omega)]; exact n4 i hi⟩, ⟨m, m1, by rw [c 689 (by decide), k 689 (by omega)]; exact m2, by rw [e.2.2, k 725 (by omega)]; exact m3, fun i hi => by rw [c 690 (by decide), k 690 (by omega), e.1.2, k 759 (by omega)]; exact m4 i hi⟩, ?_⟩
  rw [c 691 (by decide), e1, e2, k 726 (by omega), h3]
theorem join {k : Nat} {s : rSg} {A : Ab} {im : Option Ab} {W : Int32 → Option Int32 → Prop} (hW : uq W) {yx ym d1 d2 D : Nat} {as : List rv} (h1 : clI s) (h2 : CJ s A im) (h3 : MJ s A im) (h4 : SH s) {l : Nat} (h5 : cSn s l) (h6 : l + (k + 1) * 5304000 + 30000 < 2 ^ 32) (hD : D ≤ 5304000) (e1 : d1 ≤ 18) (e2 : d2 ≤ 18) (c : EvS rSkel d1 yx (.inr (.inr (some 0)) :: as) s (cP W l D s)) (m : ∀ t, (∀ q, (687 ≤ q ∧ q ≤ 690) ∨ 725 ≤ q → t q = s q) → MJ t A im → EvS rSkel d2 ym (.inr (.inr (some 725)) :: as) t (mP W A im t)) : opX s k yx ym as := (c.up e1).imp (fun v t q => by
  obtain ⟨r, o, w, e, k1, k2, k3, k4⟩ := q
  refine ⟨r, e, ((m t (fun q hq => k1 q (by omega)) (h3.cong (fun q hq => k1 q (by omega)))).up e2).imp ?_⟩
  rintro v2 u ⟨r2, o2, w2, f, g1, g2, g3, g4, g5⟩
  obtain ⟨rfl, rfl⟩ := hW _ _ _ _ w w2
  obtain ⟨l2, l3, l4⟩ := k3
  exact ⟨f, A, im, k4.cong g2, (k1.C h2).cong g2, g1, h4.both k1 k2 g2 ⟨g3, g4⟩ g5, l2, ⟨by rw [g2 1 (by decide)]; exact l4.1, by rw [g2 5 (by decide)]; exact l4.2⟩, by omega⟩)
theorem joinU {k : Nat} {s : rSg} {A : Ab} {im : Option Ab} {W W2 : Int32 → Option Int32 → Prop} (hW : ∀ r o r2 o2, W r o → W2 r2 o2 → o = o2) {yx ym d1 d2 D : Nat} {as : List rv} (h1 : clI s) (h2 : CJ s A im) (h3 : MJ s A im) (h4 : SH s) {l : Nat} (h5 : cSn s l) (h6 : l + (k + 1) * 5304000 + 30000 < 2 ^ 32) (hD : D ≤ 5304000) (e1 : d1 ≤ 18) (e2 : d2 ≤ 18) (c : EvS rSkel d1 yx (.inr (.inr (some 0)) :: as) s (cP W l D s)) (m : ∀ t, (∀ q, (687 ≤ q ∧ q ≤ 690) ∨ 725 ≤ q → t q = s q) → MJ t A im → EvS rSkel d2 ym (.inr (.inr (some 725)) :: as) t (mP W2 A im t)) : opXU s k yx ym as := (c.up e1).imp (fun v t q => by
  obtain ⟨r, o, w, e, k1, k2, k3, k4⟩ := q
  refine ⟨r, e, ((m t (fun q hq => k1 q (by omega)) (h3.cong (fun q hq => k1 q (by omega)))).up e2).imp ?_⟩
  rintro v2 u ⟨r2, o2, w2, f, g1, g2, g3, g4, g5⟩
  obtain rfl := hW _ _ _ _ w w2
  obtain ⟨l2, l3, l4⟩ := k3
  exact ⟨⟨r2, f⟩, A, im, k4.cong g2, (k1.C h2).cong g2, g1, h4.both k1 k2 g2 ⟨g3, g4⟩ g5, l2, ⟨by rw [g2 1 (by decide)]; exact l4.1, by rw [g2 5 (by decide)]; exact l4.2⟩, by omega⟩)
/-! the parts of what is asked -/
def wNo (z r : Int32) (o : Option Int32) : Prop := r = z ∧ o = some z
def wIs (x r : Int32) (o : Option Int32) : Prop := r = x ∧ o = none
def wNm (x : Int32) (F : Nat → Int32 → Option Int32 → Prop) (r : Int32) (o : Option Int32) : Prop := (∃ v, v < 6 ∧ x = nI v ∧ F v r o) ∨ ((∀ v, v < 6 → x ≠ nI v) ∧ wNo (-1) r o)
def wAn (Q : Qx) (x : Int32) (F : Nat → Nat → Sx → Int32 → Option Int32 → Prop) (r : Int32) (o : Option Int32) : Prop := (∃ i n X, Q.2.1[i]? = some (n, X) ∧ i < 30 ∧ x = nI i ∧ F i n X r o) ∨ ((∀ i, i < Q.2.1.length → x ≠ nI i) ∧ wNo (-1) r o)
def wBd (x : Int32) (lo hi : Nat) (F : Nat → Int32 → Option Int32 → Prop) (r : Int32) (o : Option Int32) : Prop := (∃ k, lo ≤ k ∧ k ≤ hi ∧ x = nI k ∧ F k r o) ∨ (x < nI lo ∧ wNo (-4) r o) ∨ (nI hi < x ∧ wNo (-6) r o)
theorem wNo_uq (z : Int32) : uq (wNo z) := fun r o r2 o2 h1 h2 => ⟨h1.1.trans h2.1.symm, h1.2.trans h2.2.symm⟩
theorem wIs_uq (z : Int32) : uq (wIs z) := fun r o r2 o2 h1 h2 => ⟨h1.1.trans h2.1.symm, h1.2.trans h2.2.symm⟩
theorem wNm_uq {x : Int32} {F : Nat → Int32 → Option Int32 → Prop} (h : ∀ v, uq (F v)) : uq (wNm x F) := by
  rintro r o r2 o2 (⟨v, a, e, f⟩ | ⟨a, f⟩) (⟨v2, a2, e2, f2⟩ | ⟨a2, f2⟩)
  · have : v = v2 := by
      rw [e] at e2
      exact (nI_eq (by omega) (by omega)).mp e2
    subst this
    exact h v _ _ _ _ f f2
  · exact absurd e (a2 v a)
  · exact absurd e2 (a v2 a2)
  · exact wNo_uq _ _ _ _ _ f f2
theorem wAn_uq {Q : Qx} {x : Int32} {F : Nat → Nat → Sx → Int32 → Option Int32 → Prop} (h : ∀ i n X, uq (F i n X)) : uq (wAn Q x F) := by
  rintro r o r2 o2 (⟨i, n, X, a, b, e, f⟩ | ⟨a, f⟩) (⟨i2, n2, X2, a2, b2, e2, f2⟩ | ⟨a2, f2⟩)
  · have : i = i2 := by
      rw [e] at e2
      exact (nI_eq (by omega) (by omega)).mp e2
    subst this
    rw [a] at a2
    obtain ⟨rfl, rfl⟩ := Prod.mk.inj (Option.some.inj a2)
    exact h i n X _ _ _ _ f f2
  · exact absurd e (a2 i (List.getElem?_eq_some_iff.mp a).1)
  · exact absurd e2 (a i2 (List.getElem?_eq_some_iff.mp a2).1)
  · exact wNo_uq _ _ _ _ _ f f2
theorem wBd_uq {x : Int32} {lo hi : Nat} (hl : lo ≤ hi) (hh : hi < 1000) {F : Nat → Int32 → Option Int32 → Prop} (h : ∀ v, uq (F v)) : uq (wBd x lo hi F) := by
  rintro r o r2 o2 (⟨v, a, b, e, f⟩ | ⟨a, f⟩ | ⟨a, f⟩) (⟨v2, a2, b2, e2, f2⟩ | ⟨a2, f2⟩ | ⟨a2, f2⟩)
  · have : v = v2 := by
      rw [e] at e2
      exact (nI_eq (by omega) (by omega)).mp e2
    subst this
    exact h v _ _ _ _ f f2
  · rw [e] at a2; have := (nI_ltI (by omega) (by omega)).mp a2; omega
  · rw [e] at a2; have := (nI_ltI (by omega) (by omega)).mp a2; omega
  · rw [e2] at a; have := (nI_ltI (by omega) (by omega)).mp a; omega
  · exact wNo_uq _ _ _ _ _ f f2
  · have := (nI_ltI (by omega) (by omega)).mp (Int32.lt_trans a2 a); omega
  · rw [e2] at a; have := (nI_ltI (by omega) (by omega)).mp a; omega
  · have := (nI_ltI (by omega) (by omega)).mp (Int32.lt_trans a a2); omega
  · exact wNo_uq _ _ _ _ _ f f2
