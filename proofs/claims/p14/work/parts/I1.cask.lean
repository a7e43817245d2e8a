/-! THE CLASS IS ASKED: simple calls -/
def kc0 (l D : Nat) (s t : rSg) : Prop := kc s t ∧ t 691 = s 691 ∧ (∃ m, m ≤ l + D ∧ cSn t m) ∧ clI t
theorem kc0.rfl' {s : rSg} (h : clI s) {l : Nat} (hl : cSn s l) : kc0 l 0 s s := ⟨kc.rfl', rfl, ⟨l, by omega, hl⟩, h⟩
theorem cSn_fr {s t : rSg} {l : Nat} (h : cSn s l) (h1 : t 1 4 = s 1 4) (h5 : t 5 = s 5) : cSn t l := ⟨h1.trans h.1, fun j hj => by rw [h5]; exact h.2 j hj⟩
theorem kc0.is {l D : Nat} {s t : rSg} {W : Int32 → Option Int32 → Prop} (h : kc0 l D s t) {r : Int32} (w : W r none) : cP W l D s (some (.inl r)) t := ⟨r, none, w, rfl, h.1, h.2.1, h.2.2.1, h.2.2.2⟩
theorem cx_no {l D : Nat} {s t : rSg} {W : Int32 → Option Int32 → Prop} (h : kc0 l D s t) {z : Int32} (hz : rIn (-z) 7 = true ∧ ¬ (-z) < 0 ∧ ¬ (Int32.ofNat 7) ≤ (-z)) (w : W z (some z)) : EvS rSkel 1 72 [.inr (.inr (some 0)), .inl z] t (fun v u => ∃ n, v = some (.inl n) ∧ cP W l D s (some (.inl n)) u) := by
  refine w_72 t z ⟨fun q => absurd q hz.2.1, fun _ => ⟨fun q => absurd q hz.2.2, fun _ => ⟨hz.1, hz.1, z, rfl, z, some z, w, rfl, h.1.trans (fun q hq => up2_nk _ _ _ (by omega)), ?_, ?_, ?_⟩⟩⟩
  · rw [rfC_up, h.2.1]
  · obtain ⟨m, m1, m2⟩ := h.2.2.1
    exact ⟨m, m1, cSn_fr m2 (by rw [up2_nk _ _ _ (by decide)]) (up2_nk _ _ _ (by decide))⟩
  · exact ⟨h.2.2.2.1.ext (up2_nk _ _ _ (by decide)), h.2.2.2.2.1.ext (up2_nk _ _ _ (by decide)), h.2.2.2.2.2.ext (up2_nk _ _ _ (by decide))⟩
theorem cx_81 {s : rSg} {a : Nat} (ha : s 6 10 = nI a) (ha9 : a ≤ 30) (x : Int32) {P : Option rv → rSg → Prop} (h1 : ∀ i, i < a → x = nI i → P (some (.inl 1)) s) (h2 : (∀ i, i < a → x ≠ nI i) → P (some (.inl 0)) s) : EvS rSkel 1 81 [.inr (.inr (some 0)), .inl x] s P := by
  refine w_81 s x ⟨fun q => h2 (fun i hi e => ?_), fun q => ⟨fun q2 => h2 (fun i hi e => ?_), fun q2 => ?_⟩⟩
  · rw [e] at q; exact nI_pos (by omega) q
  · rw [e, ha] at q2; have := (nI_leI (by omega) (by omega)).mp q2; omega
  · obtain ⟨i, hi, rfl⟩ := nn_of q
    refine h1 i ?_ rfl
    rw [ha] at q2
    exact Nat.lt_of_not_le (fun z => q2 (nI_le z (by omega)))
theorem cx_82 (s : rSg) (x : Int32) {P : Option rv → rSg → Prop} (h1 : ∀ i, i < 6 → x = nI i → P (some (.inl 1)) s) (h2 : (∀ i, i < 6 → x ≠ nI i) → P (some (.inl 0)) s) : EvS rSkel 1 82 [.inl x] s P := by
  refine w_82 s x ⟨fun q => h2 (fun i hi e => ?_), fun q => ⟨fun q2 => h2 (fun i hi e => ?_), fun q2 => ?_⟩⟩
  · rw [e] at q; exact nI_pos (by omega) q
  · rw [e] at q2; have := (nI_leI (a := 6) (by omega) (by omega)).mp q2; omega
  · obtain ⟨i, hi, rfl⟩ := nn_of q
    refine h1 i ?_ rfl
    exact Nat.lt_of_not_le (fun z => q2 (nI_le (a := 6) z (by omega)))
/-- what the class's cells say of a search -/
theorem hQ.f {s : rSg} {b : Nat} {tb : Tb} {nG nT : Nat} {Q : Qx} (h : hQ s b tb nG nT Q) : (s b 8 = nI Q.1.length ∧ Q.1.length ≤ 40) ∧ s b 9 = nI Q.2.2.1 ∧ (s b 10 = nI Q.2.1.length ∧ Q.2.1.length ≤ 30) ∧ s b 11 = nI Q.2.2.2.1 ∧ s b 12 = nI Q.2.2.2.2 ∧ s (b + 1) 5 = nI 0 ∧ s (b + 1) 6 = nI nG ∧ s (b + 1) 8 = nI nT := by
  obtain ⟨C, rfl, rfl, h3, h4, h5, h6, ⟨np, gl, g1, ⟨hd, q1, q2, q3, q4, q5, q6, _⟩, g3⟩, h8⟩ := h
  exact ⟨q2, q3, q4, q5, q6, h8.1, h8.2.1, h8.2.2.2.1⟩
theorem hQ.an {s : rSg} {b : Nat} {tb : Tb} {nG nT : Nat} {Q : Qx} (h : hQ s b tb nG nT Q) {i n : Nat} {X : Sx} (hi : Q.2.1[i]? = some (n, X)) : s (b + 217) i = nI n ∧ ∃ C np gl, cfOK C ∧ cSt C s (b + 1) (b + 127 + 3 * i) np gl X := by
  obtain ⟨C, rfl, rfl, h3, h4, h5, h6, ⟨np, gl, g1, ⟨hd, q1, q2, q3, q4, q5, q6, q7, q8⟩, g3⟩, h8⟩ := h
  obtain ⟨a, b, c⟩ := q8 i n X hi
  exact ⟨c, C, np, gl, h3.1, a⟩
theorem hQ.wa {s : rSg} {b : Nat} {tb : Tb} {nG nT : Nat} {Q : Qx} (h : hQ s b tb nG nT Q) {X : Sx} {l : List Sx} (hl : Q.1 = X :: l) : ∃ hd, s b 7 = nI hd ∧ hd < 40 ∧ ∃ C np gl, cfOK C ∧ cSt C s (b + 1) (b + 6 + 3 * hd) np gl X := by
  obtain ⟨C, rfl, rfl, h3, h4, h5, h6, ⟨np, gl, g1, ⟨hd, q1, q2, q3, q4, q5, q6, q7, q8⟩, g3⟩, h8⟩ := h
  obtain ⟨a, b⟩ := q7 0 X (by rw [hl]; rfl)
  refine ⟨hd, q1.1, q1.2, C, np, gl, h3.1, ?_⟩
  have e : (hd + 0) % 40 = hd := by have := q1.2; omega
  rw [e] at a
  exact a
def sAns (Q : Qx) : Int32 → Option Int32 → Prop := wIs (nI Q.2.1.length)
def sWhen (Q : Qx) (x : Int32) : Int32 → Option Int32 → Prop := wAn Q x (fun _ n _ => wIs (nI n))
def sKept (Q : Qx) (x : Int32) : Int32 → Option Int32 → Prop := wAn Q x (fun _ _ X => wIs (nI X.2.1.length))
def sDone (Q : Qx) : Int32 → Option Int32 → Prop := wIs (if Q.1.length = 0 ∨ Q.2.1.length = 30 then 1 else 0)
def qf (Q : Qx) (F : Sx → Int32) : Int32 := match Q.1 with
  | [] => -9
  | X :: _ => F X
def sQue (Q : Qx) (x : Int32) : Int32 → Option Int32 → Prop := if x = 0 then wIs (nI Q.1.length) else if x = 1 then wIs (nI Q.2.2.2.1) else if x = 2 then wIs (nI Q.2.2.2.2) else if x = 3 then wIs (qf Q (fun X => nI X.1.length)) else if x = 4 then wIs (qf Q (fun X => nI X.2.1.length)) else if x = 5 then wIs (qf Q (fun X => nI X.2.2.1)) else wNo (-2)
def sCnt (A : Ab) (f : Nat → Int32) (n m : Nat) (x : Int32) : Int32 → Option Int32 → Prop := if 11 ≤ x ∧ x ≤ 16 then wIs (f (x - 10).toNatClampNeg) else if x = 0 then wIs (nI A.Q.2.2.1) else if x = 1 then wIs (nI A.Q.2.1.length) else if x = 2 then wIs (nI A.nG) else if x = 3 then wIs (nI A.nT) else if x = 4 then wIs (nI A.Q.1.length) else if x = 5 then wIs (nI A.Q.2.2.2.1) else if x = 6 then wIs (nI m) else if x = 7 then wIs (nI n) else wIs (-9)
theorem cx_79 {s : rSg} {A : Ab} {im : Option Ab} (h : clI s) {l : Nat} (hl : cSn s l) (c : CJ s A im) : EvS rSkel 1 79 [.inr (.inr (some 0))] s (cP (sAns A.Q) l 0 s) := by
  have f := c.1.f
  refine w_79 s ?_
  rw [f.2.2.1.1]
  exact (kc0.rfl' h hl).is ⟨rfl, rfl⟩
theorem cx_48 {b : Nat} (hb : isSea b) {s : rSg} {tb : Tb} {nG nT : Nat} {Q : Qx} (ha : s b 10 = nI Q.2.1.length) (h30 : Q.2.1.length ≤ 30) {i n : Nat} {X : Sx} (hi : Q.2.1[i]? = some (n, X)) (hn : s (b + 217) i = nI n) {P : Option rv → rSg → Prop} (hP : P (some (.inl (nI n))) s) : EvS rSkel 1 48 [.inr (.inr (some b)), .inl (nI i)] s P := by
  have l := (List.getElem?_eq_some_iff.mp hi).1
  refine w_48 s b hb _ ⟨fun q => absurd q (nI_pos (by omega)), fun _ => ⟨fun q => ?_, fun _ => ⟨fun q => ?_, fun _ => ?_⟩⟩⟩
  · rw [ha] at q; have := (nI_leI (by omega) (by omega)).mp q; omega
  · have := (nI_leI (a := 30) (by omega) (by omega)).mp q; omega
  · rw [nI_clamp (by omega), hn]
    exact ⟨rIn_nI (by omega) (by decide), hP⟩
theorem cx_84 {s : rSg} {A : Ab} {im : Option Ab} (h : clI s) {l : Nat} (hl : cSn s l) (c : CJ s A im) (x : Int32) : EvS rSkel 2 84 [.inr (.inr (some 0)), .inl x] s (cP (sWhen A.Q x) l 0 s) := by
  have f := c.1.f
  refine w_84 s x (cx_81 f.2.2.1.1 f.2.2.1.2 x (fun i hi e => ⟨_, rfl, fun _ => ?_, fun q => absurd (by decide) q⟩) (fun hn => ⟨_, rfl, fun q => absurd rfl q, fun _ => cx_no (kc0.rfl' h hl) (by decide) (Or.inr ⟨hn, rfl, rfl⟩)⟩))
  obtain ⟨⟨n, X⟩, hX⟩ : ∃ p, A.Q.2.1[i]? = some p := ⟨_, List.getElem?_eq_getElem hi⟩
  rw [e]
  exact cx_48 (tb := A.tb) (nG := 0) (nT := 0) sea6 f.2.2.1.1 f.2.2.1.2 hX (c.1.an hX).1 ⟨_, rfl, (kc0.rfl' h hl).is (Or.inl ⟨i, n, X, hX, by omega, rfl, rfl, rfl⟩)⟩
theorem cx_87 {s : rSg} {A : Ab} {im : Option Ab} (h : clI s) {l : Nat} (hl : cSn s l) (c : CJ s A im) : EvS rSkel 2 87 [.inr (.inr (some 0))] s (cP (sDone A.Q) l 0 s) := by
  have f := c.1.f
  have l1 := f.1.2
  have l2 := f.2.2.1.2
  refine w_87 s (w_37 s 6 sea6 ⟨fun q => ⟨_, rfl, fun q => absurd q (by decide), fun _ => (kc0.rfl' h hl).is ⟨?_, rfl⟩⟩, fun q => ⟨fun q2 => ⟨_, rfl, fun _ => (kc0.rfl' h hl).is ⟨?_, rfl⟩, fun q => absurd rfl q⟩, fun q2 => ⟨_, rfl, fun q => absurd q (by decide), fun _ => (kc0.rfl' h hl).is ⟨?_, rfl⟩⟩⟩⟩)
  · rw [f.1.1] at q
    rw [if_pos (Or.inl ((nI_eq (b := 0) (by omega) (by decide)).mp q))]
  · rw [f.1.1] at q
    rw [f.2.2.1.1] at q2
    have z := (nI_ltI (b := 30) (by omega) (by decide)).mp q2
    rw [if_neg]
    rintro (w | w)
    · exact q (by rw [w]; rfl)
    · omega
  · rw [f.2.2.1.1] at q2
    have z : ¬ A.Q.2.1.length < 30 := fun z => q2 ((nI_ltI (b := 30) (by omega) (by decide)).mpr z)
    rw [if_pos (Or.inr (by omega))]
theorem cx_112 {s : rSg} {A : Ab} {im : Option Ab} (h : clI s) {l : Nat} (hl : cSn s l) (c : CJ s A im) {n m : Nat} (hn : s 687 1 = nI n) (hm : s 689 1 = nI m) (x : Int32) : EvS rSkel 2 112 [.inr (.inr (some 0)), .inl x] s (cP (sCnt A (s 691) n m x) l 0 s) := by
  have f := c.1.f
  have tail : ¬ (11 ≤ x ∧ x ≤ 16) → g_112_22 x s (cP (sCnt A (s 691) n m x) l 0 s) := fun hx => by
    unfold sCnt
    rw [if_neg hx]
    refine w_112_22 s x ⟨fun e => ?_, fun e => ?_, fun e => ?_, fun e => ?_, fun e => ?_, fun e => ?_, fun e => ?_, fun e => ?_, fun e => ?_⟩
    · rw [if_pos e, f.2.1]; exact (kc0.rfl' h hl).is ⟨rfl, rfl⟩
    · rw [if_neg (by rw [e]; decide), if_pos e, f.2.2.1.1]; exact (kc0.rfl' h hl).is ⟨rfl, rfl⟩
    · rw [if_neg (by rw [e]; decide), if_neg (by rw [e]; decide), if_pos e, f.2.2.2.2.2.2.1]; exact (kc0.rfl' h hl).is ⟨rfl, rfl⟩
    · rw [if_neg (by rw [e]; decide), if_neg (by rw [e]; decide), if_neg (by rw [e]; decide), if_pos e, f.2.2.2.2.2.2.2]; exact (kc0.rfl' h hl).is ⟨rfl, rfl⟩
    · rw [if_neg (by rw [e]; decide), if_neg (by rw [e]; decide), if_neg (by rw [e]; decide), if_neg (by rw [e]; decide), if_pos e, f.1.1]; exact (kc0.rfl' h hl).is ⟨rfl, rfl⟩
    · rw [if_neg (by rw [e]; decide), if_neg (by rw [e]; decide), if_neg (by rw [e]; decide), if_neg (by rw [e]; decide), if_neg (by rw [e]; decide), if_pos e, f.2.2.2.1]; exact (kc0.rfl' h hl).is ⟨rfl, rfl⟩
    · rw [if_neg (by rw [e]; decide), if_neg (by rw [e]; decide), if_neg (by rw [e]; decide), if_neg (by rw [e]; decide), if_neg (by rw [e]; decide), if_neg (by rw [e]; decide), if_pos e]
      refine w_16 s 689 32 row689 ⟨_, rfl, ?_⟩
      rw [hm]; exact (kc0.rfl' h hl).is ⟨rfl, rfl⟩
    · rw [if_neg (by rw [e]; decide), if_neg (by rw [e]; decide), if_neg (by rw [e]; decide), if_neg (by rw [e]; decide), if_neg (by rw [e]; decide), if_neg (by rw [e]; decide), if_neg (by rw [e]; decide), if_pos e]
      refine w_16 s 687 96 row687 ⟨_, rfl, ?_⟩
      rw [hn]; exact (kc0.rfl' h hl).is ⟨rfl, rfl⟩
    · rw [if_neg e.1, if_neg e.2.1, if_neg e.2.2.1, if_neg e.2.2.2.1, if_neg e.2.2.2.2.1, if_neg e.2.2.2.2.2.1, if_neg e.2.2.2.2.2.2.1, if_neg e.2.2.2.2.2.2.2]
      exact (kc0.rfl' h hl).is ⟨rfl, rfl⟩
  refine w_112 s x ⟨fun q => tail (fun z => Int32.lt_irrefl (Int32.lt_of_lt_of_le q z.1)), fun q => ⟨fun q2 => tail (fun z => Int32.lt_irrefl (Int32.lt_of_lt_of_le q2 z.2)), fun q2 => ?_⟩⟩
  have q3 := Int32.not_lt.mp q
  have q4 := Int32.not_lt.mp q2
  have hx0 : ¬ x < 0 := fun z => Int32.lt_irrefl (Int32.lt_of_lt_of_le z (Int32.le_trans (show (0 : Int32) ≤ 11 by decide) q3))
  refine ⟨?_, (kc0.rfl' h hl).is ?_⟩
  · obtain ⟨k, hk, rfl⟩ := nn_of hx0
    have k1 := (nI_leI (a := 11) (by decide) hk).mp q3
    have k2 := (nI_leI (b := 16) hk (by decide)).mp q4
    obtain ⟨j, rfl⟩ : ∃ j, k = j + 10 := ⟨k - 10, by omega⟩
    rw [show nI (j + 10) - 10 = nI j from by rw [← nI_add, show (10 : Int32) = nI 10 from rfl, Int32.add_sub_cancel]]
    exact rIn_nI (by omega) (by decide)
  · unfold sCnt
    rw [if_pos ⟨q3, q4⟩]
    exact ⟨rfl, rfl⟩
