/-! THE CLASS IS ASKED: kept, queue, texts -/
theorem cx_40 {b : Nat} (hb : isSeaA rSkel b) (s : rSg) {i : Nat} (hi : i < 30) {P : Option rv → rSg → Prop} (hP : isSt (b + 127 + 3 * i) → P (some (.inr (.inr (some (b + 127 + 3 * i))))) s) : EvS rSkel 1 40 [.inr (.inr (some b)), .inl (nI i)] s P := (ce_40 hb s hi).imp (fun v t q => by
  obtain ⟨rfl, rfl⟩ := q
  exact hP (hb.2.2 i hi))
theorem cSt.bits {C : Cf} {s : rSg} {sc k np gl : Nat} {X : Sx} (h : cSt C s sc k np gl X) : kbt (s k 4) X.2.1 ∧ s k 2 = nI X.2.2.1 := by
  obtain ⟨fs, ms, H, gs, h1, h2, h3, h4, h5, h6⟩ := h
  exact ⟨h5, h1⟩
theorem cx_85 {s : rSg} {A : Ab} {im : Option Ab} (h : clI s) {l : Nat} (hl : cSn s l) (c : CJ s A im) (x : Int32) : EvS rSkel 2 85 [.inr (.inr (some 0)), .inl x] s (cP (sKept A.Q x) l 0 s) := by
  have f := c.1.f
  refine w_85 s x (cx_81 f.2.2.1.1 f.2.2.1.2 x (fun i hi e => ⟨_, rfl, fun _ => ?_, fun q => absurd (by decide) q⟩) (fun hn => ⟨_, rfl, fun q => absurd rfl q, fun _ => cx_no (kc0.rfl' h hl) (by decide) (Or.inr ⟨hn, rfl, rfl⟩)⟩))
  obtain ⟨⟨n, X⟩, hX⟩ : ∃ p, A.Q.2.1[i]? = some p := ⟨_, List.getElem?_eq_getElem hi⟩
  obtain ⟨_, C, np, gl, _, hst⟩ := c.1.an hX
  have l30 := f.2.2.1.2
  rw [e]
  exact cx_40 seaA6 s (by omega) (fun q => ⟨_, rfl, q, cx_208 hst.bits.1 s ⟨_, rfl, (kc0.rfl' h hl).is (Or.inl ⟨i, n, X, hX, by omega, rfl, rfl, rfl⟩)⟩⟩)
theorem cx_38 {b : Nat} (hb : isSeaA rSkel b) {s : rSg} {hd : Nat} (h7 : s b 7 = nI hd) (h40 : hd < 40) {P : Option rv → rSg → Prop} (hP : isSt (b + 6 + 3 * hd) → P (some (.inr (.inr (some (b + 6 + 3 * hd))))) s) : EvS rSkel 2 38 [.inr (.inr (some b))] s P := by
  refine w_38 s b hb.1 (w_35 s b hb.1 _ ?_)
  have e : irem (s b 7 + 0) 40 = nI hd := by
    rw [h7, show nI hd + 0 = nI hd from by simp, show (40 : Int32) = nI 40 from rfl]
    show irem (nI hd) (nI 40) = _
    rw [show irem (nI hd) (nI 40) = nI (hd % 40) from pk_rem (by omega) (by decide) (by decide), Nat.mod_eq_of_lt h40]
  rw [e]
  refine ⟨fun q => absurd q (nI_pos (by omega)), fun _ => ⟨fun q => absurd ((nI_leI (a := 40) (by decide) (by omega)).mp q) (by omega), fun _ => ⟨rIn_nI h40 (by decide), b + 6 + 3 * hd, ?_, hb.2.1 hd h40, _, rfl, hb.2.1 hd h40, hP (hb.2.1 hd h40)⟩⟩⟩
  rw [nI_clamp (by omega)]
  exact if_pos h40
theorem cx_86 {s : rSg} {A : Ab} {im : Option Ab} (h : clI s) {l : Nat} (hl : cSn s l) (c : CJ s A im) (x : Int32) : EvS rSkel 3 86 [.inr (.inr (some 0)), .inl x] s (cP (sQue A.Q x) l 0 s) := by
  have f := c.1.f
  have l40 := f.1.2
  have fst : ¬ s 6 8 = 0 → ∃ X l, A.Q.1 = X :: l ∧ ∃ hd, s 6 7 = nI hd ∧ hd < 40 ∧ ∃ C np gl, cfOK C ∧ cSt C s 7 (6 + 6 + 3 * hd) np gl X := fun q => by
    cases e : A.Q.1 with
    | nil => exact absurd (by rw [f.1.1, e]; rfl) q
    | cons X l => exact ⟨X, l, rfl, c.1.wa e⟩
  have emp : ¬ ¬ s 6 8 = 0 → A.Q.1 = [] := fun q => by
    have q := Classical.not_not.mp q
    rw [f.1.1] at q
    exact List.length_eq_zero_iff.mp ((nI_eq (b := 0) (by omega) (by decide)).mp q)
  refine w_86 s x ⟨fun e => ?_, fun e => ?_, fun e => ?_, fun e => ⟨fun q => ?_, fun q => ?_⟩, fun e => ⟨fun q => ?_, fun q => ?_⟩, fun e => ⟨fun q => ?_, fun q => ?_⟩, fun e => ?_⟩
  · unfold sQue
    rw [if_pos e, f.1.1]; exact (kc0.rfl' h hl).is ⟨rfl, rfl⟩
  · unfold sQue
    rw [if_neg (by rw [e]; decide), if_pos e, f.2.2.2.1]; exact (kc0.rfl' h hl).is ⟨rfl, rfl⟩
  · unfold sQue
    rw [if_neg (by rw [e]; decide), if_neg (by rw [e]; decide), if_pos e, f.2.2.2.2.1]; exact (kc0.rfl' h hl).is ⟨rfl, rfl⟩
  · obtain ⟨X, l, e2, hd, h7, h40, C, np, gl, hC, hst⟩ := fst q
    unfold sQue
    rw [if_neg (by rw [e]; decide), if_neg (by rw [e]; decide), if_neg (by rw [e]; decide), if_pos e]
    refine cx_38 seaA6 h7 h40 (fun z => ⟨_, rfl, z, ?_⟩)
    obtain ⟨n, n1, n2, n3⟩ := cSt_len hC hst
    rw [n1, n2]
    exact (kc0.rfl' h hl).is ⟨by simp only [qf, e2], rfl⟩
  · unfold sQue
    rw [if_neg (by rw [e]; decide), if_neg (by rw [e]; decide), if_neg (by rw [e]; decide), if_pos e]
    exact (kc0.rfl' h hl).is ⟨by simp only [qf, emp q], rfl⟩
  · obtain ⟨X, l, e2, hd, h7, h40, C, np, gl, hC, hst⟩ := fst q
    unfold sQue
    rw [if_neg (by rw [e]; decide), if_neg (by rw [e]; decide), if_neg (by rw [e]; decide), if_neg (by rw [e]; decide), if_pos e]
    exact cx_38 seaA6 h7 h40 (fun z => ⟨_, rfl, z, cx_208 hst.bits.1 s ⟨_, rfl, (kc0.rfl' h hl).is ⟨by simp only [qf, e2], rfl⟩⟩⟩)
  · unfold sQue
    rw [if_neg (by rw [e]; decide), if_neg (by rw [e]; decide), if_neg (by rw [e]; decide), if_neg (by rw [e]; decide), if_pos e]
    exact (kc0.rfl' h hl).is ⟨by simp only [qf, emp q], rfl⟩
  · obtain ⟨X, l, e2, hd, h7, h40, C, np, gl, hC, hst⟩ := fst q
    unfold sQue
    rw [if_neg (by rw [e]; decide), if_neg (by rw [e]; decide), if_neg (by rw [e]; decide), if_neg (by rw [e]; decide), if_neg (by rw [e]; decide), if_pos e]
    refine cx_38 seaA6 h7 h40 (fun z => ⟨_, rfl, z, ?_⟩)
    rw [hst.bits.2]
    exact (kc0.rfl' h hl).is ⟨by simp only [qf, e2], rfl⟩
  · unfold sQue
    rw [if_neg (by rw [e]; decide), if_neg (by rw [e]; decide), if_neg (by rw [e]; decide), if_neg (by rw [e]; decide), if_neg (by rw [e]; decide), if_pos e]
    exact (kc0.rfl' h hl).is ⟨by simp only [qf, emp q], rfl⟩
  · unfold sQue
    rw [if_neg e.1, if_neg e.2.1, if_neg e.2.2.1, if_neg e.2.2.2.1, if_neg e.2.2.2.2.1, if_neg e.2.2.2.2.2]
    exact cx_no (kc0.rfl' h hl) (by decide) ⟨rfl, rfl⟩
theorem kc0.tf {l D : Nat} {s t u : rSg} (h : kc0 l D s t) (g : tf t u) : kc0 l D s u := ⟨h.1.trans (kc.tf g), (g 691 (by omega)).trans h.2.1, h.2.2.1.elim (fun m q => ⟨m, q.1, cSn_fr q.2 (by rw [g 1 (by omega)]) (g 5 (by omega))⟩), ⟨h.2.2.2.1.ext (g 6 (by omega)), h.2.2.2.2.1.ext (g 230 (by omega)), h.2.2.2.2.2.ext (g 454 (by omega))⟩⟩
def txD (tx : List Int32) (z : Int32) : Int32 := tx.getD z.toNatClampNeg (-9)
def sLen (Q : Qx) (x y : Int32) : Int32 → Option Int32 → Prop := wAn Q x (fun _ _ X => wNm y (fun v r o => ∃ tx, isT X.2.2.2 v tx ∧ wIs (nI tx.length) r o))
def sTxt (Q : Qx) (x y z : Int32) : Int32 → Option Int32 → Prop := wAn Q x (fun _ _ X => wNm y (fun v r o => (¬ 0 ≤ z ∧ wNo (-4) r o) ∨ (0 ≤ z ∧ ∃ tx, isT X.2.2.2 v tx ∧ wIs (txD tx z) r o)))
/-- the text of an answer -/
theorem cx_58 {s : rSg} {A : Ab} {im : Option Ab} (c : CJ s A im) {i n : Nat} {X : Sx} (hX : A.Q.2.1[i]? = some (n, X)) {v : Nat} (hv : v < 6) : EvS rSkel 4 58 [.inr (.inr (some 682)), .inr (.inr (some 7)), .inr (.inr (some (6 + 127 + 3 * i))), .inl (nI v)] s (fun r t => r = none ∧ tf s t ∧ ∃ tx, isT X.2.2.2 v tx ∧ txC t tx) := by
  obtain ⟨_, C, np, gl, _, hst⟩ := c.1.an hX
  have l30 := c.1.f.2.2.1.2
  have hi := (List.getElem?_eq_some_iff.mp hX).1
  exact ce_58 scr7 (seaA6.2.2 i (by omega)) (by decide) (by omega) hst hv
theorem cx_80 {s : rSg} {A : Ab} {im : Option Ab} (h : clI s) {l : Nat} (hl : cSn s l) (c : CJ s A im) (x y : Int32) : EvS rSkel 5 80 [.inr (.inr (some 0)), .inl x, .inl y] s (cP (sLen A.Q x y) l 0 s) := by
  have f := c.1.f
  have l30 := f.2.2.1.2
  refine w_80 s x y (cx_81 f.2.2.1.1 f.2.2.1.2 x (fun i hi e => ⟨_, rfl, fun q => absurd q (by decide), fun _ => ?_⟩) (fun hn => ⟨_, rfl, fun _ => cx_no (kc0.rfl' h hl) (by decide) (Or.inr ⟨hn, rfl, rfl⟩), fun q => absurd rfl q⟩))
  obtain ⟨⟨n, X⟩, hX⟩ : ∃ p, A.Q.2.1[i]? = some p := ⟨_, List.getElem?_eq_getElem hi⟩
  refine cx_82 s y (fun v hv e2 => ⟨_, rfl, fun _ => ?_, fun q => absurd (by decide) q⟩) (fun hn => ⟨_, rfl, fun q => absurd rfl q, fun _ => cx_no (kc0.rfl' h hl) (by decide) (Or.inl ⟨i, n, X, hX, by omega, e, Or.inr ⟨hn, rfl, rfl⟩⟩)⟩)
  rw [e, e2]
  refine cx_40 seaA6 s (by omega) (fun q => ⟨_, rfl, q, (cx_58 c hX hv).imp ?_⟩)
  rintro _ t ⟨rfl, t1, tx, t2, t3⟩
  rw [t3.1]
  exact ⟨rfl, ((kc0.rfl' h hl).tf t1).is (Or.inl ⟨i, n, X, hX, by omega, rfl, Or.inl ⟨v, hv, rfl, tx, t2, rfl, rfl⟩⟩)⟩
theorem cx_63 {t : rSg} {tx : List Int32} (h : txC t tx) {z : Int32} (hz : 0 ≤ z) {P : Option rv → rSg → Prop} (hP : P (some (.inl (txD tx z))) t) : EvS rSkel 1 63 [.inr (.inr (some 682)), .inl z] t P := by
  obtain ⟨h1, h2, h3⟩ := h
  obtain ⟨k, hk, rfl⟩ := nn_of (Int32.not_lt.mpr hz)
  refine w_63 t _ ⟨fun q => absurd q (nI_pos hk), fun _ => ⟨fun q => ?_, fun q => ⟨fun q2 => ?_, fun q2 => ?_⟩⟩⟩
  · rw [h1] at q
    have := (nI_leI (by omega) hk).mp q
    unfold txD at hP
    rw [nI_clamp hk, List.getD_eq_getElem?_getD, List.getElem?_eq_none this] at hP
    exact hP
  · rw [h1] at q
    have := (nI_leI (a := 200) (by omega) hk).mp q2
    exact absurd (nI_le (by omega) hk) q
  · rw [h1] at q
    have l : k < tx.length := Nat.lt_of_not_le (fun z => q (nI_le z hk))
    unfold txD at hP
    rw [nI_clamp hk, List.getD_eq_getElem?_getD, List.getElem?_eq_getElem l] at hP
    rw [nI_clamp hk, h3 k _ (List.getElem?_eq_getElem l)]
    exact ⟨rIn_nI (by omega) (by decide), hP⟩
theorem cx_83 {s : rSg} {A : Ab} {im : Option Ab} (h : clI s) {l : Nat} (hl : cSn s l) (c : CJ s A im) (x y z : Int32) : EvS rSkel 5 83 [.inr (.inr (some 0)), .inl x, .inl y, .inl z] s (cP (sTxt A.Q x y z) l 0 s) := by
  have f := c.1.f
  have l30 := f.2.2.1.2
  refine w_83 s x y z (cx_81 f.2.2.1.1 f.2.2.1.2 x (fun i hi e => ⟨_, rfl, fun q => absurd q (by decide), fun _ => ?_⟩) (fun hn => ⟨_, rfl, fun _ => cx_no (kc0.rfl' h hl) (by decide) (Or.inr ⟨hn, rfl, rfl⟩), fun q => absurd rfl q⟩))
  obtain ⟨⟨n, X⟩, hX⟩ : ∃ p, A.Q.2.1[i]? = some p := ⟨_, List.getElem?_eq_getElem hi⟩
  refine cx_82 s y (fun v hv e2 => ⟨_, rfl, fun _ => ⟨fun hz => ?_, fun hz => cx_no (kc0.rfl' h hl) (by decide) (Or.inl ⟨i, n, X, hX, by omega, e, Or.inl ⟨v, hv, e2, Or.inl ⟨hz, rfl, rfl⟩⟩⟩)⟩, fun q => absurd (by decide) q⟩) (fun hn => ⟨_, rfl, fun q => absurd rfl q, fun _ => cx_no (kc0.rfl' h hl) (by decide) (Or.inl ⟨i, n, X, hX, by omega, e, Or.inr ⟨hn, rfl, rfl⟩⟩)⟩)
  rw [e, e2]
  refine cx_40 seaA6 s (by omega) (fun q => ⟨_, rfl, q, (cx_58 c hX hv).imp ?_⟩)
  rintro _ t ⟨rfl, t1, tx, t2, t3⟩
  exact ⟨rfl, cx_63 t3 hz ⟨_, rfl, ((kc0.rfl' h hl).tf t1).is (Or.inl ⟨i, n, X, hX, by omega, rfl, Or.inl ⟨v, hv, rfl, Or.inr ⟨hz, tx, t2, rfl, rfl⟩⟩⟩)⟩⟩
