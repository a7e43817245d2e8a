/-! THE TEXT of a variable in a set of solutions -/
def isT (K : Kx) (v : Nat) (tx : List Int32) : Prop := v < 64 ∧ ∃ (V W : Nat → TV) (D E : Nat → Prop) (rk m : Nat → Nat), vOK V D rk ∧ vKm V D m K ∧ eCl V W D E ∧ E (m v) ∧ WRun V W D 200 [.inl (m v)] [] [] tx
theorem isT_uniq {K : Kx} {v : Nat} {a b : List Int32} (h1 : isT K v a) (h2 : isT K v b) : a = b := by
  obtain ⟨hv, V1, W1, D1, E1, rk1, m1, p1, p2, p3, p4, p5⟩ := h1
  obtain ⟨_, V2, W2, D2, E2, rk2, m2, q1, q2, q3, q4, q5⟩ := h2
  exact WRun_same p1 q1 p2 q2 p3 q3 200 [.inl (m1 v)] [.inl (m2 v)] [] [] [] a b ⟨⟨fun t1 t2 _ _ e => e v hv, p4, q4⟩, trivial⟩ trivial p5 q5
/-- the class tells the text of a state -/
theorem ce_58 {C : Cf} {sc k np gl : Nat} {s : rSg} {X : Sx} (hs : isScr sc) (hk : isSt k) (h1 : sc + 3 < 682) (h2 : k + 1 < 682) (h : cSt C s sc k np gl X) {v : Nat} (hv : v < 6) : EvS rSkel 4 58 [.inr (.inr (some 682)), .inr (.inr (some sc)), .inr (.inr (some k)), .inl (nI v)] s (fun r t => r = none ∧ tf s t ∧ ∃ tx, isT X.2.2.2 v tx ∧ txC t tx) := by
  obtain ⟨fs, ms, H, gs, _, _, _, _, _, ⟨hw, hf, hK, _⟩, _⟩ := h
  obtain ⟨rk, hok⟩ := hf.2.2.2.2.2.2.1
  have hnv := hf.1.1
  have dv : cDm X.2.2.1 C.tp fs ms v := Or.inl (by omega)
  refine (tc_58 hs hk h1 h2 hw hok dv).imp ?_
  rintro _ t ⟨rfl, t1, tx, t2, t3⟩
  refine ⟨rfl, t1, tx, ⟨by omega, _, _, _, cDm X.2.2.1 C.tp fs ms, rk, fun v => v, hok, hK, fun c hc => ⟨hc, fun e he => ((hok c hc).1 e he).1, fun a b hab => ⟨((hok c hc).2.2 a b hab).1.1, ((hok c hc).2.2 a b hab).2.1⟩, fun _ => rfl⟩, dv, t2⟩, t3⟩
theorem RSa.rs {tb : Tb} {R : Nat → Nat → Prop} {s : rSg} {z T G L h : Nat} {Q : Qx} (hs : RSa tb R s z T G L h Q) : RS s z T G L h Q.1.length Q.2.1.length := by
  obtain ⟨h1, h2, ⟨q1, q2, q3, q4, q5, q6, q7, q8⟩, h4⟩ := hs
  refine ⟨h1, h2, q1, q2, q3, fun i hi => ?_, fun i hi => ?_⟩
  · obtain ⟨p, hp⟩ := q7 i _ (List.getElem?_eq_getElem hi)
    exact ⟨p, hp.1⟩
  · exact (q8 i _ _ (List.getElem?_eq_getElem hi)).1
theorem fTx_isT {s : rSg} {T z i n v : Nat} {X : Sx} (ha : aXa s T z i n X) (hv : v < 6) {tx : List Int32} (h : fTx s T (30 * z + i) v tx) : isT X.2.2.2 v tx := by
  obtain ⟨hb, hK, _, _⟩ := ha
  obtain ⟨⟨hw, rk, hok⟩, hev⟩ := id hb
  have ev : evR (rS s (30 * z + i)) := bRow_ev hb (fun j hj => by unfold rS; rw [upC_same])
  have hT := hw.1
  have hT6 := hw.2.1
  have hok : vOK (mV (rS s (30 * z + i))) (mD T) rk := hok
  refine ⟨by omega, mV (rS s (30 * z + i)), mKc (rS s (30 * z + i)), mD T, fun c => c % 2 = 0 ∧ c < 2 * T, rk, fun v => 2 * v, hok, hK, fun c hc => ⟨hc.2, fun e he => ⟨ev_reach ev hc.1 (reach.ref he), ((hok c hc.2).1 e he).1⟩, fun a b hab => ⟨⟨ev_reach ev hc.1 (reach.left hab), ((hok c hc.2).2.2 a b hab).1.1⟩, ⟨ev_reach ev hc.1 (reach.right hab), ((hok c hc.2).2.2 a b hab).2.1⟩⟩, fun _ => ?_⟩, ⟨show 2 * v % 2 = 0 by omega, show 2 * v < 2 * T by omega⟩, h⟩
  unfold mKc
  split
  · rfl
  · next q =>
    have q64 : ¬ c / 2 < 64 := by omega
    unfold mV
    rw [if_neg q64, if_neg q, hc.1]
    simp
