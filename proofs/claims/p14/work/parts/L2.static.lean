/-! MEET, THE COUNT: what is wanting, said of the two answers as they lie -/
theorem tg_ex {W : Nat → TV} {D : Nat → Prop} {rk : Nat → Nat} (hok : vOK W D rk) : ∀ (n c : Nat), rk c < n → D c → ∃ x, tg W c x
  | 0, c, h, _ => by omega
  | n + 1, c, h, hc => by
    by_cases hv : vRes W c
    · exact ⟨c, tg_self hv⟩
    · have : ∃ e, W c = some (.inl e) := Classical.byContradiction (fun q => hv (fun e he => q ⟨e, he⟩))
      obtain ⟨e, he⟩ := this
      have h1 := (hok c hc).1 e he
      obtain ⟨x, hx⟩ := tg_ex hok n e (by omega) h1.1
      exact ⟨x, tg_step he hx⟩
theorem vExt_ref {V W : Nat → TV} (h : vExt V W) {c e : Nat} (hv : V c = some (.inl e)) : W c = some (.inl e) := by
  rcases h c with q | ⟨q, _⟩
  · rw [q]; exact hv
  · rw [hv] at q; cases q
theorem tgN_ext {V W : Nat → TV} {D : Nat → Prop} {rk : Nat → Nat} (he : vExt V W) (hok : vOK W D rk) : ∀ {n c x : Nat}, D c → tgN V n c x → D x ∧ ∀ z, tg W x z → tg W c z
  | 0, c, x, hc, h => by
    obtain ⟨rfl, _⟩ := h
    exact ⟨hc, fun z hz => hz⟩
  | n + 1, c, x, hc, h => by
    obtain ⟨e, h1, h2⟩ := h
    have hw := vExt_ref he h1
    obtain ⟨g1, g2⟩ := tgN_ext he hok ((hok c hc).1 e hw).1 h2
    exact ⟨g1, fun z hz => tg_step hw (g2 z hz)⟩
theorem tgE_ext {V W : Nat → TV} {D : Nat → Prop} {rk : Nat → Nat} (he : vExt V W) (hok : vOK W D rk) {a e : Nat} (ha : D a) (hd : D e) (h : tgE V a e) : tgE W a e := by
  obtain ⟨x, ⟨n, h1⟩, ⟨m, h2⟩⟩ := h
  obtain ⟨g1, g2⟩ := tgN_ext he hok ha h1
  obtain ⟨_, g3⟩ := tgN_ext he hok hd h2
  obtain ⟨z, hz⟩ := tg_ex hok (rk x + 1) x (by omega) g1
  exact ⟨z, g2 z hz, g3 z hz⟩
/-- the values into whose head unify may turn: two codes whose left halves don't come to one thing -/
noncomputable def tnOf (V : Nat → TV) (D : Nat → Prop) (th : Nat → Nat) (w : Nat) : Bool := @decide (∃ c d a b e f, D c ∧ D d ∧ V c = some (.inr (.inr (a, b))) ∧ V d = some (.inr (.inr (e, f))) ∧ th c = w ∧ th d = w ∧ ¬ tgE V a e) (Classical.propDecidable _)
theorem tnOf_I {V W : Nat → TV} {D : Nat → Prop} {th : Nat → Nat} (he : vExt V W) (hok : ∃ rk, vOK W D rk) : tnI (tnOf V D th) D th W := by
  obtain ⟨rk, hok⟩ := hok
  intro c d a b e f dc dd hc hd hv ht
  have d1 := (hok c dc).2.2 a b hc
  have d2 := (hok d dd).2.2 e f hd
  refine tgE_ext he hok d1.1.1 d2.1.1 (Classical.byContradiction (fun q => ?_))
  have : tnOf V D th (th c) = true := by
    unfold tnOf
    exact @decide_eq_true _ (Classical.propDecidable _) ⟨c, d, a, b, e, f, dc, dd, vExt_pair he hc, vExt_pair he hd, rfl, hv.symm, q⟩
  rw [this] at ht
  cases ht
/-- a joint solution whose values fall into classes with a small product -/
def MFs (V : Nat → TV) (D : Nat → Prop) : Prop := ∃ (th : Nat → Nat) (S : Nat → Prop) (t : Nat) (bs : List (Nat × Nat)), vSol V D th ∧ (∀ v, v < 6 → th v = th (v + 64)) ∧ (∀ x y, S (nd x y) → S x ∧ S y) ∧ clsOK (tnOf V D th) S t bs ∧ (∀ v, v < 6 → S (th v) ∧ th v ≤ t) ∧ prF bs ≤ 500000
theorem MF_of {V1 V2 : Nat → TV} {D1 D2 : Nat → Prop} (h : ∀ V0, vAg (jDm D1 D2) (jVw V1 V2) V0 → (∃ th, vSol V0 (jDm D1 D2) th ∧ ∀ v, v < 6 → th v = th (v + 64)) → MFs V0 (jDm D1 D2)) : MF V1 V2 D1 D2 := by
  intro V0 W th y n W2 rs hag _ hext hy hok hsol hs hj hr
  obtain ⟨t2, S, t, bs, g1, g2, g3, g4, g5, g6⟩ := h V0 hag ⟨th, ((hsol th).mp hs).1, hj⟩
  exact uRun_cls g3 g4 (g5 y hy).1 (g5 y hy).2 g6 hok ((hsol t2).mpr ⟨g1, fun v hv => g2 v (by omega)⟩) (tnOf_I hext hok) (g2 y hy) hr
