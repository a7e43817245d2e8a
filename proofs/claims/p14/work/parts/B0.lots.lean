/-! LOTS: what is drawn, and when four hold -/
def nx (z : Int32) : Int32 := z * 1664525 + 1013904223
def dN (z : Int32) (m : Nat) : Nat := z.toBitVec.toNat % 2 ^ 31 / 256 % m
theorem dN_lt (z : Int32) {m : Nat} (h : 0 < m) : dN z m < m := Nat.mod_lt _ h
theorem draw_val (z : Int32) {m : Nat} (h0 : 0 < m) (hm : m < 2 ^ 31) : irem ((z &&& 2147483647) / 256) (nI m) = nI (dN z m) := by
  have e1 : z &&& 2147483647 = nI (z.toBitVec.toNat % 2 ^ 31) := pk_and z 31 rfl
  have hl : z.toBitVec.toNat % 2 ^ 31 < 2 ^ 31 := Nat.mod_lt _ (by decide)
  have e2 : nI (z.toBitVec.toNat % 2 ^ 31) / 256 = nI (z.toBitVec.toNat % 2 ^ 31 / 256) := pk_div hl (by decide) (by decide)
  rw [e1, e2]
  exact pk_rem (by omega) h0 hm
abbrev At : Type := Nat ⊕ (Nat × Nat)
def hv (z : Int32) : Nat := if dN (nx z) 2 = 0 then dN (nx (nx z)) 6 else 6 + dN (nx (nx z)) 3
theorem hv_lt (z : Int32) : hv z < 9 := by
  unfold hv
  have h1 := dN_lt (nx (nx z)) (m := 6) (by decide)
  have h2 := dN_lt (nx (nx z)) (m := 3) (by decide)
  split <;> omega
def tD (z : Int32) : At := if dN (nx z) 3 = 0 then .inl (dN (nx (nx z)) 6) else if dN (nx z) 3 = 1 then .inl (6 + dN (nx (nx z)) 3) else .inr (hv (nx z), hv (nx (nx (nx z))))
def tZ (z : Int32) : Int32 := if dN (nx z) 3 = 0 then nx (nx z) else if dN (nx z) 3 = 1 then nx (nx z) else nx (nx (nx (nx (nx z))))
def tOK : At → Prop
  | .inl h => h < 9
  | .inr (p, q) => p < 9 ∧ q < 9
theorem tD_ok (z : Int32) : tOK (tD z) := by
  unfold tD
  have h1 := dN_lt (nx (nx z)) (m := 6) (by decide)
  have h2 := dN_lt (nx (nx z)) (m := 3) (by decide)
  split
  · show _ < 9; omega
  · split
    · show _ < 9; omega
    · exact ⟨hv_lt _, hv_lt _⟩
def fv (ρ : Nat → Nat) (h : Nat) : Nat := if h < 6 then ρ h else h - 6
def tv (ρ : Nat → Nat) : At → Nat
  | .inl h => fv ρ h
  | .inr (p, q) => nd (fv ρ p) (fv ρ q)
theorem fv_ext {ρ r : Nat → Nat} (h : ∀ v, v < 6 → ρ v = r v) (x : Nat) : fv ρ x = fv r x := by
  unfold fv
  by_cases q : x < 6
  · rw [if_pos q, if_pos q, h x q]
  · rw [if_neg q, if_neg q]
theorem tv_ext {ρ r : Nat → Nat} (h : ∀ v, v < 6 → ρ v = r v) (t : At) : tv ρ t = tv r t := by
  cases t with
  | inl x => exact fv_ext h x
  | inr p => show nd _ _ = nd _ _; rw [fv_ext h, fv_ext h]
def sat (E : List (At × At)) (ρ : Nat → Nat) : Prop := ∀ e, e ∈ E → tv ρ e.1 = tv ρ e.2
def Sat (E : List (At × At)) : Prop := ∃ ρ, sat E ρ
theorem sat_ext {E : List (At × At)} {ρ r : Nat → Nat} (h : ∀ v, v < 6 → ρ v = r v) (hs : sat E ρ) : sat E r := fun e he => by rw [← tv_ext h, ← tv_ext h]; exact hs e he
theorem sat_app {E : List (At × At)} {a b : At} {ρ : Nat → Nat} : sat (E ++ [(a, b)]) ρ ↔ sat E ρ ∧ tv ρ a = tv ρ b := by
  constructor
  · exact fun h => ⟨fun e he => h e (List.mem_append_left _ he), h (a, b) (List.mem_append_right _ List.mem_cons_self)⟩
  · rintro ⟨h1, h2⟩ e he
    rcases List.mem_append.mp he with he | he
    · exact h1 e he
    · have : e = (a, b) := List.mem_singleton.mp he
      subst this
      exact h2
def zE (z : Int32) : Int32 := tZ (tZ z)
def zn : Nat → Int32 → Int32
  | 0, z => z
  | n + 1, z => zE (zn n z)
def lE : Nat → Int32 → List (At × At)
  | 0, _ => []
  | n + 1, z => lE n z ++ [(tD (zn n z), tD (tZ (zn n z)))]
theorem lE_mono {n : Nat} {z : Int32} (h : ¬ Sat (lE n z)) : ¬ Sat (lE (n + 1) z) := fun ⟨ρ, hs⟩ => h ⟨ρ, (sat_app.mp hs).1⟩
noncomputable def iteP (p : Prop) (x y : Int32) : Int32 := @ite _ p (Classical.propDecidable p) x y
theorem iteP_pos {p : Prop} {x y : Int32} (h : p) : iteP p x y = x := by unfold iteP; exact if_pos h
theorem iteP_neg {p : Prop} {x y : Int32} (h : ¬ p) : iteP p x y = y := by unfold iteP; exact if_neg h
/-- a variable that can't be anything -/
def closedP (E : List (At × At)) (v : Nat) : Prop := ¬ ∃ ρ, sat E ρ ∧ ρ v = 11
noncomputable def cN (E : List (At × At)) : Nat → Nat → Int32 → Int32
  | 0, _, a => a
  | n + 1, v, a => cN E n (v + 1) (iteP (closedP E v) (a + 1) a)
noncomputable def hA : Nat → Int32 → Int32 → Int32
  | 0, _, a => a
  | n + 1, z, a => hA n (zn 4 z) (iteP (Sat (lE 4 z)) (a + 1) a)
noncomputable def tA : Nat → Int32 → Int32 → Int32
  | 0, _, a => a
  | n + 1, z, a => tA n (zn 4 z) (iteP (Sat (lE 4 z)) (a + cN (lE 4 z) 6 0 0) a)
/-! the class draws -/
def hc (h : Nat) : Nat := if h < 6 then h else 128 + (h - 6)
def cc (np : Nat) : At → Nat
  | .inl h => hc h
  | .inr _ => 256 + np
def cn (np : Nat) : At → Nat
  | .inl _ => np
  | .inr _ => np + 1
theorem hc_lo {h : Nat} (h9 : h < 6) : hc h = h := if_pos h9
theorem hc_hi (h : Nat) : hc (6 + h) = 128 + h := by unfold hc; rw [if_neg (by omega), Nat.add_sub_cancel_left]
theorem c_below {s : rSg} {z : Int32} (hz : s 686 0 = z) {m : Nat} (h0 : 1 ≤ m) (hm : m < 2 ^ 31) : EvS rSkel 1 2 [.inr (.inr (some 686)), .inl (nI m)] s (fun v t => v = some (.inl (nI (dN (nx z) m))) ∧ (∀ q, q ≠ 686 → t q = s q) ∧ t 686 0 = nx z) := by
  subst hz
  refine w_2 s (nI m) ⟨fun _ => ⟨fun q => absurd ((nI_eq (a := m) (b := 0) hm (by decide)).mp q) (by omega), ?_, fun q hq => up2_nk _ _ _ hq, up2_same _ _ _ _⟩, fun q => absurd ((nI_leI (a := 1) (by decide) hm).mpr h0) q⟩
  exact congrArg (fun x => some (.inl x : rv)) (draw_val (nx (s 686 0)) (by omega) hm)
theorem c_drawHalf {s : rSg} {z : Int32} (hz : s 686 0 = z) : EvS rSkel 2 3 [.inr (.inr (some 686))] s (fun v t => v = some (.inl (nI (hc (hv z)))) ∧ (∀ q, q ≠ 686 → t q = s q) ∧ t 686 0 = nx (nx z)) := by
  refine w_3 s ((c_below hz (m := 2) (by decide) (by decide)).imp ?_)
  rintro _ t ⟨rfl, t0, t1⟩
  have l2 := dN_lt (nx z) (m := 2) (by decide)
  have l6 := dN_lt (nx (nx z)) (m := 6) (by decide)
  have l3 := dN_lt (nx (nx z)) (m := 3) (by decide)
  refine ⟨_, rfl, fun hne => (c_below t1 (m := 3) (by decide) (by decide)).imp ?_, fun he => (c_below t1 (m := 6) (by decide) (by decide)).imp ?_⟩
  · rintro _ u ⟨rfl, u0, u1⟩
    have h2 : ¬ dN (nx z) 2 = 0 := fun q => hne (by rw [q]; rfl)
    refine ⟨_, rfl, ?_, fun q hq => by rw [u0 q hq, t0 q hq], u1⟩
    rw [show (128 : Int32) + nI (dN (nx (nx z)) 3) = nI (128 + dN (nx (nx z)) 3) from nI_add 128 _, hv, if_neg h2, hc_hi]
  · rintro _ u ⟨rfl, u0, u1⟩
    have h2 : dN (nx z) 2 = 0 := (nI_eq (b := 0) (by omega) (by decide)).mp (Classical.not_not.mp he)
    refine ⟨_, rfl, ?_, fun q hq => by rw [u0 q hq, t0 q hq], u1⟩
    rw [hv, if_pos h2, hc_lo l6]
theorem c_addPair {s : rSg} {np : Nat} (h : s 231 4 = nI np) (hn : np < 640) (a b : Int32) : EvS rSkel 1 23 [.inr (.inr (some 231)), .inl a, .inl b] s (fun v t => v = some (.inl (nI (256 + np))) ∧ (∀ q, q ≠ 231 → q ≠ 234 → t q = s q) ∧ (∀ j, j ≠ 4 → t 231 j = s 231 j) ∧ t 231 4 = nI (np + 1) ∧ (∀ j, j < 2 * np → t 234 j = s 234 j) ∧ t 234 (2 * np) = a ∧ t 234 (2 * np + 1) = b) := by
  have e1 : (2 : Int32) * nI np = nI (2 * np) := by rw [show (2 : Int32) = nI 2 from rfl, pk_mul]
  refine w_23 s 231 scr231 a b ⟨fun q => absurd q (by rw [h]; exact nI_pos (by omega)), fun _ => ⟨fun _ => ?_, fun q => absurd (by rw [h]; exact (nI_ltI (b := 640) (by omega) (by decide)).mpr hn) q⟩⟩
  rw [h, e1, nI_1, nI_1, nI_clamp (by omega), nI_clamp (by omega)]
  have e2 : (256 : Int32) + nI (np + 1) - 1 = nI (256 + np) := by
    rw [show (256 : Int32) + nI (np + 1) = nI (256 + (np + 1)) from nI_add 256 _]
    exact nI_pred (256 + np)
  rw [e2]
  refine ⟨rIn_nI (by omega) (by decide), rIn_nI (by omega) (by decide), rfl, fun q g1 g2 => ?_, fun j g => ?_, up2_same _ _ _ _, fun j hj => ?_, ?_, ?_⟩
  · rw [up2_nk _ _ _ g1, up2_nk _ _ _ g2, up2_nk _ _ _ g2]
  · rw [up2_nj _ _ _ g, up2_nk _ _ _ (by decide), up2_nk _ _ _ (by decide)]
  · rw [up2_nk _ _ _ (by decide), up2_nj _ _ _ (by omega), up2_nj _ _ _ (by omega)]
  · rw [up2_nk _ _ _ (by decide), up2_nj _ _ _ (by omega)]; exact up2_same _ _ _ _
  · rw [up2_nk _ _ _ (by decide)]; exact up2_same _ _ _ _
/-- a term is drawn: what it leaves -/
def cDr (s t : rSg) (z : Int32) (np : Nat) : Prop := (∀ q, q ≠ 231 → q ≠ 234 → q ≠ 686 → t q = s q) ∧ t 686 0 = tZ z ∧ t 231 4 = nI (cn np (tD z)) ∧ (∀ j, j < 2 * np → t 234 j = s 234 j) ∧ (∀ p q, tD z = .inr (p, q) → t 234 (2 * np) = nI (hc p) ∧ t 234 (2 * np + 1) = nI (hc q))
theorem c_drawTerm {s : rSg} {z : Int32} (hz : s 686 0 = z) {np : Nat} (h : s 231 4 = nI np) (hn : np < 640) : EvS rSkel 3 1 [.inr (.inr (some 686)), .inr (.inr (some 231))] s (fun v t => v = some (.inl (nI (cc np (tD z)))) ∧ cDr s t z np) := by
  refine w_1 s 231 scr231 ((c_below hz (m := 3) (by decide) (by decide)).imp ?_)
  rintro _ t ⟨rfl, t0, t1⟩
  have l3 := dN_lt (nx z) (m := 3) (by decide)
  have l6 := dN_lt (nx (nx z)) (m := 6) (by decide)
  refine ⟨_, rfl, fun he => (c_below t1 (m := 6) (by decide) (by decide)).imp ?_, fun he => (c_below t1 (m := 3) (by decide) (by decide)).imp ?_, fun hne => (c_drawHalf t1).imp ?_⟩
  · rintro _ u ⟨rfl, u0, u1⟩
    have e : dN (nx z) 3 = 0 := (nI_eq (b := 0) (by omega) (by decide)).mp he
    have eD : tD z = .inl (dN (nx (nx z)) 6) := by unfold tD; rw [if_pos e]
    have eZ : tZ z = nx (nx z) := by unfold tZ; rw [if_pos e]
    refine ⟨_, rfl, by rw [eD]; show (some (.inl _) : Option rv) = some (.inl (nI (hc _))); rw [hc_lo l6], ⟨fun q g1 g2 g3 => by rw [u0 q g3, t0 q g3], by rw [u1, eZ], ?_, fun j hj => by rw [u0 234 (by decide), t0 234 (by decide)], fun p q hp => by rw [eD] at hp; cases hp⟩⟩
    rw [u0 231 (by decide), t0 231 (by decide), h, eD]; rfl
  · rintro _ u ⟨rfl, u0, u1⟩
    have e : dN (nx z) 3 = 1 := (nI_eq (b := 1) (by omega) (by decide)).mp he
    have e0 : ¬ dN (nx z) 3 = 0 := by omega
    have eD : tD z = .inl (6 + dN (nx (nx z)) 3) := by unfold tD; rw [if_neg e0, if_pos e]
    have eZ : tZ z = nx (nx z) := by unfold tZ; rw [if_neg e0, if_pos e]
    refine ⟨_, rfl, ?_, ⟨fun q g1 g2 g3 => by rw [u0 q g3, t0 q g3], by rw [u1, eZ], ?_, fun j hj => by rw [u0 234 (by decide), t0 234 (by decide)], fun p q hp => by rw [eD] at hp; cases hp⟩⟩
    · rw [eD, show (128 : Int32) + nI (dN (nx (nx z)) 3) = nI (128 + dN (nx (nx z)) 3) from nI_add 128 _]
      show (some (.inl _) : Option rv) = some (.inl (nI (hc _)))
      rw [hc_hi]
    · rw [u0 231 (by decide), t0 231 (by decide), h, eD]; rfl
  · rintro _ u ⟨rfl, u0, u1⟩
    have e0 : ¬ dN (nx z) 3 = 0 := fun q => hne.1 (by rw [q]; rfl)
    have e1 : ¬ dN (nx z) 3 = 1 := fun q => hne.2 (by rw [q]; rfl)
    have eD : tD z = .inr (hv (nx z), hv (nx (nx (nx z)))) := by unfold tD; rw [if_neg e0, if_neg e1]
    have eZ : tZ z = nx (nx (nx (nx (nx z)))) := by unfold tZ; rw [if_neg e0, if_neg e1]
    refine ⟨_, rfl, (c_drawHalf u1).imp ?_⟩
    rintro _ w ⟨rfl, w0, w1⟩
    have h231 : w 231 = s 231 := by rw [w0 231 (by decide), u0 231 (by decide), t0 231 (by decide)]
    have h234 : w 234 = s 234 := by rw [w0 234 (by decide), u0 234 (by decide), t0 234 (by decide)]
    refine ⟨_, rfl, (c_addPair (np := np) (by rw [h231]; exact h) hn _ _).imp ?_⟩
    rintro _ x ⟨rfl, x0, x1, x2, x3, x4, x5⟩
    refine ⟨_, rfl, by rw [eD]; rfl, ⟨fun q g1 g2 g3 => by rw [x0 q g1 g2, w0 q g3, u0 q g3, t0 q g3], by rw [x0 686 (by decide) (by decide), w1, eZ], by rw [x2, eD]; rfl, fun j hj => by rw [x3 j hj, h234], fun p q hp => ?_⟩⟩
    rw [eD] at hp
    cases hp
    exact ⟨x4, x5⟩
