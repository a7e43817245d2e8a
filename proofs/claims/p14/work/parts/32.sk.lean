/-! A MEMORY OF A FIXED SHAPE: behind the constructors no cell is made and no reference is written. The shape Sk: a row of ints (its length), a row of references (its kind, its length, what it holds), an object (its class; a field is an int, or a reference that stays). What changes: sg, the ints of each cell. -/
abbrev rSk : Type := Nat ⊕ (Nat × Nat × (Nat → Option Nat)) ⊕ (Nat × List (Option (Option Nat)))
abbrev rSg : Type := Nat → Nat → Int32
def skF (v : Nat → Int32) : Nat → List (Option (Option Nat)) → List rv
  | _, [] => []
  | j, none :: fs => .inl (v j) :: skF v (j + 1) fs
  | j, some r :: fs => .inr (.inr r) :: skF v (j + 1) fs
def skEnt (s : rSk) (v : Nat → Int32) : rEnt := match s with
  | .inl n => .inl (n, v)
  | .inr (.inl x) => .inr (.inl x)
  | .inr (.inr (ci, fs)) => .inr (.inr (ci, skF v 0 fs))
def skM (sg : rSg) : Nat → List rSk → List rEnt
  | _, [] => []
  | k, s :: t => skEnt s (sg k) :: skM sg (k + 1) t
/-- one int of one cell -/
def up2 (sg : rSg) (k j : Nat) (x : Int32) : rSg := fun q => if q = k then upd (sg k) j x else sg q
/-- all ints of one cell -/
def upC (sg : rSg) (k : Nat) (f : Nat → Int32) : rSg := fun q => if q = k then f else sg q
theorem up2_eq (sg : rSg) (k j : Nat) (x : Int32) : up2 sg k j x = upC sg k (upd (sg k) j x) := rfl
theorem upC_same (sg : rSg) (k : Nat) (f : Nat → Int32) : upC sg k f k = f := if_pos rfl
theorem upC_ne (sg : rSg) {k q : Nat} (f : Nat → Int32) (h : q ≠ k) : upC sg k f q = sg q := if_neg h
theorem up2_same (sg : rSg) (k j : Nat) (x : Int32) : up2 sg k j x k j = x := by simp [up2, upd]
theorem up2_nj (sg : rSg) (k : Nat) {j i : Nat} (x : Int32) (h : i ≠ j) : up2 sg k j x k i = sg k i := by simp [up2, upd, h]
theorem up2_nk (sg : rSg) {k q : Nat} (j : Nat) (x : Int32) (h : q ≠ k) : up2 sg k j x q = sg q := if_neg h
theorem skM_len (sg : rSg) : ∀ (k : Nat) (l : List rSk), (skM sg k l).length = l.length
  | _, [] => rfl
  | k, s :: t => by simp [skM, skM_len sg (k + 1) t]
theorem skM_at (sg : rSg) : ∀ (k : Nat) (l : List rSk) (i : Nat) (s : rSk), l[i]? = some s → (skM sg k l)[i]? = some (skEnt s (sg (k + i)))
  | _, [], i, s, h => by simp at h
  | k, s0 :: t, 0, s, h => by
    cases h
    rfl
  | k, s0 :: t, i + 1, s, h => by
    have := skM_at sg (k + 1) t i s (by simpa using h)
    rw [show k + (i + 1) = k + 1 + i by omega]
    simpa [skM] using this
theorem skM_congr {sg sg2 : rSg} : ∀ (k : Nat) (l : List rSk), (∀ i, i < l.length → sg (k + i) = sg2 (k + i)) → skM sg k l = skM sg2 k l
  | _, [], _ => rfl
  | k, s :: t, h => by
    have h0 := h 0 (by simp)
    rw [Nat.add_zero] at h0
    simp only [skM, h0]
    rw [skM_congr (sg := sg) (sg2 := sg2) (k + 1) t (fun i hi => by have := h (i + 1) (Nat.succ_lt_succ hi); rwa [show k + (i + 1) = k + 1 + i by omega] at this)]
theorem skM_set (sg : rSg) : ∀ (k : Nat) (l : List rSk) (i : Nat) (s : rSk) (f : Nat → Int32), l[i]? = some s → (skM sg k l).set i (skEnt s f) = skM (upC sg (k + i) f) k l
  | _, [], i, s, f, h => by simp at h
  | k, s0 :: t, 0, s, f, h => by
    cases h
    simp only [skM, List.set_cons_zero, Nat.add_zero, upC_same]
    rw [skM_congr (sg := sg) (sg2 := upC sg k f) (k + 1) t (fun i _ => (upC_ne sg f (by omega)).symm)]
  | k, s0 :: t, i + 1, s, f, h => by
    have := skM_set sg (k + 1) t i s f (by simpa using h)
    simp only [skM, List.set_cons_succ]
    rw [this, show k + 1 + i = k + (i + 1) by omega, upC_ne sg f (show k ≠ k + (i + 1) by omega)]
theorem skF_get (v : Nat → Int32) : ∀ (j0 : Nat) (fs : List (Option (Option Nat))) (j : Nat) (x : Option (Option Nat)), fs[j]? = some x → (skF v j0 fs)[j]? = some (match x with | none => .inl (v (j0 + j)) | some r => .inr (.inr r))
  | _, [], j, x, h => by simp at h
  | j0, none :: t, 0, x, h => by cases h; rfl
  | j0, some r :: t, 0, x, h => by cases h; rfl
  | j0, none :: t, j + 1, x, h => by
    have := skF_get v (j0 + 1) t j x (by simpa using h)
    rw [show j0 + (j + 1) = j0 + 1 + j by omega]
    simpa [skF] using this
  | j0, some r :: t, j + 1, x, h => by
    have := skF_get v (j0 + 1) t j x (by simpa using h)
    rw [show j0 + (j + 1) = j0 + 1 + j by omega]
    simpa [skF] using this
theorem skF_len (v : Nat → Int32) : ∀ (j0 : Nat) (fs : List (Option (Option Nat))), (skF v j0 fs).length = fs.length
  | _, [] => rfl
  | j0, none :: t => by simp [skF, skF_len v (j0 + 1) t]
  | j0, some r :: t => by simp [skF, skF_len v (j0 + 1) t]
theorem skF_congr {v w : Nat → Int32} : ∀ (j0 : Nat) (fs : List (Option (Option Nat))), (∀ i, j0 ≤ i → v i = w i) → skF v j0 fs = skF w j0 fs
  | _, [], _ => rfl
  | j0, none :: t, h => by simp only [skF]; rw [h j0 (Nat.le_refl _), skF_congr (v := v) (w := w) (j0 + 1) t (fun i hi => h i (by omega))]
  | j0, some r :: t, h => by simp only [skF]; rw [skF_congr (v := v) (w := w) (j0 + 1) t (fun i hi => h i (by omega))]
theorem skF_set (v : Nat → Int32) (x : Int32) : ∀ (j0 : Nat) (fs : List (Option (Option Nat))) (j : Nat), fs[j]? = some none → (skF v j0 fs).set j (.inl x) = skF (upd v (j0 + j) x) j0 fs
  | _, [], j, h => by simp at h
  | j0, none :: t, 0, h => by
    simp only [skF, List.set_cons_zero, Nat.add_zero]
    rw [show upd v j0 x j0 = x from if_pos rfl, skF_congr (v := v) (w := upd v j0 x) (j0 + 1) t (fun i hi => (if_neg (by omega)).symm)]
  | j0, some r :: t, 0, h => by simp at h
  | j0, none :: t, j + 1, h => by
    have := skF_set v x (j0 + 1) t j (by simpa using h)
    simp only [skF, List.set_cons_succ]
    rw [this, show j0 + 1 + j = j0 + (j + 1) by omega, show upd v (j0 + (j + 1)) x j0 = v j0 from if_neg (by omega)]
  | j0, some r :: t, j + 1, h => by
    have := skF_set v x (j0 + 1) t j (by simpa using h)
    simp only [skF, List.set_cons_succ]
    rw [this, show j0 + 1 + j = j0 + (j + 1) by omega]
def EvS (Sk : List rSk) (d y : Nat) (as : List rv) (sg : rSg) (P : Option rv → rSg → Prop) : Prop := ∃ v s2, Ev d y as (skM sg 0 Sk) (v, skM s2 0 Sk, 0, 0) ∧ P v s2
def GoS (Sk : List rSk) (d own nL : Nat) (ret : Option FieldType) (ini : Bool) (cc : ByteArray) (pc : Nat) (L : List (Nat × rv)) (S : List rv) (sg : rSg) (P : Option rv → rSg → Prop) : Prop := ∃ v s2, Go d own nL ret ini cc pc L S (skM sg 0 Sk) 0 0 (v, skM s2 0 Sk, 0, 0) ∧ P v s2
section GS
variable {Sk : List rSk}
theorem EvS.up {d e y : Nat} {as : List rv} {sg : rSg} {P : Option rv → rSg → Prop} (h : EvS Sk d y as sg P) (he : d ≤ e) : EvS Sk e y as sg P := by
  obtain ⟨v, M2, h1, h2⟩ := h
  exact ⟨v, M2, h1.up he, h2⟩
theorem EvS.imp {d y : Nat} {as : List rv} {sg : rSg} {P Q : Option rv → rSg → Prop} (h : EvS Sk d y as sg P) (hq : ∀ v s2, P v s2 → Q v s2) : EvS Sk d y as sg Q := by
  obtain ⟨v, M2, h1, h2⟩ := h
  exact ⟨v, M2, h1, hq v M2 h2⟩
theorem EvS.of {d y own nL k : Nat} {nm : MethodName} {cc : ByteArray} {ret : Option FieldType} {st : Bool} {as : List rv} {sg : rSg} {P : Option rv → rSg → Prop} (hG : rG.1 y = some (own, nm, cc, nL, ret, k, st)) (hk : as.length = k ∧ rWide as ≤ nL) {ini : Bool} (hi : (nm.name == "<init>") = ini) (h : GoS Sk d own nL ret ini cc 0 (rArgs 0 as) [] sg P) : EvS Sk (d + 1) y as sg P := by
  obtain ⟨v, M2, h1, h2⟩ := h
  exact ⟨v, M2, Ev.of_go hG hk hi h1, h2⟩
variable {d own nL : Nat} {ret : Option FieldType} {ini : Bool} {cc : ByteArray} {pc : Nat} {L : List (Nat × rv)} {S : List rv} {sg : rSg} {P : Option rv → rSg → Prop}
theorem GoS.imp {Q : Option rv → rSg → Prop} (h : GoS Sk d own nL ret ini cc pc L S sg P) (hq : ∀ v s2, P v s2 → Q v s2) : GoS Sk d own nL ret ini cc pc L S sg Q := by
  obtain ⟨v, M2, h1, h2⟩ := h
  exact ⟨v, M2, h1, hq v M2 h2⟩
theorem gs0 (pc' : Nat) (L' : List (Nat × rv)) (S' : List rv) {i : Instr} {n : Nat} (hd : decode cc pc = .ok (i, n)) (h : ∀ M, rIns rG own nL ret ini pc L S M i = some (.inl (pc', L', S', M, 0, 0))) (hl : rLen i = none ∨ rLen i = some n) (k : GoS Sk d own nL ret ini cc pc' L' S' sg P) : GoS Sk d own nL ret ini cc pc L S sg P := by
  obtain ⟨v, M2, h1, h2⟩ := k
  exact ⟨v, M2, go1 hd hl (h _) h1, h2⟩
theorem gsRet {r : Option rv} {i : Instr} {n : Nat} (hd : decode cc pc = .ok (i, n)) (h : ∀ M, rIns rG own nL ret ini pc L S M i = some (.inr (.inl r))) (hl : rLen i = none ∨ rLen i = some n) (hp : P r sg) : GoS Sk d own nL ret ini cc pc L S sg P := ⟨r, sg, goR hd hl (h _), hp⟩
theorem gsIf {t : Nat} {b : Bool} {C : Prop} {r : List rv} {i : Instr} {n : Nat} (hd : decode cc pc = .ok (i, n)) (h : ∀ M, rIns rG own nL ret ini pc L S M i = some (.inl (if b then t else pc + 3, L, r, M, 0, 0))) (hl : rLen i = none ∨ rLen i = some n) (hb : b = true ↔ C) (kt : C → GoS Sk d own nL ret ini cc t L r sg P) (kf : ¬ C → GoS Sk d own nL ret ini cc (pc + 3) L r sg P) : GoS Sk d own nL ret ini cc pc L S sg P := by
  cases hbb : b with
  | true =>
    subst hbb
    obtain ⟨v, M2, h1, h2⟩ := kt (hb.mp rfl)
    exact ⟨v, M2, go1 hd hl (h _) h1, h2⟩
  | false =>
    subst hbb
    obtain ⟨v, M2, h1, h2⟩ := kf (fun q => by have := hb.mpr q; cases this)
    exact ⟨v, M2, go1 hd hl (h _) h1, h2⟩
theorem gsGet {i k ci j t : Nat} {fin nest : Bool} {fs : List (Option (Option Nat))} {r : List rv} (hd : decode cc pc = .ok (.getfield i, 3)) (hk : Sk[k]? = some (.inr (.inr (ci, fs)))) (hf : rG.2.1 own i = some (ci, j, t, fin, nest)) (hj : fs[j]? = some none) (kk : GoS Sk d own nL ret ini cc (pc + 3) L (.inl (sg k j) :: r) sg P) : GoS Sk d own nL ret ini cc pc L (.inr (.inr (some k)) :: r) sg P := by
  obtain ⟨w, M2, h1, h2⟩ := kk
  have hM := skM_at sg 0 Sk k _ hk
  rw [Nat.zero_add] at hM
  have hv := skF_get (sg k) 0 fs j none hj
  rw [Nat.zero_add] at hv
  exact ⟨w, M2, goGet hd hf hM hv h1, h2⟩
theorem gsGetR {i k ci j t : Nat} {fin nest : Bool} {fs : List (Option (Option Nat))} {r : List rv} (x : Option Nat) (hd : decode cc pc = .ok (.getfield i, 3)) (hk : Sk[k]? = some (.inr (.inr (ci, fs)))) (hf : rG.2.1 own i = some (ci, j, t, fin, nest)) (hj : fs[j]? = some (some x)) (kk : GoS Sk d own nL ret ini cc (pc + 3) L (.inr (.inr x) :: r) sg P) : GoS Sk d own nL ret ini cc pc L (.inr (.inr (some k)) :: r) sg P := by
  obtain ⟨w, M2, h1, h2⟩ := kk
  have hM := skM_at sg 0 Sk k _ hk
  rw [Nat.zero_add] at hM
  have hv := skF_get (sg k) 0 fs j (some x) hj
  exact ⟨w, M2, goGet hd hf hM hv h1, h2⟩
theorem gsPut {i k ci j t : Nat} {fin nest : Bool} {fs : List (Option (Option Nat))} {v : Int32} {r : List rv} (hd : decode cc pc = .ok (.putfield i, 3)) (hk : Sk[k]? = some (.inr (.inr (ci, fs)))) (hf : rG.2.1 own i = some (ci, j, t, fin, nest)) (hj : fs[j]? = some none) (hv : rFits t (.inl v) = true) (hfi : fin = true → ini = true ∧ nest = false) (kk : GoS Sk d own nL ret ini cc (pc + 3) L r (up2 sg k j v) P) : GoS Sk d own nL ret ini cc pc L (.inl v :: .inr (.inr (some k)) :: r) sg P := by
  obtain ⟨w, M2, h1, h2⟩ := kk
  have hM := skM_at sg 0 Sk k _ hk
  rw [Nat.zero_add] at hM
  have hjl : j < (skF (sg k) 0 fs).length := by rw [skF_len]; exact (List.getElem?_eq_some_iff.mp hj).1
  refine ⟨w, M2, goPut hd hf hM hjl hv hfi ?_, h2⟩
  rw [skF_set (sg k) v 0 fs j hj, Nat.zero_add]
  have hs := skM_set sg 0 Sk k _ (upd (sg k) j v) hk
  rw [Nat.zero_add] at hs
  rw [show (.inr (.inr (ci, skF (upd (sg k) j v) 0 fs)) : rEnt) = skEnt (.inr (.inr (ci, fs))) (upd (sg k) j v) from rfl, hs]
  exact h1
theorem gsIald {k n : Nat} {x : Int32} {r : List rv} (hd : decode cc pc = .ok (.iaload, 1)) (hk : Sk[k]? = some (.inl n)) (hin : rIn x n = true) (kk : GoS Sk d own nL ret ini cc (pc + 1) L (.inl (sg k x.toNatClampNeg) :: r) sg P) : GoS Sk d own nL ret ini cc pc L (.inl x :: .inr (.inr (some k)) :: r) sg P := by
  obtain ⟨w, M2, h1, h2⟩ := kk
  have hM := skM_at sg 0 Sk k _ hk
  rw [Nat.zero_add] at hM
  exact ⟨w, M2, goIald hd hM hin h1, h2⟩
theorem gsIast {k n : Nat} {x v : Int32} {r : List rv} (hd : decode cc pc = .ok (.iastore, 1)) (hk : Sk[k]? = some (.inl n)) (hin : rIn x n = true) (kk : GoS Sk d own nL ret ini cc (pc + 1) L r (up2 sg k x.toNatClampNeg v) P) : GoS Sk d own nL ret ini cc pc L (.inl v :: .inl x :: .inr (.inr (some k)) :: r) sg P := by
  obtain ⟨w, M2, h1, h2⟩ := kk
  have hM := skM_at sg 0 Sk k _ hk
  rw [Nat.zero_add] at hM
  refine ⟨w, M2, goIast hd hM hin ?_, h2⟩
  have hs := skM_set sg 0 Sk k _ (upd (sg k) x.toNatClampNeg v) hk
  rw [Nat.zero_add] at hs
  rw [show (.inl (n, upd (sg k) x.toNatClampNeg v) : rEnt) = skEnt (.inl n) (upd (sg k) x.toNatClampNeg v) from rfl, hs]
  exact h1
theorem gsAald {k n : Nat} {x : Int32} {f : Nat → Option Nat} {r : List rv} (hd : decode cc pc = .ok (.aaload, 1)) (hk : Sk[k]? = some (.inr (.inl (1, n, f)))) (hin : rIn x n = true) (kk : GoS Sk d own nL ret ini cc (pc + 1) L (.inr (.inr (f x.toNatClampNeg)) :: r) sg P) : GoS Sk d own nL ret ini cc pc L (.inl x :: .inr (.inr (some k)) :: r) sg P := by
  obtain ⟨w, M2, h1, h2⟩ := kk
  have hM := skM_at sg 0 Sk k _ hk
  rw [Nat.zero_add] at hM
  exact ⟨w, M2, goAald hd hM hin h1, h2⟩
theorem gsAald2 {k n : Nat} {x : Int32} {f : Nat → Option Nat} {r : List rv} (hd : decode cc pc = .ok (.aaload, 1)) (hk : Sk[k]? = some (.inr (.inl (2, n, f)))) (hin : rIn x n = true) (kk : GoS Sk d own nL ret ini cc (pc + 1) L (.inr (.inr (f x.toNatClampNeg)) :: r) sg P) : GoS Sk d own nL ret ini cc pc L (.inl x :: .inr (.inr (some k)) :: r) sg P := by
  obtain ⟨w, M2, h1, h2⟩ := kk
  have hM := skM_at sg 0 Sk k _ hk
  rw [Nat.zero_add] at hM
  exact ⟨w, M2, goAald2 hd hM hin h1, h2⟩
theorem gsAlen {k n : Nat} {r : List rv} (hd : decode cc pc = .ok (.arraylength, 1)) (hk : Sk[k]? = some (.inl n)) (kk : GoS Sk d own nL ret ini cc (pc + 1) L (.inl (Int32.ofNat n) :: r) sg P) : GoS Sk d own nL ret ini cc pc L (.inr (.inr (some k)) :: r) sg P := by
  obtain ⟨w, M2, h1, h2⟩ := kk
  have hM := skM_at sg 0 Sk k _ hk
  rw [Nat.zero_add] at hM
  exact ⟨w, M2, goAlen hd hM h1, h2⟩
theorem gsCopy {i y k0 k1 n0 n1 : Nat} {sp dp n : Int32} {r : List rv} (hd : decode cc pc = .ok (.invokestatic i, 3)) (hk : rG.2.2.1 own i = some (5, y)) (hr : rSum r ≤ 8) (h0 : Sk[k0]? = some (.inl n0)) (h1 : Sk[k1]? = some (.inl n1)) (hh : ¬ sp < 0 ∧ ¬ dp < 0 ∧ ¬ n < 0 ∧ sp.toNatClampNeg + n.toNatClampNeg ≤ n0 ∧ dp.toNatClampNeg + n.toNatClampNeg ≤ n1)
    (kk : GoS Sk d own nL ret ini cc (pc + 3) L r (upC sg k1 (va_cpy (sg k0) (sg k1) sp.toNatClampNeg dp.toNatClampNeg n.toNatClampNeg)) P) : GoS Sk d own nL ret ini cc pc L (.inl n :: .inl dp :: .inr (.inr (some k1)) :: .inl sp :: .inr (.inr (some k0)) :: r) sg P := by
  obtain ⟨w, M2, g1, g2⟩ := kk
  have hM0 := skM_at sg 0 Sk k0 _ h0
  have hM1 := skM_at sg 0 Sk k1 _ h1
  rw [Nat.zero_add] at hM0 hM1
  have hs := skM_set sg 0 Sk k1 _ (va_cpy (sg k0) (sg k1) sp.toNatClampNeg dp.toNatClampNeg n.toNatClampNeg) h1
  rw [Nat.zero_add] at hs
  refine ⟨w, M2, go1 (dc := 0) (dz := 0) hd (Or.inr rfl) ?_ g1, g2⟩
  have hc : rCopy (skM sg 0 Sk) k0 k1 sp dp n = some (skM (upC sg k1 (va_cpy (sg k0) (sg k1) sp.toNatClampNeg dp.toNatClampNeg n.toNatClampNeg)) 0 Sk) := by
    unfold rCopy
    rw [hM0, hM1]
    simp only [skEnt]
    rw [if_pos hh, ← hs]
    rfl
  simp only [rIns, hk]
  rw [if_pos hr, hc]
  rfl
theorem gsCallV {P1 : Option rv → rSg → Prop} {i y o2 k n : Nat} {nm : MethodName} {cc2 : ByteArray} {nL2 : Nat} {ret2 : Option FieldType} {stt : Bool} {as r : List rv} {fs : List (Option (Option Nat))} (hd : decode cc pc = .ok (.invokevirtual i, 3)) (hkd : rG.2.2.1 own i = some (2, y)) (hG : rG.1 y = some (o2, nm, cc2, nL2, ret2, n, stt)) (hS : S[n - 1]? = some (.inr (.inr (some k)))) (hn : 0 < n) (hk : Sk[k]? = some (.inr (.inr (o2, fs)))) (ht : rTake n S = some (as, r)) (hr : rSum r ≤ 8) (he : EvS Sk d y as sg P1) (kk : ∀ v s2, P1 v s2 → GoS Sk d own nL ret ini cc (pc + 3) L (v.toList ++ r) s2 P) : GoS Sk d own nL ret ini cc pc L S sg P := by
  obtain ⟨v, M2, h1, h2⟩ := he
  obtain ⟨v3, M3, h3, h4⟩ := kk v M2 h2
  have hM := skM_at sg 0 Sk k _ hk
  rw [Nat.zero_add] at hM
  exact ⟨v3, M3, goC hd (Or.inr rfl) (rInsV hkd hG hS hn hM ht hr) h1 h3, h4⟩
theorem gsCallS {P1 : Option rv → rSg → Prop} {i y o2 n kd : Nat} {nm : MethodName} {cc2 : ByteArray} {nL2 : Nat} {ret2 : Option FieldType} {stt : Bool} {as r : List rv} (hd : decode cc pc = .ok (.invokestatic i, 3)) (hkd : rG.2.2.1 own i = some (kd, y)) (hk34 : kd = 3 ∨ kd = 4) (hG : rG.1 y = some (o2, nm, cc2, nL2, ret2, n, stt)) (ht : rTake n S = some (as, r)) (hr : rSum r ≤ 8) (he : EvS Sk d y as sg P1) (kk : ∀ v s2, P1 v s2 → GoS Sk d own nL ret ini cc (pc + 3) L (v.toList ++ r) s2 P) : GoS Sk d own nL ret ini cc pc L S sg P := by
  obtain ⟨v, M2, h1, h2⟩ := he
  obtain ⟨v3, M3, h3, h4⟩ := kk v M2 h2
  exact ⟨v3, M3, goC hd (Or.inr rfl) (rInsS hkd hk34 hG ht hr) h1 h3, h4⟩
end GS
