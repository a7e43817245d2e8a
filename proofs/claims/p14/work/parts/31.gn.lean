/-! A BODY THAT MAKES NO CELLS: it ends with an answer and a memory of which P holds -/
def EvN (d y : Nat) (as : List rv) (M : List rEnt) (P : Option rv → List rEnt → Prop) : Prop := ∃ v M2, Ev d y as M (v, M2, 0, 0) ∧ P v M2
def GoN (d own nL : Nat) (ret : Option FieldType) (ini : Bool) (cc : ByteArray) (pc : Nat) (L : List (Nat × rv)) (S : List rv) (M : List rEnt) (P : Option rv → List rEnt → Prop) : Prop := ∃ v M2, Go d own nL ret ini cc pc L S M 0 0 (v, M2, 0, 0) ∧ P v M2
theorem EvN.up {d e y : Nat} {as : List rv} {M : List rEnt} {P : Option rv → List rEnt → Prop} (h : EvN d y as M P) (he : d ≤ e) : EvN e y as M P := by
  obtain ⟨v, M2, h1, h2⟩ := h
  exact ⟨v, M2, h1.up he, h2⟩
theorem EvN.imp {d y : Nat} {as : List rv} {M : List rEnt} {P Q : Option rv → List rEnt → Prop} (h : EvN d y as M P) (hq : ∀ v M2, P v M2 → Q v M2) : EvN d y as M Q := by
  obtain ⟨v, M2, h1, h2⟩ := h
  exact ⟨v, M2, h1, hq v M2 h2⟩
theorem EvN.of {d y own nL k : Nat} {nm : MethodName} {cc : ByteArray} {ret : Option FieldType} {st : Bool} {as : List rv} {M : List rEnt} {P : Option rv → List rEnt → Prop} (hG : rG.1 y = some (own, nm, cc, nL, ret, k, st)) (hk : as.length = k ∧ rWide as ≤ nL) {ini : Bool} (hi : (nm.name == "<init>") = ini) (h : GoN d own nL ret ini cc 0 (rArgs 0 as) [] M P) : EvN (d + 1) y as M P := by
  obtain ⟨v, M2, h1, h2⟩ := h
  exact ⟨v, M2, Ev.of_go hG hk hi h1, h2⟩
section GN
variable {d own nL : Nat} {ret : Option FieldType} {ini : Bool} {cc : ByteArray} {pc : Nat} {L : List (Nat × rv)} {S : List rv} {M : List rEnt} {P : Option rv → List rEnt → Prop}
theorem gn0 (pc' : Nat) (L' : List (Nat × rv)) (S' : List rv) {i : Instr} {n : Nat} (hd : decode cc pc = .ok (i, n)) (h : rIns rG own nL ret ini pc L S M i = some (.inl (pc', L', S', M, 0, 0))) (hl : rLen i = none ∨ rLen i = some n) (k : GoN d own nL ret ini cc pc' L' S' M P) : GoN d own nL ret ini cc pc L S M P := by
  obtain ⟨v, M2, h1, h2⟩ := k
  exact ⟨v, M2, go1 hd hl h h1, h2⟩
theorem gnRet {r : Option rv} {i : Instr} {n : Nat} (hd : decode cc pc = .ok (i, n)) (h : rIns rG own nL ret ini pc L S M i = some (.inr (.inl r))) (hl : rLen i = none ∨ rLen i = some n) (hp : P r M) : GoN d own nL ret ini cc pc L S M P := ⟨r, M, goR hd hl h, hp⟩
theorem gnCall {P1 : Option rv → List rEnt → Prop} {y : Nat} {as r : List rv} {i : Instr} {n : Nat} (hd : decode cc pc = .ok (i, n)) (h : rIns rG own nL ret ini pc L S M i = some (.inr (.inr (y, as, r)))) (hl : rLen i = none ∨ rLen i = some n) (he : EvN d y as M P1) (k : ∀ v M2, P1 v M2 → GoN d own nL ret ini cc (pc + 3) L (v.toList ++ r) M2 P) : GoN d own nL ret ini cc pc L S M P := by
  obtain ⟨v, M2, h1, h2⟩ := he
  obtain ⟨v3, M3, h3, h4⟩ := k v M2 h2
  exact ⟨v3, M3, goC hd hl h h1 h3, h4⟩
theorem gnIf {t : Nat} {b : Bool} {C : Prop} {r : List rv} {i : Instr} {n : Nat} (hd : decode cc pc = .ok (i, n)) (h : rIns rG own nL ret ini pc L S M i = some (.inl (if b then t else pc + 3, L, r, M, 0, 0))) (hl : rLen i = none ∨ rLen i = some n) (hb : b = true ↔ C) (kt : C → GoN d own nL ret ini cc t L r M P) (kf : ¬ C → GoN d own nL ret ini cc (pc + 3) L r M P) : GoN d own nL ret ini cc pc L S M P := by
  cases hbb : b with
  | true =>
    subst hbb
    obtain ⟨v, M2, h1, h2⟩ := kt (hb.mp rfl)
    exact ⟨v, M2, go1 hd hl h h1, h2⟩
  | false =>
    subst hbb
    obtain ⟨v, M2, h1, h2⟩ := kf (fun q => by have := hb.mpr q; cases this)
    exact ⟨v, M2, go1 hd hl h h1, h2⟩
theorem gnGet {i k ci j t : Nat} {fin nest : Bool} {fs : List rv} {r : List rv} (v : rv) (hd : decode cc pc = .ok (.getfield i, 3)) (hM : M[k]? = some (.inr (.inr (ci, fs)))) (hf : rG.2.1 own i = some (ci, j, t, fin, nest)) (hj : fs[j]? = some v) (kk : GoN d own nL ret ini cc (pc + 3) L (v :: r) M P) : GoN d own nL ret ini cc pc L (.inr (.inr (some k)) :: r) M P := by
  obtain ⟨w, M2, h1, h2⟩ := kk
  exact ⟨w, M2, goGet hd hf hM hj h1, h2⟩
theorem gnPut {i k ci j t : Nat} {fin nest : Bool} {fs : List rv} {v : rv} {r : List rv} (fs2 : List rv) (hd : decode cc pc = .ok (.putfield i, 3)) (hM : M[k]? = some (.inr (.inr (ci, fs)))) (hf : rG.2.1 own i = some (ci, j, t, fin, nest)) (hj : j < fs.length) (hv : rFits t v = true) (hfi : fin = true → ini = true ∧ nest = false) (hs : fs.set j v = fs2) (kk : ∀ M1, rUp M M1 [k] → M1[k]? = some (.inr (.inr (ci, fs2))) → GoN d own nL ret ini cc (pc + 3) L r M1 P) : GoN d own nL ret ini cc pc L (v :: .inr (.inr (some k)) :: r) M P := by
  subst hs
  obtain ⟨w, M2, h1, h2⟩ := kk _ (rUp.set k _) (rSet_at hM)
  exact ⟨w, M2, goPut hd hf hM hj hv hfi h1, h2⟩
theorem gnIald {k n : Nat} {x : Int32} {f : Nat → Int32} {r : List rv} (hd : decode cc pc = .ok (.iaload, 1)) (hM : M[k]? = some (.inl (n, f))) (hin : rIn x n = true) (kk : GoN d own nL ret ini cc (pc + 1) L (.inl (f x.toNatClampNeg) :: r) M P) : GoN d own nL ret ini cc pc L (.inl x :: .inr (.inr (some k)) :: r) M P := by
  obtain ⟨w, M2, h1, h2⟩ := kk
  exact ⟨w, M2, goIald hd hM hin h1, h2⟩
theorem gnIast {k n : Nat} {x v : Int32} {f : Nat → Int32} {r : List rv} (hd : decode cc pc = .ok (.iastore, 1)) (hM : M[k]? = some (.inl (n, f))) (hin : rIn x n = true) (kk : ∀ M1, rUp M M1 [k] → M1[k]? = some (.inl (n, upd f x.toNatClampNeg v)) → GoN d own nL ret ini cc (pc + 1) L r M1 P) : GoN d own nL ret ini cc pc L (.inl v :: .inl x :: .inr (.inr (some k)) :: r) M P := by
  obtain ⟨w, M2, h1, h2⟩ := kk _ (rUp.set k _) (rSet_at hM)
  exact ⟨w, M2, goIast hd hM hin h1, h2⟩
theorem gnAald {k n : Nat} {x : Int32} {f : Nat → Option Nat} {r : List rv} (hd : decode cc pc = .ok (.aaload, 1)) (hM : M[k]? = some (.inr (.inl (1, n, f)))) (hin : rIn x n = true) (kk : GoN d own nL ret ini cc (pc + 1) L (.inr (.inr (f x.toNatClampNeg)) :: r) M P) : GoN d own nL ret ini cc pc L (.inl x :: .inr (.inr (some k)) :: r) M P := by
  obtain ⟨w, M2, h1, h2⟩ := kk
  exact ⟨w, M2, goAald hd hM hin h1, h2⟩
theorem gnAlen {k n : Nat} {f : Nat → Int32} {r : List rv} (hd : decode cc pc = .ok (.arraylength, 1)) (hM : M[k]? = some (.inl (n, f))) (kk : GoN d own nL ret ini cc (pc + 1) L (.inl (Int32.ofNat n) :: r) M P) : GoN d own nL ret ini cc pc L (.inr (.inr (some k)) :: r) M P := by
  obtain ⟨w, M2, h1, h2⟩ := kk
  exact ⟨w, M2, goAlen hd hM h1, h2⟩
theorem gnCopy {i y k0 k1 n0 n1 : Nat} {sp dp n : Int32} {f g : Nat → Int32} {r : List rv} (hd : decode cc pc = .ok (.invokestatic i, 3)) (hk : rG.2.2.1 own i = some (5, y)) (hr : rSum r ≤ 8) (h0 : M[k0]? = some (.inl (n0, f))) (h1 : M[k1]? = some (.inl (n1, g))) (hh : ¬ sp < 0 ∧ ¬ dp < 0 ∧ ¬ n < 0 ∧ sp.toNatClampNeg + n.toNatClampNeg ≤ n0 ∧ dp.toNatClampNeg + n.toNatClampNeg ≤ n1)
    (kk : ∀ M1, rUp M M1 [k1] → M1[k1]? = some (.inl (n1, va_cpy f g sp.toNatClampNeg dp.toNatClampNeg n.toNatClampNeg)) → GoN d own nL ret ini cc (pc + 3) L r M1 P) : GoN d own nL ret ini cc pc L (.inl n :: .inl dp :: .inr (.inr (some k1)) :: .inl sp :: .inr (.inr (some k0)) :: r) M P := by
  obtain ⟨w, M2, g1, g2⟩ := kk _ (rUp.set k1 _) (rSet_at h1)
  refine ⟨w, M2, go1 (dc := 0) (dz := 0) hd (Or.inr rfl) ?_ g1, g2⟩
  have hc : rCopy M k0 k1 sp dp n = some (M.set k1 (.inl (n1, va_cpy f g sp.toNatClampNeg dp.toNatClampNeg n.toNatClampNeg))) := by
    unfold rCopy
    rw [h0, h1]
    simp only
    rw [if_pos hh]
  simp only [rIns, hk]
  rw [if_pos hr, hc]
  rfl
end GN
theorem rUp.mono {M M2 : List rEnt} {a b : List Nat} (h : rUp M M2 a) (hs : ∀ x ∈ a, x ∈ b) : rUp M M2 b := ⟨h.1, fun j hj => h.2 j (fun q => hj (hs j q))⟩
theorem rRecv_mk {y own n k : Nat} {nm : MethodName} {cc2 : ByteArray} {nL2 : Nat} {ret2 : Option FieldType} {stt : Bool} (hG : rG.1 y = some (own, nm, cc2, nL2, ret2, n, stt)) {S : List rv} {M : List rEnt} {fs : List rv} (hS : S[n - 1]? = some (.inr (.inr (some k)))) (hn : 0 < n) (hM : M[k]? = some (.inr (.inr (own, fs)))) : rRecv rG y S M = true := by
  unfold rRecv
  rw [hG]
  simp only
  rw [hS]
  simp only
  rw [hM]
  simp [hn]
/-- a virtual call's step -/
theorem rInsV {own nL pc i y o2 n k : Nat} {ret : Option FieldType} {ini : Bool} {L : List (Nat × rv)} {S as r : List rv} {M : List rEnt} {nm : MethodName} {cc2 : ByteArray} {nL2 : Nat} {ret2 : Option FieldType} {stt : Bool} {fs : List rv} (hk : rG.2.2.1 own i = some (2, y)) (hG : rG.1 y = some (o2, nm, cc2, nL2, ret2, n, stt)) (hS : S[n - 1]? = some (.inr (.inr (some k)))) (hn : 0 < n) (hM : M[k]? = some (.inr (.inr (o2, fs)))) (ht : rTake n S = some (as, r)) (hr : rSum r ≤ 8) : rIns rG own nL ret ini pc L S M (.invokevirtual i) = some (.inr (.inr (y, as, r))) := by
  simp only [rIns, hk]
  rw [if_pos (rRecv_mk hG hS hn hM)]
  unfold rCallOf
  rw [hG]
  simp only
  rw [ht]
  simp only
  rw [if_pos hr]
theorem rInsS {own nL pc i y o2 n kd : Nat} {ret : Option FieldType} {ini : Bool} {L : List (Nat × rv)} {S as r : List rv} {M : List rEnt} {nm : MethodName} {cc2 : ByteArray} {nL2 : Nat} {ret2 : Option FieldType} {stt : Bool} (hk : rG.2.2.1 own i = some (kd, y)) (hkd : kd = 3 ∨ kd = 4) (hG : rG.1 y = some (o2, nm, cc2, nL2, ret2, n, stt)) (ht : rTake n S = some (as, r)) (hr : rSum r ≤ 8) : rIns rG own nL ret ini pc L S M (.invokestatic i) = some (.inr (.inr (y, as, r))) := by
  have hc : rCallOf rG y S = some (.inr (.inr (y, as, r))) := by
    unfold rCallOf
    rw [hG]
    simp only
    rw [ht]
    simp only
    rw [if_pos hr]
  rcases hkd with rfl | rfl
  · simp only [rIns, hk]
    exact hc
  · simp only [rIns, hk]
    exact hc
