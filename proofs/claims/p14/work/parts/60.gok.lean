/-! WHERE CELLS ARE MADE (constructors): the shape grows. T lies behind Sk, and what is made comes behind T -/
def GoK (d own nL : Nat) (ret : Option FieldType) (ini : Bool) (cc : ByteArray) (pc : Nat) (L : List (Nat × rv)) (S : List rv) (Sk : List rSk) (sg : rSg) (c z : Nat) (P : Option rv → List rSk → rSg → Nat → Nat → Prop) : Prop := ∃ v Sk2 s2 c2 z2, Go d own nL ret ini cc pc L S (skM sg 0 Sk) c z (v, skM s2 0 Sk2, c2, z2) ∧ P v Sk2 s2 c2 z2
def EvK (d y : Nat) (as : List rv) (Sk : List rSk) (sg : rSg) (P : Option rv → List rSk → rSg → Nat → Nat → Prop) : Prop := ∃ v Sk2 s2 c2 z2, Ev d y as (skM sg 0 Sk) (v, skM s2 0 Sk2, c2, z2) ∧ P v Sk2 s2 c2 z2
theorem EvK.up {d e y : Nat} {as : List rv} {Sk : List rSk} {sg : rSg} {P : Option rv → List rSk → rSg → Nat → Nat → Prop} (h : EvK d y as Sk sg P) (he : d ≤ e) : EvK e y as Sk sg P := by
  obtain ⟨v, Sk2, s2, c2, z2, h1, h2⟩ := h
  exact ⟨v, Sk2, s2, c2, z2, h1.up he, h2⟩
theorem EvK.imp {d y : Nat} {as : List rv} {Sk : List rSk} {sg : rSg} {P Q : Option rv → List rSk → rSg → Nat → Nat → Prop} (h : EvK d y as Sk sg P) (hq : ∀ v Sk2 s2 c z, P v Sk2 s2 c z → Q v Sk2 s2 c z) : EvK d y as Sk sg Q := by
  obtain ⟨v, Sk2, s2, c2, z2, h1, h2⟩ := h
  exact ⟨v, Sk2, s2, c2, z2, h1, hq _ _ _ _ _ h2⟩
theorem EvS.k {d y : Nat} {as : List rv} {Sk : List rSk} {sg : rSg} {P : Option rv → rSg → Prop} (h : EvS Sk d y as sg P) : EvK d y as Sk sg (fun v Sk2 s2 c z => Sk2 = Sk ∧ c = 0 ∧ z = 0 ∧ P v s2) := by
  obtain ⟨v, s2, h1, h2⟩ := h
  exact ⟨v, Sk, s2, 0, 0, h1, rfl, rfl, rfl, h2⟩
theorem EvK.of {d y own nL k : Nat} {nm : MethodName} {cc : ByteArray} {ret : Option FieldType} {st : Bool} {as : List rv} {Sk : List rSk} {sg : rSg} {P : Option rv → List rSk → rSg → Nat → Nat → Prop} (hG : rG.1 y = some (own, nm, cc, nL, ret, k, st)) (hk : as.length = k ∧ rWide as ≤ nL) {ini : Bool} (hi : (nm.name == "<init>") = ini) (h : GoK d own nL ret ini cc 0 (rArgs 0 as) [] Sk sg 0 0 P) : EvK (d + 1) y as Sk sg P := by
  obtain ⟨v, Sk2, s2, c2, z2, h1, h2⟩ := h
  exact ⟨v, Sk2, s2, c2, z2, Ev.of_go hG hk hi h1, h2⟩
theorem skM_app (sg : rSg) : ∀ (k : Nat) (l t : List rSk), skM sg k (l ++ t) = skM sg k l ++ skM sg (k + l.length) t
  | k, [], t => rfl
  | k, s :: l, t => by
    simp only [List.cons_append, skM, List.length_cons]
    rw [skM_app sg (k + 1) l t, show k + 1 + l.length = k + (l.length + 1) by omega]
/-- a cell more, whatever is in it -/
theorem skM_push (sg : rSg) (Sk : List rSk) (s : rSk) (f : Nat → Int32) : skM sg 0 Sk ++ [skEnt s f] = skM (upC sg Sk.length f) 0 (Sk ++ [s]) := by
  rw [skM_app, Nat.zero_add, skM_congr (sg := upC sg Sk.length f) (sg2 := sg) 0 Sk (fun i hi => upC_ne sg f (by omega))]
  simp only [skM, upC_same]
theorem skM_shape (sg : rSg) : ∀ (k : Nat) (l : List rSk) (i : Nat) (s : rSk), i < l.length → (skM sg k l).set i (skEnt s (sg (k + i))) = skM sg k (l.set i s)
  | _, [], i, s, h => by simp at h
  | k, s0 :: t, 0, s, h => by simp only [skM, List.set_cons_zero, Nat.add_zero]
  | k, s0 :: t, i + 1, s, h => by
    have := skM_shape sg (k + 1) t i s (by simpa using h)
    simp only [skM, List.set_cons_succ]
    rw [← this, show k + 1 + i = k + (i + 1) by omega]
theorem skF_setR (v : Nat → Int32) (r : Option Nat) : ∀ (j0 : Nat) (fs : List (Option (Option Nat))) (j : Nat) (r0 : Option Nat), fs[j]? = some (some r0) → (skF v j0 fs).set j (.inr (.inr r)) = skF v j0 (fs.set j (some r))
  | _, [], j, r0, h => by simp at h
  | j0, none :: t, 0, r0, h => by simp at h
  | j0, some q :: t, 0, r0, h => by simp only [skF, List.set_cons_zero]
  | j0, none :: t, j + 1, r0, h => by
    have := skF_setR v r (j0 + 1) t j r0 (by simpa using h)
    simp only [skF, List.set_cons_succ, this]
  | j0, some q :: t, j + 1, r0, h => by
    have := skF_setR v r (j0 + 1) t j r0 (by simpa using h)
    simp only [skF, List.set_cons_succ, this]
/-- Sk, and T behind it -/
theorem at_r {Sk T : List rSk} {b j k : Nat} {s : rSk} (hb : Sk.length = b) (hk : b + j = k) (h : T[j]? = some s) : (Sk ++ T)[k]? = some s := by
  subst hb
  subst hk
  rw [List.getElem?_append_right (by omega), Nat.add_sub_cancel_left]
  exact h
theorem at_l {Sk T : List rSk} {k : Nat} {s : rSk} (h : Sk[k]? = some s) : (Sk ++ T)[k]? = some s := by
  rw [List.getElem?_append_left (List.getElem?_eq_some_iff.mp h).1]
  exact h
theorem set_r {Sk T T2 : List rSk} {b j k : Nat} {s : rSk} (hb : Sk.length = b) (hk : b + j = k) (h : T.set j s = T2) : (Sk ++ T).set k s = Sk ++ T2 := by
  subst hb
  subst hk
  rw [List.set_append_right _ _ (by omega), Nat.add_sub_cancel_left, h]
section GK
variable {d own nL : Nat} {ret : Option FieldType} {ini : Bool} {cc : ByteArray} {pc : Nat} {L : List (Nat × rv)} {S : List rv} {Sk : List rSk} {sg : rSg} {c z : Nat} {P : Option rv → List rSk → rSg → Nat → Nat → Prop}
theorem gkSk {Sk2 : List rSk} (h : Sk = Sk2) (kk : GoK d own nL ret ini cc pc L S Sk2 sg c z P) : GoK d own nL ret ini cc pc L S Sk sg c z P := by
  subst h
  exact kk
theorem gk0 (pc' : Nat) (L' : List (Nat × rv)) (S' : List rv) {i : Instr} {n : Nat} (hd : decode cc pc = .ok (i, n)) (h : ∀ M, rIns rG own nL ret ini pc L S M i = some (.inl (pc', L', S', M, 0, 0))) (hl : rLen i = none ∨ rLen i = some n) (k : GoK d own nL ret ini cc pc' L' S' Sk sg c z P) : GoK d own nL ret ini cc pc L S Sk sg c z P := by
  obtain ⟨v, Sk2, s2, c2, z2, h1, h2⟩ := k
  exact ⟨v, Sk2, s2, c2, z2, go1 hd hl (h _) h1, h2⟩
theorem gkRet {r : Option rv} {i : Instr} {n : Nat} (hd : decode cc pc = .ok (i, n)) (h : ∀ M, rIns rG own nL ret ini pc L S M i = some (.inr (.inl r))) (hl : rLen i = none ∨ rLen i = some n) (hp : P r Sk sg c z) : GoK d own nL ret ini cc pc L S Sk sg c z P := ⟨r, Sk, sg, c, z, goR hd hl (h _), hp⟩
theorem gkIf {t : Nat} {b : Bool} {C : Prop} {r : List rv} {i : Instr} {n : Nat} (hd : decode cc pc = .ok (i, n)) (h : ∀ M, rIns rG own nL ret ini pc L S M i = some (.inl (if b then t else pc + 3, L, r, M, 0, 0))) (hl : rLen i = none ∨ rLen i = some n) (hb : b = true ↔ C) (kt : C → GoK d own nL ret ini cc t L r Sk sg c z P) (kf : ¬ C → GoK d own nL ret ini cc (pc + 3) L r Sk sg c z P) : GoK d own nL ret ini cc pc L S Sk sg c z P := by
  cases hbb : b with
  | true =>
    subst hbb
    obtain ⟨v, Sk2, s2, c2, z2, h1, h2⟩ := kt (hb.mp rfl)
    exact ⟨v, Sk2, s2, c2, z2, go1 hd hl (h _) h1, h2⟩
  | false =>
    subst hbb
    obtain ⟨v, Sk2, s2, c2, z2, h1, h2⟩ := kf (fun q => by have := hb.mpr q; cases this)
    exact ⟨v, Sk2, s2, c2, z2, go1 hd hl (h _) h1, h2⟩
theorem gkGetR {i k ci j t : Nat} {fin nest : Bool} {fs : List (Option (Option Nat))} {r : List rv} (x : Option Nat) (hd : decode cc pc = .ok (.getfield i, 3)) (hk : Sk[k]? = some (.inr (.inr (ci, fs)))) (hf : rG.2.1 own i = some (ci, j, t, fin, nest)) (hj : fs[j]? = some (some x)) (kk : GoK d own nL ret ini cc (pc + 3) L (.inr (.inr x) :: r) Sk sg c z P) : GoK d own nL ret ini cc pc L (.inr (.inr (some k)) :: r) Sk sg c z P := by
  obtain ⟨v, Sk2, s2, c2, z2, h1, h2⟩ := kk
  have hM := skM_at sg 0 Sk k _ hk
  rw [Nat.zero_add] at hM
  have hv := skF_get (sg k) 0 fs j (some x) hj
  exact ⟨v, Sk2, s2, c2, z2, goGet hd hf hM hv h1, h2⟩
theorem gkPut {i k ci j t : Nat} {fin nest : Bool} {fs : List (Option (Option Nat))} {v : Int32} {r : List rv} (hd : decode cc pc = .ok (.putfield i, 3)) (hk : Sk[k]? = some (.inr (.inr (ci, fs)))) (hf : rG.2.1 own i = some (ci, j, t, fin, nest)) (hj : fs[j]? = some none) (hv : rFits t (.inl v) = true) (hfi : fin = true → ini = true ∧ nest = false) (kk : GoK d own nL ret ini cc (pc + 3) L r Sk (up2 sg k j v) c z P) : GoK d own nL ret ini cc pc L (.inl v :: .inr (.inr (some k)) :: r) Sk sg c z P := by
  obtain ⟨w, Sk2, s2, c2, z2, h1, h2⟩ := kk
  have hM := skM_at sg 0 Sk k _ hk
  rw [Nat.zero_add] at hM
  have hjl : j < (skF (sg k) 0 fs).length := by rw [skF_len]; exact (List.getElem?_eq_some_iff.mp hj).1
  refine ⟨w, Sk2, s2, c2, z2, goPut hd hf hM hjl hv hfi ?_, h2⟩
  rw [skF_set (sg k) v 0 fs j hj, Nat.zero_add]
  have hs := skM_set sg 0 Sk k _ (upd (sg k) j v) hk
  rw [Nat.zero_add] at hs
  rw [show (.inr (.inr (ci, skF (upd (sg k) j v) 0 fs)) : rEnt) = skEnt (.inr (.inr (ci, fs))) (upd (sg k) j v) from rfl, hs]
  exact h1
/-- a reference is written -/
theorem gkPutR {i k ci j t : Nat} {fin nest : Bool} {fs : List (Option (Option Nat))} {x r0 : Option Nat} {r : List rv} {Sk2 : List rSk} (hd : decode cc pc = .ok (.putfield i, 3)) (hk : Sk[k]? = some (.inr (.inr (ci, fs)))) (hf : rG.2.1 own i = some (ci, j, t, fin, nest)) (hj : fs[j]? = some (some r0)) (hv : rFits t (.inr (.inr x)) = true) (hfi : fin = true → ini = true ∧ nest = false) (h2 : Sk.set k (.inr (.inr (ci, fs.set j (some x)))) = Sk2) (kk : GoK d own nL ret ini cc (pc + 3) L r Sk2 sg c z P) : GoK d own nL ret ini cc pc L (.inr (.inr x) :: .inr (.inr (some k)) :: r) Sk sg c z P := by
  subst h2
  obtain ⟨w, Sk2, s2, c2, z2, h1, h2⟩ := kk
  have hM := skM_at sg 0 Sk k _ hk
  rw [Nat.zero_add] at hM
  have hjl : j < (skF (sg k) 0 fs).length := by rw [skF_len]; exact (List.getElem?_eq_some_iff.mp hj).1
  refine ⟨w, Sk2, s2, c2, z2, goPut hd hf hM hjl hv hfi ?_, h2⟩
  rw [skF_setR (sg k) x 0 fs j r0 hj]
  have hs := skM_shape sg 0 Sk k (.inr (.inr (ci, fs.set j (some x)))) (List.getElem?_eq_some_iff.mp hk).1
  rw [Nat.zero_add] at hs
  rw [show (.inr (.inr (ci, skF (sg k) 0 (fs.set j (some x)))) : rEnt) = skEnt (.inr (.inr (ci, fs.set j (some x)))) (sg k) from rfl, hs]
  exact h1
theorem gkIastN {k n : Nat} {x v : Int32} {r : List rv} (t : Nat) (hd : decode cc pc = .ok (.iastore, 1)) (hk : Sk[k]? = some (.inl n)) (hin : rIn x n = true) (hx : x.toNatClampNeg = t) (kk : GoK d own nL ret ini cc (pc + 1) L r Sk (up2 sg k t v) c z P) : GoK d own nL ret ini cc pc L (.inl v :: .inl x :: .inr (.inr (some k)) :: r) Sk sg c z P := by
  subst hx
  obtain ⟨w, Sk2, s2, c2, z2, h1, h2⟩ := kk
  have hM := skM_at sg 0 Sk k _ hk
  rw [Nat.zero_add] at hM
  refine ⟨w, Sk2, s2, c2, z2, goIast hd hM hin ?_, h2⟩
  have hs := skM_set sg 0 Sk k _ (upd (sg k) x.toNatClampNeg v) hk
  rw [Nat.zero_add] at hs
  rw [show (.inl (n, upd (sg k) x.toNatClampNeg v) : rEnt) = skEnt (.inl n) (upd (sg k) x.toNatClampNeg v) from rfl, hs]
  exact h1
/-- a row of ints is made -/
theorem gkNewA {n : Int32} {nn k : Nat} {r : List rv} {Sk2 : List rSk} (hd : decode cc pc = .ok (.newarray .int, 2)) (h0 : ¬ n < 0) (hn : n.toNatClampNeg = nn) (h9 : nn ≤ 100000) (hk : Sk.length = k) (h2 : Sk ++ [.inl nn] = Sk2) (kk : GoK d own nL ret ini cc (pc + 2) L (.inr (.inr (some k)) :: r) Sk2 (upC sg k (fun _ => 0)) (c + 1) (z + nn) P) : GoK d own nL ret ini cc pc L (.inl n :: r) Sk sg c z P := by
  subst h2
  subst hk
  subst hn
  obtain ⟨w, Sk2, s2, c2, z2, h1, h2⟩ := kk
  refine ⟨w, Sk2, s2, c2, z2, go1 hd (Or.inr rfl) (L' := L) (S' := .inr (.inr (some Sk.length)) :: r) (M' := skM sg 0 Sk ++ [.inl (n.toNatClampNeg, fun _ => 0)]) (pc' := pc + 2) (dc := 1) (dz := n.toNatClampNeg) ?_ ?_, h2⟩
  · simp only [rIns, skM_len]
    rw [if_pos ⟨h0, h9⟩]
  · rw [show (.inl (n.toNatClampNeg, fun _ => 0) : rEnt) = skEnt (.inl n.toNatClampNeg) (fun _ => 0) from rfl, skM_push]
    exact h1
/-- an object is made -/
theorem gkNew {i k ci : Nat} {fs : List rv} {sh : List (Option (Option Nat))} {Sk2 : List rSk} (hd : decode cc pc = .ok (.new i, 3)) (hn : rG.2.2.2.1 own i = some (ci, fs)) (hs : fs = skF (fun _ => 0) 0 sh) (hk : Sk.length = k) (h2 : Sk ++ [.inr (.inr (ci, sh))] = Sk2) (kk : GoK d own nL ret ini cc (pc + 3) L (.inr (.inr (some k)) :: S) Sk2 (upC sg k (fun _ => 0)) (c + 1) (z + sh.length) P) : GoK d own nL ret ini cc pc L S Sk sg c z P := by
  subst h2
  subst hk
  subst hs
  obtain ⟨w, Sk2, s2, c2, z2, h1, h2⟩ := kk
  refine ⟨w, Sk2, s2, c2, z2, go1 hd (Or.inr rfl) (L' := L) (S' := .inr (.inr (some Sk.length)) :: S) (M' := skM sg 0 Sk ++ [.inr (.inr (ci, skF (fun _ => 0) 0 sh))]) (pc' := pc + 3) (dc := 1) (dz := sh.length) ?_ ?_, h2⟩
  · simp only [rIns, hn, skM_len, skF_len]
  · rw [show (.inr (.inr (ci, skF (fun _ => 0) 0 sh)) : rEnt) = skEnt (.inr (.inr (ci, sh))) (fun _ => 0) from rfl, skM_push]
    exact h1
/-- a row of objects is made -/
theorem gkANew {i k nn : Nat} {n : Int32} {r : List rv} {Sk2 : List rSk} (hd : decode cc pc = .ok (.anewarray i, 3)) (hi : rG.2.2.1 own i = some (6, 0)) (h0 : ¬ n < 0) (hn : n.toNatClampNeg = nn) (h9 : nn ≤ 100000) (hk : Sk.length = k) (h2 : Sk ++ [.inr (.inl (1, nn, fun _ => none))] = Sk2) (kk : GoK d own nL ret ini cc (pc + 3) L (.inr (.inr (some k)) :: r) Sk2 (upC sg k (fun _ => 0)) (c + 1) (z + nn) P) : GoK d own nL ret ini cc pc L (.inl n :: r) Sk sg c z P := by
  subst h2
  subst hk
  subst hn
  obtain ⟨w, Sk2, s2, c2, z2, h1, h2⟩ := kk
  refine ⟨w, Sk2, s2, c2, z2, go1 hd (Or.inr rfl) (L' := L) (S' := .inr (.inr (some Sk.length)) :: r) (M' := skM sg 0 Sk ++ [.inr (.inl (1, n.toNatClampNeg, fun _ => none))]) (pc' := pc + 3) (dc := 1) (dz := n.toNatClampNeg) ?_ ?_, h2⟩
  · simp only [rIns, skM_len]
    rw [if_pos ⟨hi, h0, h9⟩]
  · rw [show (.inr (.inl (1, n.toNatClampNeg, fun _ => none)) : rEnt) = skEnt (.inr (.inl (1, n.toNatClampNeg, fun _ => none))) (fun _ => 0) from rfl, skM_push]
    exact h1
/-- a place of a row of objects -/
theorem gkAast {k v n t : Nat} {x : Int32} {f : Nat → Option Nat} {g : List (Option (Option Nat))} {r : List rv} {Sk2 : List rSk} (hd : decode cc pc = .ok (.aastore, 1)) (hk : Sk[k]? = some (.inr (.inl (1, n, f)))) (hv : Sk[v]? = some (.inr (.inr (5, g)))) (hin : rIn x n = true) (hx : x.toNatClampNeg = t) (h2 : Sk.set k (.inr (.inl (1, n, va_up f t (some v)))) = Sk2) (kk : GoK d own nL ret ini cc (pc + 1) L r Sk2 sg c z P) : GoK d own nL ret ini cc pc L (.inr (.inr (some v)) :: .inl x :: .inr (.inr (some k)) :: r) Sk sg c z P := by
  subst h2
  subst hx
  obtain ⟨w, Sk2, s2, c2, z2, h1, h2⟩ := kk
  have hM := skM_at sg 0 Sk k _ hk
  have hV := skM_at sg 0 Sk v _ hv
  rw [Nat.zero_add] at hM hV
  have hs := skM_shape sg 0 Sk k (.inr (.inl (1, n, va_up f x.toNatClampNeg (some v)))) (List.getElem?_eq_some_iff.mp hk).1
  rw [Nat.zero_add] at hs
  refine ⟨w, Sk2, s2, c2, z2, go1 hd (Or.inr rfl) (L' := L) (S' := r) (M' := (skM sg 0 Sk).set k (.inr (.inl (1, n, va_up f x.toNatClampNeg (some v))))) (pc' := pc + 1) (dc := 0) (dz := 0) ?_ ?_, h2⟩
  · simp only [rIns, hM, hV, skEnt]
    rw [if_pos hin]
    rfl
  · rw [show (.inr (.inl (1, n, va_up f x.toNatClampNeg (some v))) : rEnt) = skEnt (.inr (.inl (1, n, va_up f x.toNatClampNeg (some v)))) (sg k) from rfl, hs]
    exact h1
theorem rInsI {own nL pc i y o2 n k : Nat} {ret : Option FieldType} {ini : Bool} {L : List (Nat × rv)} {S as r : List rv} {M : List rEnt} {nm : MethodName} {cc2 : ByteArray} {nL2 : Nat} {ret2 : Option FieldType} {stt : Bool} {fs : List rv} (hk : rG.2.2.1 own i = some (1, y)) (hG : rG.1 y = some (o2, nm, cc2, nL2, ret2, n, stt)) (hS : S[n - 1]? = some (.inr (.inr (some k)))) (hn : 0 < n) (hM : M[k]? = some (.inr (.inr (o2, fs)))) (ht : rTake n S = some (as, r)) (hr : rSum r ≤ 8) : rIns rG own nL ret ini pc L S M (.invokespecial i) = some (.inr (.inr (y, as, r))) := by
  simp only [rIns, hk]
  rw [if_pos (rRecv_mk hG hS hn hM)]
  unfold rCallOf
  rw [hG]
  simp only
  rw [ht]
  simp only
  rw [if_pos hr]
theorem gkCallI {P1 : Option rv → List rSk → rSg → Nat → Nat → Prop} {i y o2 k n : Nat} {nm : MethodName} {cc2 : ByteArray} {nL2 : Nat} {ret2 : Option FieldType} {stt : Bool} {as r : List rv} {fs : List (Option (Option Nat))} (hd : decode cc pc = .ok (.invokespecial i, 3)) (hkd : rG.2.2.1 own i = some (1, y)) (hG : rG.1 y = some (o2, nm, cc2, nL2, ret2, n, stt)) (hS : S[n - 1]? = some (.inr (.inr (some k)))) (hn : 0 < n) (hk : Sk[k]? = some (.inr (.inr (o2, fs)))) (ht : rTake n S = some (as, r)) (hr : rSum r ≤ 8) (he : EvK d y as Sk sg P1) (kk : ∀ v Sk2 s2 c2 z2, P1 v Sk2 s2 c2 z2 → GoK d own nL ret ini cc (pc + 3) L (v.toList ++ r) Sk2 s2 (c + c2) (z + z2) P) : GoK d own nL ret ini cc pc L S Sk sg c z P := by
  obtain ⟨v, Sk2, s2, c2, z2, h1, h2⟩ := he
  obtain ⟨v3, Sk3, s3, c3, z3, h3, h4⟩ := kk v Sk2 s2 c2 z2 h2
  have hM := skM_at sg 0 Sk k _ hk
  rw [Nat.zero_add] at hM
  exact ⟨v3, Sk3, s3, c3, z3, goC hd (Or.inr rfl) (rInsI hkd hG hS hn hM ht hr) h1 h3, h4⟩
theorem gkCallV {P1 : Option rv → List rSk → rSg → Nat → Nat → Prop} {i y o2 k n : Nat} {nm : MethodName} {cc2 : ByteArray} {nL2 : Nat} {ret2 : Option FieldType} {stt : Bool} {as r : List rv} {fs : List (Option (Option Nat))} (hd : decode cc pc = .ok (.invokevirtual i, 3)) (hkd : rG.2.2.1 own i = some (2, y)) (hG : rG.1 y = some (o2, nm, cc2, nL2, ret2, n, stt)) (hS : S[n - 1]? = some (.inr (.inr (some k)))) (hn : 0 < n) (hk : Sk[k]? = some (.inr (.inr (o2, fs)))) (ht : rTake n S = some (as, r)) (hr : rSum r ≤ 8) (he : EvK d y as Sk sg P1) (kk : ∀ v Sk2 s2 c2 z2, P1 v Sk2 s2 c2 z2 → GoK d own nL ret ini cc (pc + 3) L (v.toList ++ r) Sk2 s2 (c + c2) (z + z2) P) : GoK d own nL ret ini cc pc L S Sk sg c z P := by
  obtain ⟨v, Sk2, s2, c2, z2, h1, h2⟩ := he
  obtain ⟨v3, Sk3, s3, c3, z3, h3, h4⟩ := kk v Sk2 s2 c2 z2 h2
  have hM := skM_at sg 0 Sk k _ hk
  rw [Nat.zero_add] at hM
  exact ⟨v3, Sk3, s3, c3, z3, goC hd (Or.inr rfl) (rInsV hkd hG hS hn hM ht hr) h1 h3, h4⟩
end GK
