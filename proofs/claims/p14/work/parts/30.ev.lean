/-! WHAT A METHOD DOES, without its fuel: Ev; and how a body goes on, instruction by instruction -/
def Ev (d y : Nat) (as : List rv) (M : List rEnt) (R : rRes) : Prop := ∃ k, ∀ n, k ≤ n → rRun rG n d y as M = some R
/-- from here the body comes to its end with R -/
def Go (d own nL : Nat) (ret : Option FieldType) (ini : Bool) (cc : ByteArray) (pc : Nat) (L : List (Nat × rv)) (S : List rv) (M : List rEnt) (c z : Nat) (R : rRes) : Prop := ∃ k, ∀ n f, k ≤ n → k ≤ f → rB rG (rRun rG n d) own nL ret ini cc f pc L S M c z = some R
theorem Ev.two {d y1 y2 : Nat} {a1 a2 : List rv} {M1 M2 : List rEnt} {R1 R2 : rRes} (h1 : Ev d y1 a1 M1 R1) (h2 : Ev d y2 a2 M2 R2) : ∃ n, rRun rG n d y1 a1 M1 = some R1 ∧ rRun rG n d y2 a2 M2 = some R2 := by
  obtain ⟨k1, h1⟩ := h1
  obtain ⟨k2, h2⟩ := h2
  exact ⟨max k1 k2, h1 _ (Nat.le_max_left _ _), h2 _ (Nat.le_max_right _ _)⟩
theorem rB_up {G : rTab} {call call2 : Nat → List rv → List rEnt → Option rRes} {own nL : Nat} {ret : Option FieldType} {ini : Bool} {cc : ByteArray} (hc : ∀ y as M R, call y as M = some R → call2 y as M = some R) :
    ∀ (n pc : Nat) (L : List (Nat × rv)) (S : List rv) (M : List rEnt) (c z : Nat) (R : rRes), rB G call own nL ret ini cc n pc L S M c z = some R → ∀ m, n ≤ m → rB G call2 own nL ret ini cc m pc L S M c z = some R := by
  intro n
  induction n with
  | zero => intro pc L S M c z R h; cases h
  | succ n ih =>
    intro pc L S M c z R h m hm
    obtain ⟨m, rfl⟩ : ∃ q, m = q + 1 := ⟨m - 1, by omega⟩
    simp only [rB] at h ⊢
    split at h
    · next pc2 L2 S2 M2 dc dz hs =>
      exact ih _ _ _ _ _ _ _ h m (by omega)
    · next r hs =>
      exact h
    · next y as r hs =>
      split at h
      · next v M2 uc uz hcall =>
        rw [hc _ _ _ _ hcall]
        exact ih _ _ _ _ _ _ _ h m (by omega)
      · cases h
    · cases h
theorem rRun_up {G : rTab} : ∀ (d n y : Nat) (as : List rv) (M : List rEnt) (R : rRes), rRun G n d y as M = some R → ∀ m e, n ≤ m → d ≤ e → rRun G m e y as M = some R := by
  intro d
  induction d with
  | zero => intro n y as M R h; cases h
  | succ d ih =>
    intro n y as M R h m e hm he
    obtain ⟨e, rfl⟩ : ∃ q, e = q + 1 := ⟨e - 1, by omega⟩
    simp only [rRun] at h ⊢
    split at h
    · next own nm cc nL ret k st hG =>
      split at h
      · next hk =>
        rw [if_pos hk]
        exact rB_up (fun y as M R hr => ih n y as M R hr m e hm (by omega)) n _ _ _ _ _ _ _ h m hm
      · cases h
    · cases h
theorem Ev.up {d e y : Nat} {as : List rv} {M : List rEnt} {R : rRes} (h : Ev d y as M R) (he : d ≤ e) : Ev e y as M R := by
  obtain ⟨k, h⟩ := h
  exact ⟨k, fun n hn => rRun_up d n y as M R (h n hn) n e (Nat.le_refl _) he⟩
theorem Ev.of_run {d n y : Nat} {as : List rv} {M : List rEnt} {R : rRes} (h : rRun rG n d y as M = some R) : Ev d y as M R := ⟨n, fun m hm => rRun_up d n y as M R h m d hm (Nat.le_refl _)⟩
theorem Ev.of_go {d y own nL k : Nat} {nm : MethodName} {cc : ByteArray} {ret : Option FieldType} {st : Bool} {as : List rv} {M : List rEnt} {R : rRes} (hG : rG.1 y = some (own, nm, cc, nL, ret, k, st)) (hk : as.length = k ∧ rWide as ≤ nL) {ini : Bool} (hi : (nm.name == "<init>") = ini) (h : Go d own nL ret ini cc 0 (rArgs 0 as) [] M 0 0 R) : Ev (d + 1) y as M R := by
  obtain ⟨q, h⟩ := h
  refine ⟨q, fun n hn => ?_⟩
  subst hi
  simp only [rRun, hG]
  rw [if_pos hk]
  exact h n n hn hn
section GO
variable {d own nL : Nat} {ret : Option FieldType} {ini : Bool} {cc : ByteArray} {pc : Nat} {L : List (Nat × rv)} {S : List rv} {M : List rEnt} {c z : Nat} {R : rRes}
theorem rStep_mk {i : Instr} {n : Nat} {o : rOut} (hd : decode cc pc = .ok (i, n)) (hl : rLen i = none ∨ rLen i = some n) (h : rIns rG own nL ret ini pc L S M i = some o) : rStep rG own nL ret ini cc pc L S M = some o := by
  unfold rStep
  rw [hd]
  simp only
  rw [if_pos hl]
  exact h
theorem go1 {i : Instr} {n pc' : Nat} {L' : List (Nat × rv)} {S' : List rv} {M' : List rEnt} {dc dz : Nat} (hd : decode cc pc = .ok (i, n)) (hl : rLen i = none ∨ rLen i = some n) (h : rIns rG own nL ret ini pc L S M i = some (.inl (pc', L', S', M', dc, dz))) (k : Go d own nL ret ini cc pc' L' S' M' (c + dc) (z + dz) R) : Go d own nL ret ini cc pc L S M c z R := by
  obtain ⟨q, hq⟩ := k
  refine ⟨q + 1, fun n f hn hf => ?_⟩
  obtain ⟨f, rfl⟩ : ∃ q, f = q + 1 := ⟨f - 1, by omega⟩
  simp only [rB]
  rw [rStep_mk hd hl h]
  exact hq n f (by omega) (by omega)
theorem goR {i : Instr} {n : Nat} {r : Option rv} (hd : decode cc pc = .ok (i, n)) (hl : rLen i = none ∨ rLen i = some n) (h : rIns rG own nL ret ini pc L S M i = some (.inr (.inl r))) : Go d own nL ret ini cc pc L S M c z (r, M, c, z) := by
  refine ⟨1, fun n f hn hf => ?_⟩
  obtain ⟨f, rfl⟩ : ∃ q, f = q + 1 := ⟨f - 1, by omega⟩
  simp only [rB]
  rw [rStep_mk hd hl h]
theorem goC {i : Instr} {n y : Nat} {as r : List rv} {v : Option rv} {M2 : List rEnt} {uc uz : Nat} (hd : decode cc pc = .ok (i, n)) (hl : rLen i = none ∨ rLen i = some n) (h : rIns rG own nL ret ini pc L S M i = some (.inr (.inr (y, as, r)))) (he : Ev d y as M (v, M2, uc, uz)) (k : Go d own nL ret ini cc (pc + 3) L (v.toList ++ r) M2 (c + uc) (z + uz) R) : Go d own nL ret ini cc pc L S M c z R := by
  obtain ⟨q, hq⟩ := k
  obtain ⟨q2, hq2⟩ := he
  refine ⟨max q q2 + 1, fun n f hn hf => ?_⟩
  obtain ⟨f, rfl⟩ : ∃ q, f = q + 1 := ⟨f - 1, by omega⟩
  simp only [rB]
  rw [rStep_mk hd hl h]
  simp only
  rw [hq2 n (by omega)]
  exact hq n f (by omega) (by omega)
/-- a branch: both ways -/
theorem goIf {i : Instr} {n t : Nat} {b : Bool} {r : List rv} (hd : decode cc pc = .ok (i, n)) (hl : rLen i = none ∨ rLen i = some n) (h : rIns rG own nL ret ini pc L S M i = some (.inl (if b then t else pc + 3, L, r, M, 0, 0))) (kt : b = true → Go d own nL ret ini cc t L r M c z R) (kf : b = false → Go d own nL ret ini cc (pc + 3) L r M c z R) : Go d own nL ret ini cc pc L S M c z R := by
  cases hb : b with
  | true => subst hb; exact go1 hd hl h (kt rfl)
  | false => subst hb; exact go1 hd hl h (kf rfl)
/-- a field is read -/
theorem goGet {i k ci j t : Nat} {fin nest : Bool} {fs : List rv} {v : rv} {r : List rv} (hd : decode cc pc = .ok (.getfield i, 3)) (hf : rG.2.1 own i = some (ci, j, t, fin, nest)) (hM : M[k]? = some (.inr (.inr (ci, fs)))) (hj : fs[j]? = some v) (kk : Go d own nL ret ini cc (pc + 3) L (v :: r) M c z R) : Go d own nL ret ini cc pc L (.inr (.inr (some k)) :: r) M c z R := by
  refine go1 hd (Or.inr rfl) (pc' := pc + 3) (L' := L) (S' := v :: r) (M' := M) (dc := 0) (dz := 0) ?_ kk
  simp only [rIns, hf, hM, if_true, hj]
  rfl
theorem goPut {i k ci j t : Nat} {fin nest : Bool} {fs : List rv} {v : rv} {r : List rv} (hd : decode cc pc = .ok (.putfield i, 3)) (hf : rG.2.1 own i = some (ci, j, t, fin, nest)) (hM : M[k]? = some (.inr (.inr (ci, fs)))) (hj : j < fs.length) (hv : rFits t v = true) (hfi : fin = true → ini = true ∧ nest = false) (kk : Go d own nL ret ini cc (pc + 3) L r (M.set k (.inr (.inr (ci, fs.set j v)))) c z R) : Go d own nL ret ini cc pc L (v :: .inr (.inr (some k)) :: r) M c z R := by
  refine go1 hd (Or.inr rfl) (pc' := pc + 3) (L' := L) (S' := r) (M' := M.set k (.inr (.inr (ci, fs.set j v)))) (dc := 0) (dz := 0) ?_ kk
  have hp : rPut M k ci j v = some (M.set k (.inr (.inr (ci, fs.set j v)))) := by
    unfold rPut
    rw [hM]
    simp only
    rw [if_pos ⟨trivial, hj⟩]
  simp only [rIns, hf]
  rw [if_pos ⟨hv, hfi⟩, hp]
  rfl
theorem goIald {k n : Nat} {x : Int32} {f : Nat → Int32} {r : List rv} (hd : decode cc pc = .ok (.iaload, 1)) (hM : M[k]? = some (.inl (n, f))) (hin : rIn x n = true) (kk : Go d own nL ret ini cc (pc + 1) L (.inl (f x.toNatClampNeg) :: r) M c z R) : Go d own nL ret ini cc pc L (.inl x :: .inr (.inr (some k)) :: r) M c z R := by
  refine go1 hd (Or.inr rfl) (pc' := pc + 1) (L' := L) (S' := .inl (f x.toNatClampNeg) :: r) (M' := M) (dc := 0) (dz := 0) ?_ kk
  simp only [rIns, hM]
  rw [if_pos hin]
  rfl
theorem goIast {k n : Nat} {x v : Int32} {f : Nat → Int32} {r : List rv} (hd : decode cc pc = .ok (.iastore, 1)) (hM : M[k]? = some (.inl (n, f))) (hin : rIn x n = true) (kk : Go d own nL ret ini cc (pc + 1) L r (M.set k (.inl (n, upd f x.toNatClampNeg v))) c z R) : Go d own nL ret ini cc pc L (.inl v :: .inl x :: .inr (.inr (some k)) :: r) M c z R := by
  refine go1 hd (Or.inr rfl) (pc' := pc + 1) (L' := L) (S' := r) (M' := M.set k (.inl (n, upd f x.toNatClampNeg v))) (dc := 0) (dz := 0) ?_ kk
  simp only [rIns, hM]
  rw [if_pos hin]
  rfl
theorem goAald {k n : Nat} {x : Int32} {f : Nat → Option Nat} {r : List rv} (hd : decode cc pc = .ok (.aaload, 1)) (hM : M[k]? = some (.inr (.inl (1, n, f)))) (hin : rIn x n = true) (kk : Go d own nL ret ini cc (pc + 1) L (.inr (.inr (f x.toNatClampNeg)) :: r) M c z R) : Go d own nL ret ini cc pc L (.inl x :: .inr (.inr (some k)) :: r) M c z R := by
  refine go1 hd (Or.inr rfl) (pc' := pc + 1) (L' := L) (S' := .inr (.inr (f x.toNatClampNeg)) :: r) (M' := M) (dc := 0) (dz := 0) ?_ kk
  simp only [rIns, hM]
  rw [if_pos hin]
  rfl
theorem goAald2 {k n : Nat} {x : Int32} {f : Nat → Option Nat} {r : List rv} (hd : decode cc pc = .ok (.aaload, 1)) (hM : M[k]? = some (.inr (.inl (2, n, f)))) (hin : rIn x n = true) (kk : Go d own nL ret ini cc (pc + 1) L (.inr (.inr (f x.toNatClampNeg)) :: r) M c z R) : Go d own nL ret ini cc pc L (.inl x :: .inr (.inr (some k)) :: r) M c z R := by
  refine go1 hd (Or.inr rfl) (pc' := pc + 1) (L' := L) (S' := .inr (.inr (f x.toNatClampNeg)) :: r) (M' := M) (dc := 0) (dz := 0) ?_ kk
  simp only [rIns, hM]
  rw [if_pos hin]
  rfl
theorem goAlen {k n : Nat} {f : Nat → Int32} {r : List rv} (hd : decode cc pc = .ok (.arraylength, 1)) (hM : M[k]? = some (.inl (n, f))) (kk : Go d own nL ret ini cc (pc + 1) L (.inl (Int32.ofNat n) :: r) M c z R) : Go d own nL ret ini cc pc L (.inr (.inr (some k)) :: r) M c z R := by
  refine go1 hd (Or.inr rfl) (pc' := pc + 1) (L' := L) (S' := .inl (Int32.ofNat n) :: r) (M' := M) (dc := 0) (dz := 0) ?_ kk
  simp only [rIns, hM]
  rfl
end GO
/-- all cells but these are as they were -/
def rUp (M M2 : List rEnt) (ks : List Nat) : Prop := M2.length = M.length ∧ ∀ j, j ∉ ks → M2[j]? = M[j]?
theorem rUp.rfl' {M : List rEnt} : rUp M M [] := ⟨rfl, fun _ _ => rfl⟩
theorem rUp.set {M : List rEnt} (k : Nat) (e : rEnt) : rUp M (M.set k e) [k] := ⟨by simp, fun j hj => by rw [List.getElem?_set_ne (fun h => hj (by rw [h]; exact List.mem_cons_self))]⟩
theorem rUp.trans {M M1 M2 : List rEnt} {a b : List Nat} (h1 : rUp M M1 a) (h2 : rUp M1 M2 b) : rUp M M2 (a ++ b) := ⟨h2.1.trans h1.1, fun j hj => (h2.2 j (fun h => hj (List.mem_append_right _ h))).trans (h1.2 j (fun h => hj (List.mem_append_left _ h)))⟩
theorem rUp.at {M M1 : List rEnt} {a : List Nat} (h1 : rUp M M1 a) {j : Nat} {e : rEnt} (hj : j ∉ a) (he : M[j]? = some e) : M1[j]? = some e := (h1.2 j hj).trans he
theorem rSet_at {M : List rEnt} {k : Nat} {e0 e : rEnt} (h : M[k]? = some e0) : (M.set k e)[k]? = some e := by
  rw [List.getElem?_set_self (List.getElem?_eq_some_iff.mp h).1]
theorem rSet_ne {M : List rEnt} {k j : Nat} {e e0 : rEnt} (hne : k ≠ j) (h : M[j]? = some e0) : (M.set k e)[j]? = some e0 := by
  rw [List.getElem?_set_ne hne]
  exact h
