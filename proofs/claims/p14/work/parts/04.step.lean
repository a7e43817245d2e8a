/-! ONE INSTRUCTION: what the reckoner does, the machine does -/
def sC : String := "GoalsInAQueue$State"
def rTy (ct : Nat → ClassId) : List (ClassId × FieldType) := [(ct 0, .int), (ct 1, .object sC), (ct 2, .array .int)]
/-- the reckoner's locals, stack and memory as they lie in the machine -/
def rAt (D : va_G) (cl : List vw_C) (ct : Nat → ClassId) (A : Nat → Prop) (H0 : Heap) (al0 : List Nat) (nL : Nat) (ws : va_W) (H : Heap) (locs : List Loc) (ls : Array Slot) (st : List Value) (L : List (Nat × rv)) (S : List rv) (M : List rEnt) : Prop :=
  ∃ lv, lv_has ls nL lv ∧ rRL (rAd ws) L lv ∧ rRS (rAd ws) S st ∧ rRM ct M ws ∧ va_P D cl ws H ∧ va_D A ws ∧ va_S A H0 H locs ∧ al0 <+: rAd ws
def rFx (cn : Nat → String) (Ts nw : List Cond) (D : va_G) (cl : List vw_C) (ct : Nat → ClassId) (p : Program) (R : Room) (s : State) (m : MethodId) (args : Array Value) (meth : Method) (c : Code) (own nL : Nat) (cc : ByteArray) (ret : Option FieldType) (ini : Bool) (A : Nat → Prop) (H0 : Heap) : Prop :=
  p.tables.exec = Jvm.exec ∧ c.code = cc ∧ c.maxLocals = nL ∧ s.vm.findClass (cn own) = some m.cls ∧ (∀ w ∈ Ts, w.before args s = true) ∧ va_K D cl (rTy ct) s ∧ (∀ w ∈ nw, va_Nw w s) ∧ va_AO sC s ∧ va_AOA .int s ∧ meth.sig.returnType = ret ∧ meth.locks = false ∧ (ini = true → meth.name = "<init>") ∧ (∀ q, H0.size ≤ q → A q) ∧ 1 ≤ R.frames ∧ 40 ≤ R.locals
def rOKf (G : rTab) (cn : Nat → String) (Ts nw : List Cond) (cl : List vw_C) : Prop := ∀ (own i ci j t : Nat) (fin nest : Bool), G.2.1 own i = some (ci, j, t, fin, nest) →
  ∃ (C : String) (T : u_T) (N : Nat) (ty : Nat → FieldType), cl[ci]? = some (C, T, N) ∧ j < N ∧ (∀ w ∈ u_ws C T N, w ∈ Ts) ∧ (∀ k, k < N → parseFieldDescriptor (T k).2.2.1 = some (ty k)) ∧ (∀ a, a < N → ∀ b, b < N → a ≠ b → (T a).2.1 ≠ (T b).2.1) ∧ (T j).2.2.2 = fin ∧
    (nest = false → (T j).1 = cn own ∧ Cond.fieldLink (cn own) i (T j).1 (T j).2.1 (T j).2.2.1 ∈ Ts) ∧ (nest = true → ∃ host, Cond.fieldLinkNest (cn own) i (T j).1 (T j).2.1 (T j).2.2.1 host ∈ nw) ∧ (t = 0 → ty j = .int) ∧ (t = 1 → ty j = .boolean) ∧ (t = 2 → (∃ n, ty j = .object n) ∨ ∃ x, ty j = .array x)
def rOKn (G : rTab) (cn : Nat → String) (Ts : List Cond) (cl : List vw_C) : Prop := ∀ (own i ci : Nat) (fs : List rv), G.2.2.2.1 own i = some (ci, fs) →
  ∃ (C : String) (T : u_T) (N : Nat) (ty : Nat → FieldType) (fv : List Value), cl[ci]? = some (C, T, N) ∧ (∀ w ∈ u_ws C T N, w ∈ Ts) ∧ (∀ k, k < N → parseFieldDescriptor (T k).2.2.1 = some (ty k)) ∧ Cond.classLink (cn own) i C ∈ Ts ∧ Cond.instantiable C N ∈ Ts ∧ Cond.initialized C ∈ Ts ∧ fs.length = N ∧ (∀ al, rRS al fs fv) ∧ ∀ j, j < N → defaultValue (ty j) = vp_V fv j
def rOKc (G : rTab) (cn : Nat → String) (Ts : List Cond) : Prop := (∀ (own i : Nat) (v : Int32), G.2.2.2.2.1 own i = some v → Cond.constant (cn own) i v ∈ Ts) ∧ (∀ (own i : Nat) (v : Int64), G.2.2.2.2.2 own i = some v → Cond.constantLong (cn own) i v ∈ Ts)
def rOKm (G : rTab) (cn : Nat → String) (Ts : List Cond) (cl : List vw_C) : Prop := ∀ (y own : Nat) (nm : MethodName) (cc : ByteArray) (nL : Nat) (ret : Option FieldType) (k : Nat) (st : Bool), G.1 y = some (own, nm, cc, nL, ret, k, st) →
  Cond.code nm cc nL ret ∈ Ts ∧ Cond.initialized nm.cls ∈ Ts ∧ plainName nm.cls = true ∧ nm.cls = cn own ∧ nm.cls ≠ "java/lang/invoke/MethodHandle" ∧ nm.cls ≠ "java/lang/invoke/VarHandle" ∧ nL ≤ 21 ∧ (st = false → Cond.instanceMethod nm ∈ Ts ∧ (parseMethodDescriptor nm.desc).map (fun d => d.parameters.length + 1) = some k ∧ ∃ q : vw_C, cl[own]? = some q ∧ q.1 = cn own) ∧ (st = true → Cond.static nm ∈ Ts ∧ (parseMethodDescriptor nm.desc).map (fun d => d.parameters.length) = some k)
def rOKk (G : rTab) (cn : Nat → String) (Ts nw : List Cond) (cl : List vw_C) : Prop := ∀ (own i kd y : Nat), G.2.2.1 own i = some (kd, y) →
  (kd = 0 → Cond.methodLink (cn own) i Lib.objectInit ∈ Ts ∧ Cond.instanceMethod Lib.objectInit ∈ Ts ∧ Cond.code Lib.objectInit ⟨#[0xb1]⟩ 1 none ∈ Ts) ∧
  (kd = 1 → ∃ (o2 : Nat) (nm : MethodName) (cc : ByteArray) (nL k : Nat), G.1 y = some (o2, nm, cc, nL, none, k, false) ∧ nm.name = "<init>" ∧ Cond.methodLink (cn own) i nm ∈ Ts) ∧
  (kd = 2 → ∃ (o2 : Nat) (nm : MethodName) (cc : ByteArray) (nL : Nat) (ret : Option FieldType) (k : Nat), G.1 y = some (o2, nm, cc, nL, ret, k, false) ∧ Cond.methodLink (cn own) i nm ∈ Ts ∧ Cond.selects nm.cls nm nm ∈ Ts) ∧
  (kd = 3 → ∃ (o2 : Nat) (nm : MethodName) (cc : ByteArray) (nL : Nat) (ret : Option FieldType) (k : Nat), G.1 y = some (o2, nm, cc, nL, ret, k, true) ∧ Cond.methodLink (cn own) i nm ∈ Ts) ∧
  (kd = 4 → ∃ (o2 : Nat) (nm : MethodName) (cc : ByteArray) (nL : Nat) (ret : Option FieldType) (k : Nat) (host : String), G.1 y = some (o2, nm, cc, nL, ret, k, true) ∧ Cond.methodLinkNest (cn own) i nm host ∈ nw) ∧
  (kd = 5 → Cond.methodLink (cn own) i arraycopyName ∈ Ts ∧ Cond.native arraycopyName ∈ Ts ∧ Cond.static arraycopyName ∈ Ts ∧ Cond.initialized "java/lang/System" ∈ Ts) ∧
  (kd = 6 → Cond.classLink (cn own) i sC ∈ Ts) ∧
  (kd = 7 → Cond.classLink (cn own) i ("[" ++ (FieldType.array .int).toString) ∈ Ts) ∧
  (kd = 8 → Cond.methodLink (cn own) i Lib.Math.max.name ∈ Ts ∧ Cond.static Lib.Math.max.name ∈ Ts ∧ Cond.initialized "java/lang/Math" ∈ Ts ∧ Cond.code Lib.Math.max.name Lib.Math.max.code 2 (some .int) ∈ Ts) ∧
  (kd = 9 → Cond.methodLink (cn own) i Lib.Math.min.name ∈ Ts ∧ Cond.static Lib.Math.min.name ∈ Ts ∧ Cond.initialized "java/lang/Math" ∈ Ts ∧ Cond.code Lib.Math.min.name Lib.Math.min.code 2 (some .int) ∈ Ts)
def rOK (G : rTab) (cn : Nat → String) (Ts nw : List Cond) (cl : List vw_C) : Prop := rOKf G cn Ts nw cl ∧ rOKn G cn Ts cl ∧ rOKc G cn Ts ∧ rOKm G cn Ts cl ∧ rOKk G cn Ts nw cl ∧ Cond.arrayClass .int ∈ Ts ∧ (∃ (T : u_T) (N : Nat), cl[5]? = some (sC, T, N)) ∧ (∀ w ∈ Ts, goodWord w = true) ∧ (∀ w ∈ nw, (∃ a i b n d h, w = .fieldLinkNest a i b n d h) ∨ ∃ a i x h, w = .methodLinkNest a i x h)
theorem rTg_eq {pc : Nat} {off : Int} {t : Nat} (h : rTg pc off = some t) : (pc : Int) + off = (t : Int) := by
  unfold rTg at h
  split at h
  · cases h
    omega
  · cases h
theorem rIn_in {x : Int32} {n : Nat} (h : rIn x n = true) : vp_in x n := by
  simp only [rIn, Bool.and_eq_true, Bool.not_eq_true', decide_eq_false_iff_not, decide_eq_true_eq] at h
  unfold vp_in
  intro q
  rcases q with q | q
  · exact h.1 q
  · omega
theorem rNx_eq {pc pc' : Nat} {L L' : List (Nat × rv)} {S S' : List rv} {M M' : List rEnt} {dc dz : Nat} (h : rNx pc L S M = some (.inl (pc', L', S', M', dc, dz))) : pc' = pc ∧ L' = L ∧ S' = S ∧ M' = M ∧ dc = 0 ∧ dz = 0 := by
  simp only [rNx, Option.some.injEq, Sum.inl.injEq, Prod.mk.injEq] at h
  obtain ⟨h1, h2, h3, h4, h5, h6⟩ := h
  exact ⟨h1.symm, h2.symm, h3.symm, h4.symm, h5.symm, h6.symm⟩
section RST
variable {G : rTab} {cn : Nat → String} {Ts nw : List Cond} {p : Program} {l : Launch} {e : Env} {R : Room} {s : State} {m : MethodId} {args : Array Value} {below : List Frame} {meth : Method} {c : Code} {H : Heap} {locs : List Loc} {cells slots : Nat} {Q : State → Prop}
variable {cc : ByteArray} {pc : Nat} {ls : Array Slot} {st : List Value} {D : va_G} {cl : List vw_C} {ct : Nat → ClassId} {A : Nat → Prop} {H0 : Heap} {al0 : List Nat} {own nL : Nat} {ret : Option FieldType} {ini : Bool} {ws : va_W} {L : List (Nat × rv)} {S : List rv} {M : List rEnt}
/-- what is still to be shown behind an instruction -/
abbrev rTo (D : va_G) (cl : List vw_C) (ct : Nat → ClassId) (A : Nat → Prop) (H0 : Heap) (al0 : List Nat) (nL : Nat) (p : Program) (l : Launch) (e : Env) (R : Room) (s : State) (m : MethodId) (args : Array Value) (below : List Frame) (meth : Method) (c : Code) (cells slots : Nat) (Q : State → Prop) (pc : Nat) (L : List (Nat × rv)) (S : List rv) (M : List rEnt) : Prop :=
  ∀ (ws : va_W) (H : Heap) (locs : List Loc) (ls : Array Slot) (st : List Value), rAt D cl ct A H0 al0 nL ws H locs ls st L S M → W p l e R s m args below meth c H locs cells slots Q (F0 m pc ls st)
theorem k_loadI (F : rFx cn Ts nw D cl ct p R s m args meth c own nL cc ret ini A H0) {i n pc' : Nat} {o : rOut} {ins : Instr} (hi : (∃ k : Fin 4, ins = .iload_n k ∧ (k : Nat) = i ∧ n = 1) ∨ (ins = .iload i ∧ n = 2)) (hd : decode cc pc = .ok (ins, n)) (a : rAt D cl ct A H0 al0 nL ws H locs ls st L S M) (h : rLoadI L i (pc + n) S M = some o)
    (kk : ∀ x, o = .inl (pc + n, L, .inl x :: S, M, 0, 0) → rTo D cl ct A H0 al0 nL p l e R s m args below meth c cells slots Q (pc + n) L (.inl x :: S) M) : W p l e R s m args below meth c H locs cells slots Q (F0 m pc ls st) := by
  unfold rLoadI at h
  split at h
  · next x hx =>
    obtain ⟨lv, h1, h2, h3, h4⟩ := a
    obtain ⟨k, w, hk, hw⟩ := rRL_get h2 hx
    cases hw
    have hkk := kk x (Option.some.inj h).symm ws H locs ls (.int x :: st) ⟨lv, h1, h2, rRS_mk rfl h3, h4⟩
    rcases hi with ⟨k4, rfl, hk4, rfl⟩ | ⟨rfl, rfl⟩
    · exact lv_iload_n F.1 F.2.1 hd hk4 (lv_at h1 k hk) hkk
    · exact lv_iload F.1 F.2.1 hd (lv_at h1 k hk) hkk
  · cases h
theorem k_loadL (F : rFx cn Ts nw D cl ct p R s m args meth c own nL cc ret ini A H0) {i n pc' : Nat} {o : rOut} {ins : Instr} (hi : (∃ k : Fin 4, ins = .lload_n k ∧ (k : Nat) = i ∧ n = 1) ∨ (ins = .lload i ∧ n = 2)) (hd : decode cc pc = .ok (ins, n)) (a : rAt D cl ct A H0 al0 nL ws H locs ls st L S M) (h : rLoadL L i (pc + n) S M = some o)
    (kk : ∀ x, o = .inl (pc + n, L, .inr (.inl x) :: S, M, 0, 0) → rTo D cl ct A H0 al0 nL p l e R s m args below meth c cells slots Q (pc + n) L (.inr (.inl x) :: S) M) : W p l e R s m args below meth c H locs cells slots Q (F0 m pc ls st) := by
  unfold rLoadL at h
  split at h
  · next x hx =>
    obtain ⟨lv, h1, h2, h3, h4⟩ := a
    obtain ⟨k, w, hk, hw⟩ := rRL_get h2 hx
    cases hw
    have hkk := kk x (Option.some.inj h).symm ws H locs ls (.long x :: st) ⟨lv, h1, h2, rRS_mk rfl h3, h4⟩
    rcases hi with ⟨k4, rfl, hk4, rfl⟩ | ⟨rfl, rfl⟩
    · exact lv_lload_n F.1 F.2.1 hd hk4 (lv_at h1 k hk) hkk
    · exact lv_lload F.1 F.2.1 hd (lv_at h1 k hk) hkk
  · cases h
theorem k_loadA (F : rFx cn Ts nw D cl ct p R s m args meth c own nL cc ret ini A H0) {i n pc' : Nat} {o : rOut} {ins : Instr} (hi : (∃ k : Fin 4, ins = .aload_n k ∧ (k : Nat) = i ∧ n = 1) ∨ (ins = .aload i ∧ n = 2)) (hd : decode cc pc = .ok (ins, n)) (a : rAt D cl ct A H0 al0 nL ws H locs ls st L S M) (h : rLoadA L i (pc + n) S M = some o)
    (kk : ∀ x, o = .inl (pc + n, L, .inr (.inr x) :: S, M, 0, 0) → rTo D cl ct A H0 al0 nL p l e R s m args below meth c cells slots Q (pc + n) L (.inr (.inr x) :: S) M) : W p l e R s m args below meth c H locs cells slots Q (F0 m pc ls st) := by
  unfold rLoadA at h
  split at h
  · next x hx =>
    obtain ⟨lv, h1, h2, h3, h4⟩ := a
    obtain ⟨k, w, hk, hw⟩ := rRL_get h2 hx
    have hkk := kk x (Option.some.inj h).symm ws H locs ls (w :: st) ⟨lv, h1, h2, rRS_mk hw h3, h4⟩
    cases x with
    | none =>
      cases hw
      rcases hi with ⟨k4, rfl, hk4, rfl⟩ | ⟨rfl, rfl⟩
      · exact lv_aload_nN F.1 F.2.1 hd hk4 (lv_at h1 k hk) hkk
      · exact lv_aloadN F.1 F.2.1 hd (lv_at h1 k hk) hkk
    | some x =>
      obtain ⟨b, -, rfl⟩ := rvV_ref hw
      rcases hi with ⟨k4, rfl, hk4, rfl⟩ | ⟨rfl, rfl⟩
      · exact lv_aload_n F.1 F.2.1 hd hk4 (lv_at h1 k hk) hkk
      · exact lv_aload F.1 F.2.1 hd (lv_at h1 k hk) hkk
  · cases h
theorem k_storeI (F : rFx cn Ts nw D cl ct p R s m args meth c own nL cc ret ini A H0) {i n : Nat} {o : rOut} {ins : Instr} (hi : (∃ k : Fin 4, ins = .istore_n k ∧ (k : Nat) = i ∧ n = 1) ∨ (ins = .istore i ∧ n = 2)) (hd : decode cc pc = .ok (ins, n)) (a : rAt D cl ct A H0 al0 nL ws H locs ls st L S M) (h : rStoreI nL L i (pc + n) S M = some o)
    (kk : ∀ x r, o = .inl (pc + n, rSet1 L i (.inl x), r, M, 0, 0) → rTo D cl ct A H0 al0 nL p l e R s m args below meth c cells slots Q (pc + n) (rSet1 L i (.inl x)) r M) : W p l e R s m args below meth c H locs cells slots Q (F0 m pc ls st) := by
  unfold rStoreI at h
  split at h
  · next x r =>
    split at h
    · next hn =>
      obtain ⟨lv, h1, h2, h3, h4⟩ := a
      obtain ⟨t, rfl, h5⟩ := rRS_int h3
      have hkk : ∀ ls' : Array Slot, lv_has ls' nL ((i, Value.int x) :: lv.filter (fun q => !(q.1 == i) && !(q.1 + 1 == i && q.2.category == 2))) → W p l e R s m args below meth c H locs cells slots Q (F0 m (pc + n) ls' t) := fun ls' hl => kk x r (Option.some.inj h).symm ws H locs ls' t ⟨_, hl, rRL_set1 rfl h2, h5, h4⟩
      rcases hi with ⟨k4, rfl, hk4, rfl⟩ | ⟨rfl, rfl⟩
      · exact lv_istore_n F.1 F.2.1 hd hk4 h1 hn rfl hkk
      · exact lv_istore F.1 F.2.1 hd h1 hn rfl hkk
    · cases h
  · cases h
theorem k_storeL (F : rFx cn Ts nw D cl ct p R s m args meth c own nL cc ret ini A H0) {i n : Nat} {o : rOut} {ins : Instr} (hi : (∃ k : Fin 4, ins = .lstore_n k ∧ (k : Nat) = i ∧ n = 1) ∨ (ins = .lstore i ∧ n = 2)) (hd : decode cc pc = .ok (ins, n)) (a : rAt D cl ct A H0 al0 nL ws H locs ls st L S M) (h : rStoreL nL L i (pc + n) S M = some o)
    (kk : ∀ x r, o = .inl (pc + n, rSet2 L i (.inr (.inl x)), r, M, 0, 0) → rTo D cl ct A H0 al0 nL p l e R s m args below meth c cells slots Q (pc + n) (rSet2 L i (.inr (.inl x))) r M) : W p l e R s m args below meth c H locs cells slots Q (F0 m pc ls st) := by
  unfold rStoreL at h
  split at h
  · next x r =>
    split at h
    · next hn =>
      obtain ⟨lv, h1, h2, h3, h4⟩ := a
      obtain ⟨t, rfl, h5⟩ := rRS_long h3
      have hkk : ∀ ls' : Array Slot, lv_has ls' nL ((i, Value.long x) :: lv.filter (fun q => !(q.1 == i) && (!(q.1 == i + 1) && !(q.1 + 1 == i && q.2.category == 2)))) → W p l e R s m args below meth c H locs cells slots Q (F0 m (pc + n) ls' t) := fun ls' hl => kk x r (Option.some.inj h).symm ws H locs ls' t ⟨_, hl, rRL_set2 rfl h2, h5, h4⟩
      rcases hi with ⟨k4, rfl, hk4, rfl⟩ | ⟨rfl, rfl⟩
      · exact lv_lstore_n F.1 F.2.1 hd hk4 h1 hn rfl hkk
      · exact lv_lstore F.1 F.2.1 hd h1 hn rfl hkk
    · cases h
  · cases h
theorem k_storeA (F : rFx cn Ts nw D cl ct p R s m args meth c own nL cc ret ini A H0) {i n : Nat} {o : rOut} {ins : Instr} (hi : (∃ k : Fin 4, ins = .astore_n k ∧ (k : Nat) = i ∧ n = 1) ∨ (ins = .astore i ∧ n = 2)) (hd : decode cc pc = .ok (ins, n)) (a : rAt D cl ct A H0 al0 nL ws H locs ls st L S M) (h : rStoreA nL L i (pc + n) S M = some o)
    (kk : ∀ x r, o = .inl (pc + n, rSet1 L i (.inr (.inr x)), r, M, 0, 0) → rTo D cl ct A H0 al0 nL p l e R s m args below meth c cells slots Q (pc + n) (rSet1 L i (.inr (.inr x))) r M) : W p l e R s m args below meth c H locs cells slots Q (F0 m pc ls st) := by
  unfold rStoreA at h
  split at h
  · next x r =>
    split at h
    · next hn =>
      obtain ⟨lv, h1, h2, h3, h4⟩ := a
      obtain ⟨w, t, rfl, hw, h3⟩ := rRS_cons h3
      have hkk : ∀ ls' : Array Slot, lv_has ls' nL ((i, w) :: lv.filter (fun q => !(q.1 == i) && !(q.1 + 1 == i && q.2.category == 2))) → W p l e R s m args below meth c H locs cells slots Q (F0 m (pc + n) ls' t) := fun ls' hl => kk x r (Option.some.inj h).symm ws H locs ls' t ⟨_, hl, rRL_set1 hw h2, h3, h4⟩
      cases x with
      | none =>
        cases hw
        rcases hi with ⟨k4, rfl, hk4, rfl⟩ | ⟨rfl, rfl⟩
        · exact lv_astore_nN F.1 F.2.1 hd hk4 h1 hn rfl hkk
        · exact lv_astoreN F.1 F.2.1 hd h1 hn rfl hkk
      | some x =>
        obtain ⟨b, -, rfl⟩ := rvV_ref hw
        rcases hi with ⟨k4, rfl, hk4, rfl⟩ | ⟨rfl, rfl⟩
        · exact lv_astore_n F.1 F.2.1 hd hk4 h1 hn rfl hkk
        · exact lv_astore F.1 F.2.1 hd h1 hn rfl hkk
    · cases h
  · cases h
/-- two ints off the stack, one on it -/
theorem k_bin {o : rOut} {f : Int32 → Int32 → Int32} {n : Nat} (a : rAt D cl ct A H0 al0 nL ws H locs ls st L S M) (h : rBin S f (pc + n) L M = some o)
    (hrow : ∀ (x y : Int32) (t : List Value), W p l e R s m args below meth c H locs cells slots Q (F0 m (pc + n) ls (.int (f x y) :: t)) → W p l e R s m args below meth c H locs cells slots Q (F0 m pc ls (.int y :: .int x :: t)))
    (kk : ∀ z r, o = .inl (pc + n, L, .inl z :: r, M, 0, 0) → rTo D cl ct A H0 al0 nL p l e R s m args below meth c cells slots Q (pc + n) L (.inl z :: r) M) : W p l e R s m args below meth c H locs cells slots Q (F0 m pc ls st) := by
  unfold rBin at h
  split at h
  · next y x r =>
    obtain ⟨lv, h1, h2, h3, h4⟩ := a
    obtain ⟨t1, rfl, g3⟩ := rRS_int h3
    obtain ⟨t, rfl, h5⟩ := rRS_int g3
    exact hrow x y t (kk _ r (Option.some.inj h).symm ws H locs ls _ ⟨lv, h1, h2, rRS_mk rfl h5, h4⟩)
  · cases h
theorem k_bin0 {o : rOut} {f : Int32 → Int32 → Int32} {n : Nat} (a : rAt D cl ct A H0 al0 nL ws H locs ls st L S M) (h : rBin0 S f (pc + n) L M = some o)
    (hrow : ∀ (x y : Int32) (t : List Value), ¬ y = 0 → W p l e R s m args below meth c H locs cells slots Q (F0 m (pc + n) ls (.int (f x y) :: t)) → W p l e R s m args below meth c H locs cells slots Q (F0 m pc ls (.int y :: .int x :: t)))
    (kk : ∀ z r, o = .inl (pc + n, L, .inl z :: r, M, 0, 0) → rTo D cl ct A H0 al0 nL p l e R s m args below meth c cells slots Q (pc + n) L (.inl z :: r) M) : W p l e R s m args below meth c H locs cells slots Q (F0 m pc ls st) := by
  unfold rBin0 at h
  split at h
  · next y x r =>
    split at h
    · cases h
    · next hy =>
      obtain ⟨lv, h1, h2, h3, h4⟩ := a
      obtain ⟨t1, rfl, g3⟩ := rRS_int h3
      obtain ⟨t, rfl, h5⟩ := rRS_int g3
      exact hrow x y t hy (kk _ r (Option.some.inj h).symm ws H locs ls _ ⟨lv, h1, h2, rRS_mk rfl h5, h4⟩)
  · cases h
theorem k_binL {o : rOut} {f : Int64 → Int64 → Int64} {n : Nat} (a : rAt D cl ct A H0 al0 nL ws H locs ls st L S M) (h : rBinL S f (pc + n) L M = some o)
    (hrow : ∀ (x y : Int64) (t : List Value), W p l e R s m args below meth c H locs cells slots Q (F0 m (pc + n) ls (.long (f x y) :: t)) → W p l e R s m args below meth c H locs cells slots Q (F0 m pc ls (.long y :: .long x :: t)))
    (kk : ∀ z r, o = .inl (pc + n, L, .inr (.inl z) :: r, M, 0, 0) → rTo D cl ct A H0 al0 nL p l e R s m args below meth c cells slots Q (pc + n) L (.inr (.inl z) :: r) M) : W p l e R s m args below meth c H locs cells slots Q (F0 m pc ls st) := by
  unfold rBinL at h
  split at h
  · next y x r =>
    obtain ⟨lv, h1, h2, h3, h4⟩ := a
    obtain ⟨t1, rfl, g3⟩ := rRS_long h3
    obtain ⟨t, rfl, h5⟩ := rRS_long g3
    exact hrow x y t (kk _ r (Option.some.inj h).symm ws H locs ls _ ⟨lv, h1, h2, rRS_mk rfl h5, h4⟩)
  · cases h
theorem k_binL0 {o : rOut} {f : Int64 → Int64 → Int64} {n : Nat} (a : rAt D cl ct A H0 al0 nL ws H locs ls st L S M) (h : rBinL0 S f (pc + n) L M = some o)
    (hrow : ∀ (x y : Int64) (t : List Value), ¬ y = 0 → W p l e R s m args below meth c H locs cells slots Q (F0 m (pc + n) ls (.long (f x y) :: t)) → W p l e R s m args below meth c H locs cells slots Q (F0 m pc ls (.long y :: .long x :: t)))
    (kk : ∀ z r, o = .inl (pc + n, L, .inr (.inl z) :: r, M, 0, 0) → rTo D cl ct A H0 al0 nL p l e R s m args below meth c cells slots Q (pc + n) L (.inr (.inl z) :: r) M) : W p l e R s m args below meth c H locs cells slots Q (F0 m pc ls st) := by
  unfold rBinL0 at h
  split at h
  · next y x r =>
    split at h
    · cases h
    · next hy =>
      obtain ⟨lv, h1, h2, h3, h4⟩ := a
      obtain ⟨t1, rfl, g3⟩ := rRS_long h3
      obtain ⟨t, rfl, h5⟩ := rRS_long g3
      exact hrow x y t hy (kk _ r (Option.some.inj h).symm ws H locs ls _ ⟨lv, h1, h2, rRS_mk rfl h5, h4⟩)
  · cases h
theorem k_jump {o : rOut} {off : Int} (a : rAt D cl ct A H0 al0 nL ws H locs ls st L S M) {r : List rv} {t : List Value} (hr : rRS (rAd ws) r t) (h : rJump pc off L r M = some o)
    (hrow : ∀ tgt : Nat, (pc : Int) + off = (tgt : Int) → W p l e R s m args below meth c H locs cells slots Q (F0 m tgt ls t) → W p l e R s m args below meth c H locs cells slots Q (F0 m pc ls st))
    (kk : ∀ tgt, o = .inl (tgt, L, r, M, 0, 0) → rTo D cl ct A H0 al0 nL p l e R s m args below meth c cells slots Q tgt L r M) : W p l e R s m args below meth c H locs cells slots Q (F0 m pc ls st) := by
  unfold rJump at h
  split at h
  · next tgt ht =>
    obtain ⟨lv, h1, h2, h3, h4⟩ := a
    exact hrow tgt (rTg_eq ht) (kk tgt (Option.some.inj h).symm ws H locs ls t ⟨lv, h1, h2, hr, h4⟩)
  · cases h
theorem k_if {o : rOut} {off : Int} {b : Bool} {P : Prop} (hb : b = true ↔ P) (a : rAt D cl ct A H0 al0 nL ws H locs ls st L S M) {r : List rv} {t : List Value} (hr : rRS (rAd ws) r t) (h : rIf b pc off L r M = some o)
    (hrow : ∀ tgt : Nat, (pc : Int) + off = (tgt : Int) → (P → W p l e R s m args below meth c H locs cells slots Q (F0 m tgt ls t)) → (¬ P → W p l e R s m args below meth c H locs cells slots Q (F0 m (pc + 3) ls t)) → W p l e R s m args below meth c H locs cells slots Q (F0 m pc ls st))
    (kk : ∀ tgt, o = .inl (tgt, L, r, M, 0, 0) → rTo D cl ct A H0 al0 nL p l e R s m args below meth c cells slots Q tgt L r M) : W p l e R s m args below meth c H locs cells slots Q (F0 m pc ls st) := by
  unfold rIf at h
  split at h
  · next tgt ht =>
    obtain ⟨lv, h1, h2, h3, h4⟩ := a
    have hkk := kk _ (Option.some.inj h).symm ws H locs ls t ⟨lv, h1, h2, hr, h4⟩
    refine hrow tgt (rTg_eq ht) (fun q => ?_) (fun q => ?_)
    · rw [if_pos (hb.mpr q)] at hkk
      exact hkk
    · rw [if_neg (fun z => q (hb.mp z))] at hkk
      exact hkk
  · cases h
end RST
