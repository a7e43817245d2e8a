/-! THE LAW, OVER THE RECKONER. Its head and its end are the skeleton's -/
/-! THE CLAIM OUT OF ONE WALK OF THE LAW'S BODY. Your part is whole_start (and what it stands on); all else here is the same for every law, but numbers. -/
def R_law : String := "GoalsInAQueueLaw"
def lw_P (b : Addr) (xs : List Int32) (args : Array Value) (s : State) : Prop := args = #[.ref b] ∧ s.IntsAt b xs ∧ xs.length ≤ 2048 ∧ (Jvm.Cond.and given_1 narrow_1).before args s = true
def lw_Q (_ : Array Value) (s : State) (o : Outcome) (t : State) : Prop := o = .returned (some (.int 1)) ∧ Framed s o t [] 600000 7302250
def lw_Z (below : List Frame) (a : Array Value) (s : State) : State → Prop := fun t => ∃ o, t.status = .running ∧ Ended t below o ∧ lw_Q a s o t
/-- the law's own end, with 1 on the stack, nothing written that was there before, its room as the claim has it -/
theorem lw_ret {p : Program} {l : Launch} {e : Env} {s : State} {m : MethodId} {below : List Frame} {meth : Method} {c : Code} {b : Nat} (hx : p.tables.exec = Jvm.exec) (hb : c.code = code) (hr : meth.sig.returnType = ret) (hlocks : meth.locks = false) {pc : Nat} {H : Heap} {ls : Array Slot} (hdg : decode code pc = .ok (.ireturn, 1)) : W p l e room_1 s m #[Value.ref b] below meth c H [] 600000 7302250 (lw_Z below #[Value.ref b] s) (F0 m pc ls [.int 1]) := by
  intro T hT X
  obtain ⟨fs, hret, hrun, hended, hW, hframe⟩ := X.leave (v := some (.int 1)) (hlocks := hlocks) (fun h => by rw [hr] at h; cases h)
  have hmeth' : T.vm.method? m = some meth := X.method'
  refine ⟨T.setFrames fs, ?_, .returned (some (.int 1)), hrun, hended, rfl, ⟨_, rfl⟩, hW, hframe⟩
  jvm_step X.here [X.here.top, hx, hb, hdg, hmeth', hr, ret, narrow_b1]
  (try refine ⟨rfl, ?_⟩); (try refine ⟨rfl, ?_⟩)
  first | (intro acts; rw [hret _ acts rfl rfl rfl]) | rw [hret _ _ rfl rfl rfl]
  exact Steps.refl _
/-- what holds at the law's entry: the machine, the code, the tables' words (any of lw_tbl by 'hts w (by decide +kernel)'), the script of L ints xs at the cell b, what the Statement gives of the start (any of its parts by flat_of_before) -/
def lw_At (p : Program) (s : State) (m : MethodId) (meth : Method) (c : Code) (b L : Nat) (xs : Nat → Int32) : Prop :=
  p.tables.exec = Jvm.exec ∧ c.code = code ∧ meth.sig.returnType = ret ∧ c.maxLocals = 4 ∧ s.vm.findClass R_law = some m.cls ∧ (∀ w ∈ lw_tbl, w.before #[Value.ref b] s = true) ∧ va_X b L xs s s.heap ∧ b < s.heap.size ∧ meth.locks = false ∧ (Jvm.Cond.and given_1 narrow_1).before #[Value.ref b] s = true
section LWK
variable {p : Program} {l : Launch} {e : Env} {s : State} {m : MethodId} {below : List Frame} {meth : Method} {c : Code} {b L : Nat} {xs : Nat → Int32} {D : va_G} {ct : Nat → ClassId} {H : Heap} {locs : List Loc} {ls : Array Slot} {ws : va_W} {M : List rEnt}
def lwA (s : State) : Nat → Prop := fun q => s.heap.size ≤ q
/-- what is known at the law's entry -/
def lwF (p : Program) (s : State) (m : MethodId) (meth : Method) (c : Code) (b L : Nat) (xs : Nat → Int32) (D : va_G) (ct : Nat → ClassId) : Prop := p.tables.exec = Jvm.exec ∧ c.code = code ∧ meth.sig.returnType = ret ∧ c.maxLocals = 4 ∧ s.vm.findClass "GoalsInAQueueLaw" = some m.cls ∧ (∀ w ∈ rT, w.before #[Value.ref b] s = true) ∧ va_X b L xs s s.heap ∧ b < s.heap.size ∧ meth.locks = false ∧ va_K D rCl (rTy ct) s ∧ (∀ w ∈ rNw, va_Nw w s) ∧ va_AO sC s ∧ va_AOA .int s
/-- the memory lies in the heap -/
def lwM (D : va_G) (ct : Nat → ClassId) (s : State) (M : List rEnt) (ws : va_W) (H : Heap) (locs : List Loc) : Prop := rRM ct M ws ∧ va_P D rCl ws H ∧ va_D (lwA s) ws ∧ va_S (lwA s) s.heap H locs
abbrev lwL (ls : Array Slot) (b ax am : Nat) (i : Int32) : Prop := lv_has ls 4 [(0, .ref b), (1, .ref ax), (2, .ref am), (3, .int i)]
abbrev lwW (p : Program) (l : Launch) (e : Env) (s : State) (m : MethodId) (below : List Frame) (meth : Method) (c : Code) (b : Nat) (H : Heap) (locs : List Loc) (pc : Nat) (ls : Array Slot) (st : List Value) : Prop := W p l e room_1 s m #[Value.ref b] below meth c H locs 600000 7302250 (lw_Z below #[Value.ref b] s) (F0 m pc ls st)
theorem lwRoom : room_1.frames = 20 ∧ room_1.cells = 600000 ∧ room_1.slots = 7302250 ∧ room_1.locals = 814 := ⟨rfl, rfl, rfl, rfl⟩
theorem lw_arg (F : lwF p s m meth c b L xs D ct) (hM : lwM D ct s M ws H locs) {ax am : Nat} {t : Nat} (hl : lwL ls b ax am (nI t)) (hL : L < 2 ^ 31) {pc j : Nat} {jn : Int} (hj : Int32.ofInt jn = nI j) (ht : t + j < L) {st : List Value}
    (d0 : decode code pc = .ok (.aload_n 0, 1)) (d1 : decode code (pc + 1) = .ok (.iload_n 3, 1)) (d2 : decode code (pc + 1 + 1) = .ok (.iconst jn, 1)) (d3 : decode code (pc + 1 + 1 + 1) = .ok (.iadd, 1)) (d4 : decode code (pc + 1 + 1 + 1 + 1) = .ok (.iaload, 1))
    (kk : lwW p l e s m below meth c b H locs (pc + 1 + 1 + 1 + 1 + 1) ls (.int (xs (t + j)) :: st)) : lwW p l e s m below meth c b H locs pc ls st := by
  obtain ⟨hx, hb, hr, hml, hown, hts, hX, hbl, hlk, hK, hnw, hAO, hAOA⟩ := F
  obtain ⟨h1, h2, h3, h4⟩ := hM
  refine lv_aload_n hx hb d0 rfl (lv_at hl 0 rfl) ?_
  refine lv_iload_n hx hb d1 rfl (lv_at hl 3 rfl) ?_
  refine lv_iconst hx hb d2 hj ?_
  refine lv_iadd hx hb d3 ?_
  have e1 : nI t + nI j = nI (t + j) := nI_add t j
  rw [e1]
  refine va_sld hx hb hX hbl (Nat.not_le.mpr hbl) h4 (vp_in_nI ht hL) d4 ?_
  rw [nI_clamp (by omega)]
  exact kk
theorem lw_callV (F : lwF p s m meth c b L xs D ct) (hM : lwM D ct s M ws H locs) (hls : ls.size = 4) {N d y own idx k nL kx ax : Nat} {nm : MethodName} {cc : ByteArray} {rt : Option FieldType} (hG : rG.1 y = some (own, nm, cc, nL, rt, k, false)) {as fs : List rv} {av rest : List Value} {v : rv} {M2 : List rEnt}
    (hrun : rRun rG N d y (.inr (.inr (some kx)) :: as) M = some (some v, M2, 0, 0)) (hd18 : d ≤ 18) (hobj : M[kx]? = some (.inr (.inr (own, fs)))) (hax : (rAd ws)[kx]? = some ax) (hav : rRS (rAd ws) as av) (hlink : Cond.methodLink "GoalsInAQueueLaw" idx nm ∈ rT) (hsel : Cond.selects nm.cls nm nm ∈ rT) (hsum : (rest.map fun v => v.category).sum ≤ 8) {pc : Nat} (hd : decode code pc = .ok (.invokevirtual idx, 3)) {st : List Value} (hst : st = av.reverse ++ .ref ax :: rest)
    (kk : ∀ (w : Value) (ws2 : va_W) (H2 : Heap) (locs2 : List Loc), rvV (rAd ws2) v = some w → lwM D ct s M2 ws2 H2 locs2 → rAd ws <+: rAd ws2 → lwW p l e s m below meth c b H2 locs2 (pc + 3) ls (w :: rest)) : lwW p l e s m below meth c b H locs pc ls st := by
  obtain ⟨hx, hb, hr, hml, hown, hts, hX, hbl, hlk, hK, hnw, hAO, hAOA⟩ := F
  obtain ⟨h1, h2, h3, h4⟩ := hM
  obtain ⟨m1, m2, m3, m4, m5, m6, m7, m8, -⟩ := rOKm_ok _ _ _ _ _ _ _ _ hG
  obtain ⟨m9, m10, qc, hqc, hqn⟩ := m8 rfl
  have hNW := rOK_ok.2.2.2.2.2.2.2.2
  have hMet := rMet rOK_ok l D ct N d y _ M _ M2 0 0 hrun _ _ _ _ _ _ _ hG ws H.size (.ref ax :: av) h1 (rRS_mk (rvV_mk hax) hav)
  obtain ⟨q, hq, fv, rfl, -⟩ := rRM_at h1 hax hobj
  have hrv := va_recv hK h2 hqc hq
  rw [hqn, ← m4] at hrv
  have hlen : av.length = k - 1 := by
    cases d with
    | zero => cases hrun
    | succ d =>
      simp only [rRun, hG] at hrun
      split at hrun
      · next hk => simp only [List.length_cons] at hk; rw [rRS_len hav]; omega
      · cases hrun
  have hpar : (parseMethodDescriptor nm.desc).map (fun d => d.parameters.length) = some (k - 1) := by
    cases hpd : parseMethodDescriptor nm.desc with
    | none => rw [hpd] at m10; cases m10
    | some q => rw [hpd] at m10; simp at m10 ⊢; omega
  have hgood : GoodIn rT (Cond.code nm cc nL rt :: rT) := by
    intro w hw
    have hg := rOK_ok.2.2.2.2.2.2.2.1
    rcases List.mem_cons.mp hw with rfl | hw
    · exact ⟨m1, good_of_word (hg _ m1)⟩
    · exact ⟨hw, good_of_word (hg _ hw)⟩
  have hfree : ∀ q, va_A ws H.size q → lwA s q := fun q hq => by
    rcases hq with ⟨k, x, hk⟩ | hq
    · exact h3.2 k (q, x) hk
    · exact Nat.le_trans h4.1 hq
  subst hst
  refine rCallW (va_runV (As := av) (rest := rest) (b := ax) (C := nm.cls) ⟨hx, hb, hml, hown, hts⟩ hMet ⟨callB_of (k - 1) hts hgood rfl rfl rfl (hts _ m2) (hts _ hlink) ⟨m5, m6, hpar⟩ ⟨by rw [lwRoom.1]; show d + 1 ≤ 20; omega, by rw [lwRoom.2.2.2]; show 8 + (nL + 11) + 40 * d ≤ 814; omega⟩, hts _ m9, hts _ hsel⟩ ⟨rBlind hNW, hrv, fun U hU hW => ⟨rfl, by rw [hU], by rw [hU]; exact h2, va_K.moved hW.alike hK, h3.weaken (fun _ _ _ _ => trivial), rNw_ok hNW hW hnw, va_AO.moved hW.alike hAO, va_AOA.moved hW.alike hAOA⟩⟩ rfl hlen hls rfl (lv_room hsum) hd ⟨by rw [lwRoom.2.1]; exact Nat.le_refl _, by rw [lwRoom.2.2.1]; exact Nat.le_refl _⟩) h4 (fun q _ hq => hfree q hq) hfree ?_
  intro v2 ws2 H1 locs1 e1 e2 e3 e4 e5 e6
  cases v2 with
  | none => cases e1
  | some w => exact kk w ws2 H1 locs1 (Option.some.inj e1) ⟨e2, e3, e4.weaken (fun k q _ hq => hfree q.1 hq), e6⟩ e5
end LWK
/-- the two objects' cells -/
def lwIx (M : List rEnt) (kx km : Nat) : Prop := (∃ fx, M[kx]? = some (.inr (.inr (8, fx)))) ∧ ∃ fm, M[km]? = some (.inr (.inr (9, fm)))
/-- the calls: the number of the class's method, of the reference's, how many ints -/
def lwOps : List (Nat × Nat × Nat) := [(71, 126, 1), (73, 129, 0), (75, 161, 1), (79, 162, 0), (80, 163, 2), (83, 172, 3), (84, 173, 1), (85, 174, 1), (86, 175, 1), (87, 176, 0), (88, 177, 1), (92, 180, 2), (93, 181, 2), (95, 182, 1), (96, 185, 2), (98, 189, 1), (99, 190, 1), (100, 191, 1), (102, 194, 1), (104, 197, 1), (105, 198, 1), (106, 199, 0), (107, 200, 3), (110, 135, 0), (111, 136, 0), (112, 206, 1)]
/-- one call of both, with the same answer -/
def lwGo (kx km : Nat) (yx ym : Nat) (as : List rv) (M M2 : List rEnt) : Prop := ∃ (N d : Nat) (r : Int32) (M1 : List rEnt), d ≤ 18 ∧ rRun rG N d yx (.inr (.inr (some kx)) :: as) M = some (some (.inl r), M1, 0, 0) ∧ rRun rG N d ym (.inr (.inr (some km)) :: as) M1 = some (some (.inl r), M2, 0, 0) ∧ lwIx M kx km ∧ lwIx M1 kx km
def lwGoL (kx km : Nat) (yx ym : Nat) (as : List rv) (M M2 : List rEnt) : Prop := ∃ (N d : Nat) (r : Int64) (M1 : List rEnt), d ≤ 18 ∧ rRun rG N d yx (.inr (.inr (some kx)) :: as) M = some (some (.inr (.inl r)), M1, 0, 0) ∧ rRun rG N d ym (.inr (.inr (some km)) :: as) M1 = some (some (.inr (.inl r)), M2, 0, 0) ∧ lwIx M kx km ∧ lwIx M1 kx km
/-- one call of both, whatever they answer -/
def lwGoU (kx km : Nat) (yx ym : Nat) (as : List rv) (M M2 : List rEnt) : Prop := ∃ (N d : Nat) (r r2 : Int32) (M1 : List rEnt), d ≤ 18 ∧ rRun rG N d yx (.inr (.inr (some kx)) :: as) M = some (some (.inl r), M1, 0, 0) ∧ rRun rG N d ym (.inr (.inr (some km)) :: as) M1 = some (some (.inl r2), M2, 0, 0) ∧ lwIx M kx km ∧ lwIx M1 kx km
def lwGoUL (kx km : Nat) (yx ym : Nat) (as : List rv) (M M2 : List rEnt) : Prop := ∃ (N d : Nat) (r r2 : Int64) (M1 : List rEnt), d ≤ 18 ∧ rRun rG N d yx (.inr (.inr (some kx)) :: as) M = some (some (.inr (.inl r)), M1, 0, 0) ∧ rRun rG N d ym (.inr (.inr (some km)) :: as) M1 = some (some (.inr (.inl r2)), M2, 0, 0) ∧ lwIx M kx km ∧ lwIx M1 kx km
/-- the calls whose answers are compared -/
def lwCmp : List Nat := [12]
/-- every call of both at a memory, and what holds behind it -/
def lwAll (kx km : Nat) (J : List rEnt → Prop) (M : List rEnt) : Prop := ∀ (o yx ym ar : Nat), lwOps[o]? = some (yx, ym, ar) → ∀ a b c : Int32, ∃ M2, (if o ∈ lwCmp then (if o = 17 then lwGoL kx km yx ym (([.inl a, .inl b, .inl c] : List rv).take ar) M M2 else lwGo kx km yx ym (([.inl a, .inl b, .inl c] : List rv).take ar) M M2) else (if o = 17 then lwGoUL kx km yx ym (([.inl a, .inl b, .inl c] : List rv).take ar) M M2 else lwGoU kx km yx ym (([.inl a, .inl b, .inl c] : List rv).take ar) M M2)) ∧ J M2
