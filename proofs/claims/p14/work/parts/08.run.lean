/-! A METHOD'S RETURN, A CALL, A WHOLE METHOD: what the reckoner answers, the machine answers -/
theorem rOver_spec {args : Array Value} {u : State} {t : FieldType} (h : (Cond.arrayOver (.array t)).before args u = true) :
    ∃ comp c k, u.vm.findClass (FieldType.array t).toString = some comp ∧ (u.vm.classes.findIdx? fun (x : Class) => match x.kind with | .array component _ => component == comp | _ => false) = some c ∧ u.vm.classes[c]? = some k ∧ k.kind = .array comp (.array t) ∧ u.vm.findClass ("[" ++ (FieldType.array t).toString) = some c := by
  unfold Cond.before at h
  simp only [Cond.holds, Cond.value, beq_iff_eq] at h
  cases hc : u.vm.findClass (FieldType.array t).toString with
  | none => simp [hc] at h
  | some comp =>
    simp only [hc, Option.bind_some, Option.bind_eq_some_iff, Option.map_eq_some_iff] at h
    obtain ⟨c, hi, k, hk, hb⟩ := h
    obtain ⟨hlt, hp, -⟩ := Array.findIdx?_eq_some_iff_getElem.mp hi
    have hkk : u.vm.classes[c] = k := (Array.getElem?_eq_some_iff.mp hk).2
    rw [hkk] at hp
    cases hkind : k.kind with
    | array component ty =>
      rw [hkind] at hb hp
      simp at hb hp
      exact ⟨comp, c, k, rfl, hi, hk, by rw [hkind, hp, hb.1], hb.2⟩
    | _ => rw [hkind] at hb; simp at hb
theorem va_AOA.moved {t : FieldType} {u U : State} (hvm : u.vm.Alike U.vm) (h : va_AOA t u) : va_AOA t U := by
  obtain ⟨comp, c, k, h1, h2, h3, h4, h5⟩ := rOver_spec h
  obtain ⟨k', hk', he⟩ := hvm.2.2 _ _ h3
  have hi : (U.vm.classes.findIdx? fun (x : Class) => match x.kind with | .array component _ => component == comp | _ => false) = some c := by
    have e1 := va_idx_bare U.vm comp
    have e2 := va_idx_bare u.vm comp
    have e3 : U.vm.bare = u.vm.bare := by first | exact hvm.bare_eq | exact hvm.bare_eq.symm
    rw [e3] at e1
    exact e1.symm.trans (e2.trans h2)
  have hkind : k'.kind = .array comp (.array t) := by rw [he]; exact h4
  have f1 : U.vm.findClass (FieldType.array t).toString = some comp := by rw [hvm.findClass]; exact h1
  have f2 : U.vm.findClass ("[" ++ (FieldType.array t).toString) = some c := by rw [hvm.findClass]; exact h5
  unfold va_AOA Cond.before Cond.holds
  simp only [Cond.value]
  rw [f1, Option.bind_some]
  refine (congrArg (fun o : Option Nat => (o.bind (fun c => (U.vm.classes[c]?).map fun (k : Class) => match k.kind with | .array _ ty => decide (ty = FieldType.array t) && decide (U.vm.findClass ("[" ++ (FieldType.array t).toString) = some c) | _ => false) == some true)) hi).trans ?_
  simp [hk', hkind, f2]
/-- what a method needs of the state at its start, but for its arguments -/
def rPre (nw : List Cond) (D : va_G) (cl : List vw_C) (ct : Nat → ClassId) (ws : va_W) (sz : Nat) (U : State) : Prop := U.heap.size = sz ∧ va_P D cl ws U.heap ∧ va_K D cl (rTy ct) U ∧ va_D (fun _ => True) ws ∧ (∀ w ∈ nw, va_Nw w U) ∧ va_AO sC U ∧ va_AOA .int U
def rQc (D : va_G) (cl : List vw_C) (ct : Nat → ClassId) (A : Nat → Prop) (al0 : List Nat) (r : Option rv) (M' : List rEnt) : Array Value → State → Outcome → State → Prop := fun _ st oc t =>
  (∃ (v : Option Value) (ws : va_W), oc = .returned v ∧ r.map (rvV (rAd ws)) = v.map some ∧ rRM ct M' ws ∧ va_P D cl ws t.heap ∧ va_D A ws ∧ al0 <+: rAd ws) ∧ va_F A st t
theorem rNw_ok {nw : List Cond} (hn : ∀ w ∈ nw, (∃ a i b n d h, w = Cond.fieldLinkNest a i b n d h) ∨ ∃ a i x h, w = Cond.methodLinkNest a i x h) {s U : State} (hW : s.WarmedH U.vm) (h : ∀ w ∈ nw, va_Nw w s) : ∀ w ∈ nw, va_Nw w U := by
  intro w hw
  have h1 := h w hw
  rcases hn w hw with ⟨a, i, b, n, d, g, rfl⟩ | ⟨a, i, x, g, rfl⟩
  · exact va_Nw.warmF hW h1
  · exact va_Nw.warmM hW h1
theorem rNw_same {nw : List Cond} (hn : ∀ w ∈ nw, (∃ a i b n d h, w = Cond.fieldLinkNest a i b n d h) ∨ ∃ a i x h, w = Cond.methodLinkNest a i x h) {s U : State} (hW : s.vm = U.vm) (h : ∀ w ∈ nw, va_Nw w s) : ∀ w ∈ nw, va_Nw w U := by
  intro w hw
  have h1 := h w hw
  rcases hn w hw with ⟨a, i, b, n, d, g, rfl⟩ | ⟨a, i, x, g, rfl⟩
  · exact va_Nw.same rfl hW h1
  · exact va_Nw.same rfl hW h1
theorem rBlind {nw : List Cond} (hn : ∀ w ∈ nw, (∃ a i b n d h, w = Cond.fieldLinkNest a i b n d h) ∨ ∃ a i x h, w = Cond.methodLinkNest a i x h) {D : va_G} {cl : List vw_C} {ct : Nat → ClassId} {ws : va_W} {sz : Nat} {av : List Value} : FrameBlind (va_Pc av (rPre nw D cl ct ws sz)) := by
  intro a U g mk q
  obtain ⟨q0, q1, q2, q3, q4, q5, q6, q7⟩ := q
  exact ⟨q0, q1, q2, va_K.moved (u := U) (U := U.calling g mk a) (Vm.Alike.refl U.vm) q3, q4, rNw_same hn (s := U) (U := U.calling g mk a) rfl q5, va_AO.moved (U := U.calling g mk a) (Vm.Alike.refl U.vm) q6, va_AOA.moved (U := U.calling g mk a) (Vm.Alike.refl U.vm) q7⟩
set_option maxHeartbeats 8000000 in
set_option maxRecDepth 100000 in
theorem rNoCall {G : rTab} {own nL pc : Nat} {ret : Option FieldType} {ini : Bool} {L : List (Nat × rv)} {S : List rv} {M : List rEnt} {ins : Instr} {q : Nat × List rv × List rv} (n1 : ∀ i, ins ≠ .invokespecial i) (n2 : ∀ i, ins ≠ .invokevirtual i) (n3 : ∀ i, ins ≠ .invokestatic i) (h : rIns G own nL ret ini pc L S M ins = some (.inr (.inr q))) : False := by
  cases ins with
  | invokespecial i => exact n1 i rfl
  | invokevirtual i => exact n2 i rfl
  | invokestatic i => exact n3 i rfl
  | newarray t => cases t <;> (simp only [rIns] at h <;> (repeat' split at h) <;> cases h)
  | multianewarray i d =>
    unfold rIns at h
    split at h
    all_goals first | contradiction | skip
    all_goals (repeat' split at h)
    all_goals first | contradiction | cases h | skip
  | _ => (simp only [rIns, rNx, rLoadI, rLoadL, rLoadA, rStoreI, rStoreL, rStoreA, rBin, rBin0, rBinL, rBinL0, rIf, rJump] at h <;> (repeat' split at h) <;> first | cases h | contradiction)
section RCL
variable {G : rTab} {cn : Nat → String} {Ts nw : List Cond} {p : Program} {l : Launch} {e : Env} {R : Room} {s : State} {m : MethodId} {args : Array Value} {below : List Frame} {meth : Method} {c : Code} {H : Heap} {locs : List Loc} {cells slots : Nat} {Q : State → Prop}
variable {cc : ByteArray} {pc : Nat} {ls : Array Slot} {st : List Value} {D : va_G} {cl : List vw_C} {ct : Nat → ClassId} {A : Nat → Prop} {H0 : Heap} {al0 : List Nat} {own nL : Nat} {ret : Option FieldType} {ini : Bool} {ws : va_W} {L : List (Nat × rv)} {S : List rv} {M : List rEnt}
theorem rCallW {mc ms : Nat} {rest st0 : List Value} {a : Array Value} {A0 A1 : Nat → Prop} {free : Addr → Prop} {al : List Nat} {r : Option rv} {M2 : List rEnt} (hr : va_Run p l e R s m args below meth c H locs cells slots mc ms (F0 m pc ls st0) rest (rQc D cl ct A1 al r M2 a) free) (hS : va_S A0 H0 H locs) (hA : ∀ q, q < H.size → A1 q → A0 q) (hf : ∀ q, free q → A0 q)
    (kk : ∀ (v : Option Value) (ws : va_W) (H1 : Heap) (locs1 : List Loc), r.map (rvV (rAd ws)) = v.map some → rRM ct M2 ws → va_P D cl ws H1 → va_D A1 ws → al <+: rAd ws → va_S A0 H0 H1 locs1 → W p l e R s m args below meth c H1 locs1 (cells + mc) (slots + ms) Q (F0 m (pc + 3) ls (v.toList ++ rest))) : W p l e R s m args below meth c H locs cells slots Q (F0 m pc ls st0) := by
  intro T hT X
  obtain ⟨v, st₀, t, T', L, h0, X', hL, e1, e2, ⟨⟨v2, ws, hv, hr2, hM2, hP2, hD2, hal⟩, hz, hk⟩, st⟩ := hr T hT X
  cases hv
  rw [h0] at hz hk
  obtain ⟨t2, a1, b1⟩ := kk v ws T'.heap (locs ++ L) hr2 hM2 (by rw [e1]; exact hP2) hD2 hal
    ⟨Nat.le_trans hS.1 (by rw [e1]; exact hz), fun q h1 h2 => by rw [e1, hk q (Nat.lt_of_lt_of_le h1 hS.1) (fun z => h2 (hA q (Nat.lt_of_lt_of_le h1 hS.1) z))]; exact hS.2.1 q h1 h2, fun q hq => by
      rcases List.mem_append.mp hq with h | h
      · exact hS.2.2 q h
      · exact hf _ (hL q h)⟩ T' rfl X'
  exact ⟨t2, st t2 a1, b1⟩
/-- the contract of a method at a memory, by what the reckoner answers -/
def rMetS (l : Launch) (Ts nw : List Cond) (D : va_G) (cl : List vw_C) (ct : Nat → ClassId) (d : Nat) (nm : MethodName) (cc : ByteArray) (nL : Nat) (ret : Option FieldType) (as : List rv) (M : List rEnt) (r : Option rv) (M' : List rEnt) (uc uz : Nat) : Prop :=
  ∀ (ws : va_W) (sz : Nat) (av : List Value), rRM ct M ws → rRS (rAd ws) as av → Met l nm (.code nm cc nL ret :: Ts) ({ frames := d, cells := uc, slots := uz, locals := 40 * d } : Room) (va_Pc av (rPre nw D cl ct ws sz)) (rQc D cl ct (va_A ws sz) (rAd ws) r M') uc uz (va_A ws sz)
theorem rGood {cl : List vw_C} (O : rOK G cn Ts nw cl) {nm nm2 : MethodName} {cc cc2 : ByteArray} {nL nL2 : Nat} {ret ret2 : Option FieldType} (hc : Cond.code nm2 cc2 nL2 ret2 ∈ Ts) : GoodIn (Cond.code nm cc nL ret :: Ts) (Cond.code nm2 cc2 nL2 ret2 :: Ts) := by
  intro w hw
  have hg := O.2.2.2.2.2.2.2.1
  rcases List.mem_cons.mp hw with rfl | hw
  · exact ⟨List.mem_cons_of_mem _ hc, good_of_word (hg _ hc)⟩
  · exact ⟨List.mem_cons_of_mem _ hw, good_of_word (hg _ hw)⟩
theorem rTake_eq {n : Nat} {S as r : List rv} (h : rTake n S = some (as, r)) : S = as.reverse ++ r ∧ as.length = n := by
  unfold rTake at h
  split at h
  · next hn =>
    cases h
    exact ⟨by rw [List.reverse_reverse, List.take_append_drop], by simp; omega⟩
  · cases h
theorem rRS_split {al : List Nat} {S T : List rv} {st : List Value} (h : rRS al (S ++ T) st) : ∃ s t, st = s ++ t ∧ rRS al S s ∧ rRS al T t := by
  refine ⟨st.take S.length, st.drop S.length, (List.take_append_drop _ _).symm, ?_, ?_⟩
  · have := rRS_take h S.length
    rwa [List.take_left] at this
  · have := rRS_drop h S.length
    rwa [List.drop_left] at this
theorem rToList {ws : va_W} {r : Option rv} {v : Option Value} (h : r.map (rvV (rAd ws)) = v.map some) : rRS (rAd ws) r.toList v.toList := by
  cases r with
  | none => cases v with
    | none => rfl
    | some w => cases h
  | some x => cases v with
    | none => cases h
    | some w => exact rRS_mk (Option.some.inj h) rRS_0
theorem rRecv_ok {y own n : Nat} {nm : MethodName} {cc2 : ByteArray} {nL2 : Nat} {ret2 : Option FieldType} {stt : Bool} (hG : G.1 y = some (own, nm, cc2, nL2, ret2, n, stt)) {as r : List rv} (hl : as.length = n) (h : rRecv G y (as.reverse ++ r) M = true) : ∃ (k : Nat) (as2 : List rv) (fs : List rv), as = .inr (.inr (some k)) :: as2 ∧ M[k]? = some (.inr (.inr (own, fs))) := by
  unfold rRecv at h
  rw [hG] at h
  simp only at h
  split at h
  · next k hk =>
    split at h
    · next ci fs hM =>
      simp only [Bool.and_eq_true, decide_eq_true_eq] at h
      obtain ⟨rfl, hpos⟩ := h
      cases as with
      | nil => simp only [List.length_nil] at hl; omega
      | cons a0 as =>
        have e1 : ((a0 :: as).reverse ++ r)[n - 1]? = some a0 := by
          rw [List.getElem?_append_left (by rw [List.length_reverse, hl]; omega), List.getElem?_reverse (by rw [hl]; omega), hl]
          rw [show n - 1 - (n - 1) = 0 by omega]
          rfl
        rw [e1] at hk
        cases hk
        exact ⟨k, as, fs, rfl, hM⟩
    · cases h
  · cases h
set_option maxHeartbeats 4000000 in
/-- a call, over the callee's contract -/
theorem rCall (O : rOK G cn Ts nw cl) {nm0 : MethodName} (F : rFx cn (.code nm0 cc nL ret :: Ts) nw D cl ct p R s m args meth c own nL cc ret ini A H0) {ins : Instr} {n y : Nat} {as r : List rv} (hd : decode cc pc = .ok (ins, n)) (hn : rLen ins = none ∨ rLen ins = some n) (a : rAt D cl ct A H0 al0 nL ws H locs ls st L S M)
    (h : rIns G own nL ret ini pc L S M ins = some (.inr (.inr (y, as, r)))) {d : Nat} (hfr : d + 1 ≤ R.frames) (hlo : 40 * (d + 1) ≤ R.locals) {v : Option rv} {M2 : List rEnt} {uc uz : Nat} (hc : cells + uc ≤ R.cells) (hz : slots + uz ≤ R.slots)
    (hcallee : ∀ (o2 : Nat) (nm : MethodName) (cc2 : ByteArray) (nL2 : Nat) (ret2 : Option FieldType) (k : Nat) (stt : Bool), G.1 y = some (o2, nm, cc2, nL2, ret2, k, stt) → rMetS l Ts nw D cl ct d nm cc2 nL2 ret2 as M v M2 uc uz)
    (kk : rTo D cl ct A H0 al0 nL p l e R s m args below meth c (cells + uc) (slots + uz) Q (pc + 3) L (v.toList ++ r) M2) : W p l e R s m args below meth c H locs cells slots Q (F0 m pc ls st) := by
  obtain ⟨hx, hb, hml, hown, hts, hK, hnw, hAO, hAOA, hrt, hlk, hini, hA, -, -⟩ := F
  have hNW := O.2.2.2.2.2.2.2.2
  have hts2 : ∀ w ∈ Ts, w.before args s = true := fun w hw => hts w (List.mem_cons_of_mem _ hw)
  have callOf : ∀ {y2 : Nat}, rCallOf G y2 S = some (.inr (.inr (y, as, r))) → y2 = y ∧ rSum r ≤ 8 ∧ ∃ (o2 : Nat) (nm : MethodName) (cc2 : ByteArray) (nL2 : Nat) (ret2 : Option FieldType) (k : Nat) (stt : Bool), G.1 y = some (o2, nm, cc2, nL2, ret2, k, stt) ∧ S = as.reverse ++ r ∧ as.length = k := by
    intro y2 ho
    unfold rCallOf at ho
    split at ho
    · next o2 nm cc2 nL2 ret2 k stt hG =>
      split at ho
      · next as2 r2 ht =>
        split at ho
        · next hs =>
          simp only [Option.some.injEq, Sum.inr.injEq, Prod.mk.injEq] at ho
          obtain ⟨rfl, rfl, rfl⟩ := ho
          exact ⟨rfl, hs, o2, nm, cc2, nL2, ret2, k, stt, hG, rTake_eq ht⟩
        · cases ho
      · cases ho
    · cases ho
  obtain ⟨lv, h1, h2, h3, h4, h5, h6, h7, h8⟩ := a
  have hfree : ∀ q, va_A ws H.size q → A q := fun q hq => by
    rcases hq with ⟨k, x, hk⟩ | hq
    · exact h6.2 k (q, x) hk
    · exact hA q (Nat.le_trans h7.1 hq)
  have pre : ∀ U : State, U.heap = H → s.WarmedH U.vm → rPre nw D cl ct ws H.size U := fun U hU hW => ⟨by rw [hU], by rw [hU]; exact h5, va_K.moved hW.alike hK, h6.weaken (fun _ _ _ _ => trivial), rNw_ok hNW hW hnw, va_AO.moved hW.alike hAO, va_AOA.moved hW.alike hAOA⟩
  have back : ∀ {rest : List Value}, rRS (rAd ws) r rest → ∀ (v2 : Option Value) (ws2 : va_W) (H1 : Heap) (locs1 : List Loc), v.map (rvV (rAd ws2)) = v2.map some → rRM ct M2 ws2 → va_P D cl ws2 H1 → va_D (va_A ws H.size) ws2 → rAd ws <+: rAd ws2 → va_S A H0 H1 locs1 → W p l e R s m args below meth c H1 locs1 (cells + uc) (slots + uz) Q (F0 m (pc + 3) ls (v2.toList ++ rest)) := by
    intro rest hrest v2 ws2 H1 locs1 e1 e2 e3 e4 e5 e6
    exact kk ws2 H1 locs1 ls _ ⟨lv, h1, rRL_pre e5 h2, rRS_app (rToList e1) (rRS_pre e5 hrest), e2, e3, e4.weaken (fun k q _ hq => hfree q.1 hq), e6, h8.trans e5⟩
  have room : ∀ {nL2 : Nat}, nL2 ≤ 21 → d + 1 ≤ R.frames ∧ 8 + (nL2 + 11) + 40 * d ≤ R.locals := fun h9 => ⟨hfr, by omega⟩
  have split2 : S = as.reverse ++ r → ∃ sa sr, st = sa ++ sr ∧ rRS (rAd ws) as sa.reverse ∧ rRS (rAd ws) r sr := by
    intro hS
    subst hS
    obtain ⟨sa, sr, rfl, ha, hrr⟩ := rRS_split h3
    exact ⟨sa, sr, rfl, by have := rRS_rev ha; rwa [List.reverse_reverse] at this, hrr⟩
  have virt : ∀ {o2 k : Nat} {nm : MethodName} {cc2 : ByteArray} {nL2 : Nat} {ret2 : Option FieldType}, G.1 y = some (o2, nm, cc2, nL2, ret2, k, false) → S = as.reverse ++ r → as.length = k → rRecv G y S M = true →
      ∃ (ad k0 : Nat) (fv wa sr : List Value), ws[k0]? = some (ad, .inr (o2, fv)) ∧ st = wa.reverse ++ .ref ad :: sr ∧ wa.length = k - 1 ∧ rRS (rAd ws) r sr ∧ (parseMethodDescriptor nm.desc).map (fun d => d.parameters.length) = some (k - 1) ∧ Met l nm (.code nm cc2 nL2 ret2 :: Ts) ({ frames := d, cells := uc, slots := uz, locals := 40 * d } : Room) (va_Pc (.ref ad :: wa) (rPre nw D cl ct ws H.size)) (rQc D cl ct (va_A ws H.size) (rAd ws) v M2) uc uz (va_A ws H.size) := by
    intro o2 k nm cc2 nL2 ret2 hG hS hl hrec
    obtain ⟨sa, sr, rfl, ha2, hrr⟩ := split2 hS
    rw [hS] at hrec
    obtain ⟨k0, as2, fs, hasx, hMk⟩ := rRecv_ok hG hl hrec
    subst hasx
    obtain ⟨w0, wa, hsa, hw0, hwa⟩ := rRS_cons ha2
    obtain ⟨ad, had, rfl⟩ := rvV_ref hw0
    have hsa2 : sa = wa.reverse ++ [.ref ad] := by have := congrArg List.reverse hsa; rwa [List.reverse_reverse, List.reverse_cons] at this
    obtain ⟨q, hq, fv, rfl, -⟩ := rRM_at h4 had hMk
    obtain ⟨-, -, -, -, -, -, -, m8, -⟩ := O.2.2.2.1 _ _ _ _ _ _ _ _ hG
    obtain ⟨m9, m10, -⟩ := m8 rfl
    simp only [List.length_cons] at hl
    refine ⟨ad, k0, fv, wa, sr, hq, by rw [hsa2]; simp, by rw [rRS_len hwa]; omega, hrr, ?_, hcallee _ _ _ _ _ _ _ hG ws H.size _ h4 (rRS_mk hw0 hwa)⟩
    cases hpd : parseMethodDescriptor nm.desc with
    | none => rw [hpd] at m10; cases m10
    | some q => rw [hpd] at m10; simp at m10 ⊢; omega
  cases ins with
  | invokespecial i =>
    obtain rfl : 3 = n := by simpa [rLen] using hn
    simp only [rIns] at h
    split at h
    · split at h
      · split at h
        · simp [rNx] at h
        · cases h
      · cases h
    · next y2 hk =>
      split at h
      · next hrec =>
        obtain ⟨rfl, hs, o2, nm, cc2, nL2, ret2, k, stt, hG, hS, hl⟩ := callOf h
        obtain ⟨o3, nm3, cc3, nL3, k3, hG3, hini3, hlink⟩ := (O.2.2.2.2.1 own i 1 y2 hk).2.1 rfl
        rw [hG] at hG3
        simp only [Option.some.injEq, Prod.mk.injEq] at hG3
        obtain ⟨rfl, rfl, rfl, rfl, rfl, rfl, rfl⟩ := hG3
        obtain ⟨m1, m2, m3, m4, m5, m6, m7, m8, -⟩ := O.2.2.2.1 _ _ _ _ _ _ _ _ hG
        obtain ⟨m9, m10, -⟩ := m8 rfl
        obtain ⟨ad, k0, fv, wa, sr, hq, rfl, hlw, hrr, hpar, hMet⟩ := virt hG hS hl hrec
        exact rCallW (va_runI (As := wa) (rest := sr) (b := ad) ⟨hx, hb, hml, hown, hts⟩ hMet (cwI (k - 1) hts (rGood O m1) rfl rfl rfl (hts2 _ m2) (hts2 _ hlink) (hts2 _ m9) hini3 ⟨m5, m6, hpar⟩ (room m7)) ⟨rBlind hNW, fun U hU hW => ⟨rfl, pre U hU hW⟩⟩ rfl hlw h1.1 rfl (lv_room (by rw [rRS_sum hrr]; exact hs)) hd ⟨hc, hz⟩) h7 (fun q _ hq => hfree q hq) hfree (back hrr)
      · cases h
    · cases h
  | invokevirtual i =>
    obtain rfl : 3 = n := by simpa [rLen] using hn
    simp only [rIns] at h
    split at h
    · next y2 hk =>
      split at h
      · next hrec =>
        obtain ⟨rfl, hs, o2, nm, cc2, nL2, ret2, k, stt, hG, hS, hl⟩ := callOf h
        obtain ⟨o3, nm3, cc3, nL3, ret3, k3, hG3, hlink, hsel⟩ := (O.2.2.2.2.1 own i 2 y2 hk).2.2.1 rfl
        rw [hG] at hG3
        simp only [Option.some.injEq, Prod.mk.injEq] at hG3
        obtain ⟨rfl, rfl, rfl, rfl, rfl, rfl, rfl⟩ := hG3
        obtain ⟨m1, m2, m3, m4, m5, m6, m7, m8, -⟩ := O.2.2.2.1 _ _ _ _ _ _ _ _ hG
        obtain ⟨m9, m10, qc, hqc, hqn⟩ := m8 rfl
        obtain ⟨ad, k0, fv, wa, sr, hq, rfl, hlw, hrr, hpar, hMet⟩ := virt hG hS hl hrec
        have hrv := va_recv hK h5 hqc hq
        rw [hqn, ← m4] at hrv
        exact rCallW (va_runV (As := wa) (rest := sr) (b := ad) (C := nm.cls) ⟨hx, hb, hml, hown, hts⟩ hMet ⟨callB_of (k - 1) hts (rGood O m1) rfl rfl rfl (hts2 _ m2) (hts2 _ hlink) ⟨m5, m6, hpar⟩ (room m7), hts2 _ m9, hts2 _ hsel⟩ ⟨rBlind hNW, hrv, fun U hU hW => ⟨rfl, pre U hU hW⟩⟩ rfl hlw h1.1 rfl (lv_room (by rw [rRS_sum hrr]; exact hs)) hd ⟨hc, hz⟩) h7 (fun q _ hq => hfree q hq) hfree (back hrr)
      · cases h
    · cases h
  | invokestatic i =>
    obtain rfl : 3 = n := by simpa [rLen] using hn
    simp only [rIns] at h
    split at h
    · next y2 hk =>
      obtain ⟨rfl, hs, o2, nm, cc2, nL2, ret2, k, stt, hG, hS, hl⟩ := callOf h
      obtain ⟨o3, nm3, cc3, nL3, ret3, k3, hG3, hlink⟩ := (O.2.2.2.2.1 own i 3 y2 hk).2.2.2.1 rfl
      rw [hG] at hG3
      simp only [Option.some.injEq, Prod.mk.injEq] at hG3
      obtain ⟨rfl, rfl, rfl, rfl, rfl, rfl, rfl⟩ := hG3
      obtain ⟨m1, m2, m3, m4, m5, m6, m7, -, m8⟩ := O.2.2.2.1 _ _ _ _ _ _ _ _ hG
      obtain ⟨m9, m10⟩ := m8 rfl
      obtain ⟨sa, sr, rfl, ha2, hrr⟩ := split2 hS
      have hMet := hcallee _ _ _ _ _ _ _ hG ws H.size _ h4 ha2
      exact rCallW (va_runS (As := sa.reverse) (rest := sr) ⟨hx, hb, hml, hown, hts⟩ hMet ⟨callB_of k hts (rGood O m1) rfl rfl rfl (hts2 _ m2) (hts2 _ hlink) ⟨m5, m6, m10⟩ (room m7), hts2 _ m9⟩ ⟨rBlind hNW, fun U hU hW => ⟨rfl, pre U hU hW⟩⟩ rfl (by rw [rRS_len ha2]; exact hl) h1.1 (by show sa ++ sr = _; rw [List.reverse_reverse]) (lv_room (by rw [rRS_sum hrr]; exact hs)) hd ⟨hc, hz⟩) h7 (fun q _ hq => hfree q hq) hfree (back hrr)
    · next y2 hk =>
      obtain ⟨rfl, hs, o2, nm, cc2, nL2, ret2, k, stt, hG, hS, hl⟩ := callOf h
      obtain ⟨o3, nm3, cc3, nL3, ret3, k3, host, hG3, hlink⟩ := (O.2.2.2.2.1 own i 4 y2 hk).2.2.2.2.1 rfl
      rw [hG] at hG3
      simp only [Option.some.injEq, Prod.mk.injEq] at hG3
      obtain ⟨rfl, rfl, rfl, rfl, rfl, rfl, rfl⟩ := hG3
      obtain ⟨m1, m2, m3, m4, m5, m6, m7, -, m8⟩ := O.2.2.2.1 _ _ _ _ _ _ _ _ hG
      obtain ⟨m9, m10⟩ := m8 rfl
      obtain ⟨sa, sr, rfl, ha2, hrr⟩ := split2 hS
      have hMet := hcallee _ _ _ _ _ _ _ hG ws H.size _ h4 ha2
      exact rCallW (va_runSN (As := sa.reverse) (rest := sr) (host := host) ⟨hx, hb, hml, hown, hts⟩ hMet ⟨va_cnB k hts (rGood O m1) rfl rfl rfl (hnw _ hlink) (hts2 _ m2) ⟨m5, m6, m10⟩ (room m7), hts2 _ m9, trivial⟩ ⟨rBlind hNW, fun U hU hW => ⟨rfl, pre U hU hW⟩⟩ rfl (by rw [rRS_len ha2]; exact hl) h1.1 (by show sa ++ sr = _; rw [List.reverse_reverse]) (lv_room (by rw [rRS_sum hrr]; exact hs)) hd ⟨hc, hz⟩) h7 (fun q _ hq => hfree q hq) hfree (back hrr)
    · split at h
      · split at h
        · split at h
          · simp [rNx] at h
          · cases h
        · cases h
      · cases h
    · split at h
      · split at h
        · simp [rNx] at h
        · cases h
      · cases h
    · split at h
      · split at h
        · simp [rNx] at h
        · cases h
      · cases h
    · cases h
  | _ => exact (rNoCall (by simp) (by simp) (by simp) h).elim
end RCL
