/-! A WHOLE METHOD -/
theorem rBool_n {x : Int32} (h : rBool x = true) : narrow .boolean (.int x) = .int x := by
  simp only [rBool, Bool.or_eq_true, decide_eq_true_eq] at h
  rcases h with rfl | rfl <;> rfl
set_option maxHeartbeats 8000000 in
set_option maxRecDepth 100000 in
theorem rNoRet {G : rTab} {own nL pc : Nat} {ret : Option FieldType} {ini : Bool} {L : List (Nat × rv)} {S : List rv} {M : List rEnt} {ins : Instr} {q : Option rv} (n1 : ins ≠ .ireturn) (n2 : ins ≠ .lreturn) (n3 : ins ≠ .areturn) (n4 : ins ≠ .return_) (h : rIns G own nL ret ini pc L S M ins = some (.inr (.inl q))) : False := by
  cases ins with
  | ireturn => exact n1 rfl
  | lreturn => exact n2 rfl
  | areturn => exact n3 rfl
  | return_ => exact n4 rfl
  | newarray t => cases t <;> (simp only [rIns] at h <;> (repeat' split at h) <;> cases h)
  | multianewarray i d =>
    unfold rIns at h
    split at h
    all_goals first | contradiction | skip
    all_goals (repeat' split at h)
    all_goals first | contradiction | cases h | skip
  | _ => (simp only [rIns, rNx, rLoadI, rLoadL, rLoadA, rStoreI, rStoreL, rStoreA, rBin, rBin0, rBinL, rBinL0, rIf, rJump, rCallOf] at h <;> (repeat' split at h) <;> first | cases h | contradiction)
section RMT
variable {G : rTab} {cn : Nat → String} {Ts nw : List Cond} {p : Program} {l : Launch} {e : Env} {R : Room} {s : State} {m : MethodId} {args : Array Value} {below : List Frame} {meth : Method} {c : Code} {H : Heap} {locs : List Loc} {cells slots : Nat} {Q : State → Prop}
variable {cc : ByteArray} {pc : Nat} {ls : Array Slot} {st : List Value} {D : va_G} {cl : List vw_C} {ct : Nat → ClassId} {A : Nat → Prop} {al0 : List Nat} {own nL : Nat} {ret : Option FieldType} {ini : Bool} {ws : va_W} {L : List (Nat × rv)} {S : List rv} {M : List rEnt}
theorem rReturn (F : rFx cn Ts nw D cl ct p R s m args meth c own nL cc ret ini A s.heap) {ins : Instr} {n : Nat} {r : Option rv} (hd : decode cc pc = .ok (ins, n)) (hn : rLen ins = none ∨ rLen ins = some n) (a : rAt D cl ct A s.heap al0 nL ws H locs ls st L S M)
    (h : rIns G own nL ret ini pc L S M ins = some (.inr (.inl r))) : W p l e R s m args below meth c H locs cells slots (MQ below (rQc D cl ct A al0 r M) args s cells slots A) (F0 m pc ls st) := by
  obtain ⟨hx, hb, hml, hown, hts, hK, hnw, hAO, hAOA, hrt, hlk, -⟩ := F
  obtain ⟨lv, h1, h2, h3, h4, h5, h6, h7, h8⟩ := a
  have hq : ∀ (v : Option Value), r.map (rvV (rAd ws)) = v.map some → ∀ t : State, t.heap = H → s.WarmedH t.vm → rQc D cl ct A al0 r M args s (.returned v) t := fun v hv t ht hW => ⟨⟨v, ws, rfl, hv, h4, by rw [ht]; exact h5, h6, h8⟩, h7.F ht⟩
  cases ins with
  | ireturn =>
    obtain rfl : 1 = n := by simpa [rLen] using hn
    simp only [rIns] at h
    split at h
    · next x =>
      split at h
      · next hr =>
        cases h
        obtain ⟨t, rfl, h3b⟩ := rRS_int h3
        rw [rRS_nil h3b]
        unfold rRet at hr
        split at hr
        · next hi => cases hi; exact W.iret hx hb hrt (hq (some (.int x)) rfl) h7.2.2 hd hlk
        · next hi => cases hi; exact W.zret hx hb hrt (rBool_n hr) (hq (some (.int x)) rfl) h7.2.2 hd hlk
        · next hi => cases hi
        · next hi => cases hi
        · next hi => cases hi
        · cases hr
      · cases h
    · cases h
  | lreturn =>
    obtain rfl : 1 = n := by simpa [rLen] using hn
    simp only [rIns] at h
    split at h
    · next x =>
      split at h
      · next hr =>
        cases h
        obtain ⟨t, rfl, h3b⟩ := rRS_long h3
        rw [rRS_nil h3b]
        unfold rRet at hr
        split at hr
        · next hi => cases hi
        · next hi => cases hi
        · next hi => cases hi; exact W.lret hx hb hrt (hq (some (.long x)) rfl) h7.2.2 hd hlk
        · next hi => cases hi
        · next hi => cases hi
        · cases hr
      · cases h
    · cases h
  | areturn =>
    obtain rfl : 1 = n := by simpa [rLen] using hn
    simp only [rIns] at h
    split at h
    · next x =>
      split at h
      · next hr =>
        cases h
        obtain ⟨w, t, rfl, hw, h3b⟩ := rRS_cons h3
        rw [rRS_nil h3b]
        obtain ⟨y, rfl, -⟩ := rvV_rf hw
        have hq2 := hq (some (va_rf y)) (by show some (rvV (rAd ws) (.inr (.inr x))) = _; rw [hw]; rfl)
        unfold rRet at hr
        split at hr
        · next hi => cases hi
        · next hi => cases hi
        · next hi => cases hi
        · next nn z hi => exact W.aret hx hb hrt (Or.inl ⟨_, rfl⟩) (va_rf_or y) hq2 h7.2.2 hd hlk
        · next nn z hi => exact W.aret hx hb hrt (Or.inr ⟨_, rfl⟩) (va_rf_or y) hq2 h7.2.2 hd hlk
        · cases hr
      · cases h
    · cases h
  | return_ =>
    obtain rfl : 1 = n := by simpa [rLen] using hn
    simp only [rIns] at h
    split at h
    · split at h
      · next hr =>
        cases h
        rw [rRS_nil h3]
        exact W.vret hx hb (hrt.trans hr) (hq none rfl) h7.2.2 hd hlk
      · cases h
    · cases h
  | _ => exact (rNoRet (by simp) (by simp) (by simp) (by simp) h).elim
theorem rB_mono {call : Nat → List rv → List rEnt → Option rRes} : ∀ (n pc : Nat) (L : List (Nat × rv)) (S : List rv) (M : List rEnt) (k z : Nat) {r : Option rv} {M' : List rEnt} {uc uz : Nat}, rB G call own nL ret ini cc n pc L S M k z = some (r, M', uc, uz) → k ≤ uc ∧ z ≤ uz := by
  intro n
  induction n with
  | zero => intro pc L S M k z r M' uc uz h; cases h
  | succ n ih =>
    intro pc L S M k z r M' uc uz h
    simp only [rB] at h
    split at h
    · obtain ⟨h1, h2⟩ := ih _ _ _ _ _ _ h
      omega
    · cases h
      exact ⟨Nat.le_refl _, Nat.le_refl _⟩
    · split at h
      · obtain ⟨h1, h2⟩ := ih _ _ _ _ _ _ h
        omega
      · cases h
    · cases h
theorem rStep_of {i : rOut} (h : rStep G own nL ret ini cc pc L S M = some i) : ∃ (ins : Instr) (n : Nat), decode cc pc = .ok (ins, n) ∧ (rLen ins = none ∨ rLen ins = some n) ∧ rIns G own nL ret ini pc L S M ins = some i := by
  unfold rStep at h
  split at h
  · next ins n hd =>
    split at h
    · next hl => exact ⟨ins, n, hd, hl, h⟩
    · cases h
  · cases h
theorem rBody (O : rOK G cn Ts nw cl) {nm0 : MethodName} (F : rFx cn (.code nm0 cc nL ret :: Ts) nw D cl ct p R s m args meth c own nL cc ret ini A s.heap) (F2 : rFx cn Ts nw D cl ct p R s m args meth c own nL cc ret ini A s.heap) {d N : Nat} (hfr : d + 1 ≤ R.frames) (hlo : 40 * (d + 1) ≤ R.locals)
    (hcallee : ∀ (y : Nat) (as : List rv) (M : List rEnt) (v : Option rv) (M2 : List rEnt) (uc uz : Nat), rRun G N d y as M = some (v, M2, uc, uz) → ∀ (o2 : Nat) (nm : MethodName) (cc2 : ByteArray) (nL2 : Nat) (ret2 : Option FieldType) (k : Nat) (stt : Bool), G.1 y = some (o2, nm, cc2, nL2, ret2, k, stt) → rMetS l Ts nw D cl ct d nm cc2 nL2 ret2 as M v M2 uc uz)
    {r : Option rv} {M' : List rEnt} {uc uz : Nat} (hRc : R.cells = uc) (hRz : R.slots = uz) :
    ∀ (n pc : Nat) (L : List (Nat × rv)) (S : List rv) (M : List rEnt) (k z : Nat), rB G (rRun G N d) own nL ret ini cc n pc L S M k z = some (r, M', uc, uz) → rTo D cl ct A s.heap al0 nL p l e R s m args below meth c k z (MQ below (rQc D cl ct A al0 r M') args s uc uz A) pc L S M := by
  intro n
  induction n with
  | zero => intro pc L S M k z h; cases h
  | succ n ih =>
    intro pc L S M k z h ws H locs ls st a
    simp only [rB] at h
    split at h
    · next pc2 L2 S2 M2 dc dz hs =>
      obtain ⟨ins, len, hd, hl, hi⟩ := rStep_of hs
      obtain ⟨g1, g2⟩ := rB_mono _ _ _ _ _ _ _ h
      exact rNext O F2 hd hl a hi (by omega) (by omega) (ih _ _ _ _ _ _ h)
    · next r2 hs =>
      obtain ⟨ins, len, hd, hl, hi⟩ := rStep_of hs
      cases h
      exact rReturn F2 hd hl a hi
    · next y as rest hs =>
      obtain ⟨ins, len, hd, hl, hi⟩ := rStep_of hs
      split at h
      · next v M2 uc2 uz2 hrun =>
        obtain ⟨g1, g2⟩ := rB_mono _ _ _ _ _ _ _ h
        exact rCall O F hd hl a hi hfr hlo (by omega) (by omega) (hcallee y as M v M2 uc2 uz2 hrun) (ih _ _ _ _ _ _ h)
      · cases h
    · cases h
end RMT
/-- WHAT THE RECKONER ANSWERS OF A METHOD, THE MACHINE ANSWERS -/
theorem rMet {G : rTab} {cn : Nat → String} {Ts nw : List Cond} {cl : List vw_C} (O : rOK G cn Ts nw cl) (l : Launch) (D : va_G) (ct : Nat → ClassId) (N : Nat) : ∀ (d y : Nat) (as : List rv) (M : List rEnt) (r : Option rv) (M' : List rEnt) (uc uz : Nat), rRun G N d y as M = some (r, M', uc, uz) →
    ∀ (own : Nat) (nm : MethodName) (cc : ByteArray) (nL : Nat) (ret : Option FieldType) (k : Nat) (stt : Bool), G.1 y = some (own, nm, cc, nL, ret, k, stt) → rMetS l Ts nw D cl ct d nm cc nL ret as M r M' uc uz := by
  intro d
  induction d with
  | zero => intro y as M r M' uc uz h; cases h
  | succ d ih =>
    intro y as M r M' uc uz h own nm cc nL ret k stt hG ws sz av hM hav
    simp only [rRun, hG] at h
    split at h
    · next hk =>
      obtain ⟨m1, m2, m3, m4, m5, m6, m7, -⟩ := O.2.2.2.1 _ _ _ _ _ _ _ _ hG
      refine Met.ofW (cc := cc) (maxL := nL) (ret := ret) m3 rfl ?_
      intro p e s m args below meth c s₁ B hml hv
      obtain ⟨rfl, hsz, hP, hK, hD0, hnw, hAO, hAOA⟩ := hv
      subst hsz
      have hts := atoms_spec (ws := .code nm cc nL ret :: Ts) B.pre
      have hown : s.vm.findClass (cn own) = some m.cls := by rw [← m4]; exact findClass_of_methodNamed B.named
      have hD := hD0.self (sz := s.heap.size)
      have hin : (nm.name == "<init>") = true → meth.name = "<init>" := fun hi => by rw [(name_of_methodNamed B.named B.method).1]; simpa using hi
      have hA : ∀ q, s.heap.size ≤ q → va_A ws s.heap.size q := fun q hq => Or.inr hq
      have F : rFx cn (.code nm cc nL ret :: Ts) nw D cl ct p ({ frames := d + 1, cells := uc, slots := uz, locals := 40 * (d + 1) } : Room) s m av.toArray meth c own nL cc ret (nm.name == "<init>") (va_A ws s.heap.size) s.heap := ⟨B.exec, B.bytes, hml, hown, hts, hK, hnw, hAO, hAOA, B.returns, B.notSynchronized, hin, hA, by show 1 ≤ d + 1; omega, by show 40 ≤ 40 * (d + 1); omega⟩
      have F2 : rFx cn Ts nw D cl ct p ({ frames := d + 1, cells := uc, slots := uz, locals := 40 * (d + 1) } : Room) s m av.toArray meth c own nL cc ret (nm.name == "<init>") (va_A ws s.heap.size) s.heap := ⟨B.exec, B.bytes, hml, hown, fun w hw => hts w (List.mem_cons_of_mem _ hw), hK, hnw, hAO, hAOA, B.returns, B.notSynchronized, hin, hA, by show 1 ≤ d + 1; omega, by show 40 ≤ 40 * (d + 1); omega⟩
      have hwl : (lg_sl av).length ≤ nL := by rw [rWide_sl hav]; exact hk.2
      have hl := lv_entry av (n := nL) hwl
      rw [lg_entry_eq]
      exact rBody O F F2 (Nat.le_refl _) (Nat.le_refl _) (fun y2 as2 M2 v2 M3 uc2 uz2 hrun => ih y2 as2 M2 v2 M3 uc2 uz2 hrun) rfl rfl N 0 _ _ _ 0 0 h ws s.heap [] _ [] ⟨_, hl, rRL_args 0 hav, rRS_0, hM, hP, hD, va_S.rf, List.prefix_refl _⟩
    · cases h
