/-! ONE INSTRUCTION THAT GOES ON WITHIN THE METHOD -/
theorem rTest_iff (cd : Jvm.ClassFile.Cond) (x y : Int32) : rTest cd x y = true ↔ (match cd with | .eq => x = y | .ne => ¬ x = y | .lt => x < y | .ge => y ≤ x | .gt => y < x | .le => x ≤ y) := by
  cases cd <;> simp [rTest]
section RNX
variable {G : rTab} {cn : Nat → String} {Ts nw : List Cond} {p : Program} {l : Launch} {e : Env} {R : Room} {s : State} {m : MethodId} {args : Array Value} {below : List Frame} {meth : Method} {c : Code} {H : Heap} {locs : List Loc} {cells slots : Nat} {Q : State → Prop}
variable {cc : ByteArray} {pc : Nat} {ls : Array Slot} {st : List Value} {D : va_G} {cl : List vw_C} {ct : Nat → ClassId} {A : Nat → Prop} {H0 : Heap} {al0 : List Nat} {own nL : Nat} {ret : Option FieldType} {ini : Bool} {ws : va_W} {L : List (Nat × rv)} {S : List rv} {M : List rEnt}
set_option maxHeartbeats 4000000 in
theorem k_ifc (F : rFx cn Ts nw D cl ct p R s m args meth c own nL cc ret ini A H0) {cd : Jvm.ClassFile.Cond} {off : Int} {x : Int32} {r : List rv} {o : rOut} (hd : decode cc pc = .ok (.ifCond cd off, 3)) (a : rAt D cl ct A H0 al0 nL ws H locs ls st L (.inl x :: r) M) (h : rIf (rTest cd x 0) pc off L r M = some o)
    (kk : ∀ tgt, o = .inl (tgt, L, r, M, 0, 0) → rTo D cl ct A H0 al0 nL p l e R s m args below meth c cells slots Q tgt L r M) : W p l e R s m args below meth c H locs cells slots Q (F0 m pc ls st) := by
  have a2 := a
  obtain ⟨lv, h1, h2, h3, h4⟩ := a2
  obtain ⟨t, rfl, h3b⟩ := rRS_int h3
  refine k_if (rTest_iff cd x 0) a h3b h ?_ kk
  intro tgt ht k1 k2
  cases cd with
  | eq => exact lv_if_eq F.1 F.2.1 hd ht k1 k2
  | ne => exact lv_if_ne F.1 F.2.1 hd ht k1 (fun q => k2 (fun z => z q))
  | lt => exact lv_if_lt F.1 F.2.1 hd ht k1 k2
  | ge => exact lv_if_ge F.1 F.2.1 hd ht k1 k2
  | gt => exact lv_if_gt F.1 F.2.1 hd ht k1 k2
  | le => exact lv_if_le F.1 F.2.1 hd ht k1 k2
set_option maxHeartbeats 4000000 in
theorem k_icmp (F : rFx cn Ts nw D cl ct p R s m args meth c own nL cc ret ini A H0) {cd : Jvm.ClassFile.Cond} {off : Int} {x y : Int32} {r : List rv} {o : rOut} (hd : decode cc pc = .ok (.if_icmp cd off, 3)) (a : rAt D cl ct A H0 al0 nL ws H locs ls st L (.inl y :: .inl x :: r) M) (h : rIf (rTest cd x y) pc off L r M = some o)
    (kk : ∀ tgt, o = .inl (tgt, L, r, M, 0, 0) → rTo D cl ct A H0 al0 nL p l e R s m args below meth c cells slots Q tgt L r M) : W p l e R s m args below meth c H locs cells slots Q (F0 m pc ls st) := by
  have a2 := a
  obtain ⟨lv, h1, h2, h3, h4⟩ := a2
  obtain ⟨t1, rfl, h3a⟩ := rRS_int h3
  obtain ⟨t, rfl, h3b⟩ := rRS_int h3a
  refine k_if (rTest_iff cd x y) a h3b h ?_ kk
  intro tgt ht k1 k2
  cases cd with
  | eq => exact lv_icmp_eq F.1 F.2.1 hd ht k1 k2
  | ne => exact lv_icmp_ne F.1 F.2.1 hd ht k1 (fun q => k2 (fun z => z q))
  | lt => exact lv_icmp_lt F.1 F.2.1 hd ht k1 k2
  | ge => exact lv_icmp_ge F.1 F.2.1 hd ht k1 k2
  | gt => exact lv_icmp_gt F.1 F.2.1 hd ht k1 k2
  | le => exact lv_icmp_le F.1 F.2.1 hd ht k1 k2
set_option maxHeartbeats 8000000 in
set_option maxRecDepth 100000 in
theorem rNext (O : rOK G cn Ts nw cl) (F : rFx cn Ts nw D cl ct p R s m args meth c own nL cc ret ini A H0) {ins : Instr} {n pc' : Nat} {L' : List (Nat × rv)} {S' : List rv} {M' : List rEnt} {dc dz : Nat} (hd : decode cc pc = .ok (ins, n)) (hn : rLen ins = none ∨ rLen ins = some n) (a : rAt D cl ct A H0 al0 nL ws H locs ls st L S M)
    (h : rIns G own nL ret ini pc L S M ins = some (.inl (pc', L', S', M', dc, dz))) (hc : cells + dc ≤ R.cells) (hz : slots + dz ≤ R.slots)
    (kk : rTo D cl ct A H0 al0 nL p l e R s m args below meth c (cells + dc) (slots + dz) Q pc' L' S' M') : W p l e R s m args below meth c H locs cells slots Q (F0 m pc ls st) := by
  have hx := F.1
  have hb := F.2.1
  have hown := F.2.2.2.1
  have hts := F.2.2.2.2.1
  have fin : ∀ {pc2 : Nat} {L2 : List (Nat × rv)} {S2 : List rv} {M2 : List rEnt}, (.inl (pc', L', S', M', dc, dz) : rOut) = .inl (pc2, L2, S2, M2, 0, 0) → rTo D cl ct A H0 al0 nL p l e R s m args below meth c cells slots Q pc2 L2 S2 M2 := by
    intro pc2 L2 S2 M2 he
    simp only [Sum.inl.injEq, Prod.mk.injEq] at he
    obtain ⟨rfl, rfl, rfl, rfl, rfl, rfl⟩ := he
    exact kk
  have fin2 : ∀ {pc2 : Nat} {L2 : List (Nat × rv)} {S2 : List rv} {M2 : List rEnt}, rNx pc2 L2 S2 M2 = some (.inl (pc', L', S', M', dc, dz)) → rTo D cl ct A H0 al0 nL p l e R s m args below meth c cells slots Q pc2 L2 S2 M2 := fun he => fin (Option.some.inj he).symm
  cases ins with
  | iconst k =>
    obtain rfl : 1 = n := by simpa [rLen] using hn
    obtain ⟨lv, h1, h2, h3, h4⟩ := a
    exact lv_iconst hx hb hd rfl (fin2 h ws H locs ls _ ⟨lv, h1, h2, rRS_mk rfl h3, h4⟩)
  | bipush k =>
    obtain rfl : 2 = n := by simpa [rLen] using hn
    obtain ⟨lv, h1, h2, h3, h4⟩ := a
    exact lv_bipush hx hb hd rfl (fin2 h ws H locs ls _ ⟨lv, h1, h2, rRS_mk rfl h3, h4⟩)
  | sipush k =>
    obtain rfl : 3 = n := by simpa [rLen] using hn
    obtain ⟨lv, h1, h2, h3, h4⟩ := a
    exact lv_sipush hx hb hd rfl (fin2 h ws H locs ls _ ⟨lv, h1, h2, rRS_mk rfl h3, h4⟩)
  | lconst k =>
    obtain rfl : 1 = n := by simpa [rLen] using hn
    obtain ⟨lv, h1, h2, h3, h4⟩ := a
    exact lv_lconst hx hb hd rfl (fin2 h ws H locs ls _ ⟨lv, h1, h2, rRS_mk rfl h3, h4⟩)
  | ldc i =>
    obtain rfl : 2 = n := by simpa [rLen] using hn
    simp only [rIns] at h
    split at h
    · next v hv =>
      obtain ⟨lv, h1, h2, h3, h4⟩ := a
      exact lv_ldc hx hb hown (hts _ (O.2.2.1.1 own i v hv)) hd (fin2 h ws H locs ls _ ⟨lv, h1, h2, rRS_mk rfl h3, h4⟩)
    · cases h
  | ldc_w i =>
    obtain rfl : 3 = n := by simpa [rLen] using hn
    simp only [rIns] at h
    split at h
    · next v hv =>
      obtain ⟨lv, h1, h2, h3, h4⟩ := a
      exact lv_ldcw hx hb hown (hts _ (O.2.2.1.1 own i v hv)) hd (fin2 h ws H locs ls _ ⟨lv, h1, h2, rRS_mk rfl h3, h4⟩)
    · cases h
  | ldc2_w i =>
    obtain rfl : 3 = n := by simpa [rLen] using hn
    simp only [rIns] at h
    split at h
    · next v hv =>
      obtain ⟨lv, h1, h2, h3, h4⟩ := a
      exact lv_ldc2 hx hb hown (hts _ (O.2.2.1.2 own i v hv)) hd (fin2 h ws H locs ls _ ⟨lv, h1, h2, rRS_mk rfl h3, h4⟩)
    · cases h
  | iload_n k =>
    obtain rfl : 1 = n := by simpa [rLen] using hn
    exact k_loadI (pc' := 0) F (Or.inl ⟨k, rfl, rfl, rfl⟩) hd a h (fun x hx => fin hx)
  | iload i =>
    obtain rfl : 2 = n := by simpa [rLen] using hn
    exact k_loadI (pc' := 0) F (Or.inr ⟨rfl, rfl⟩) hd a h (fun x hx => fin hx)
  | lload_n k =>
    obtain rfl : 1 = n := by simpa [rLen] using hn
    exact k_loadL (pc' := 0) F (Or.inl ⟨k, rfl, rfl, rfl⟩) hd a h (fun x hx => fin hx)
  | lload i =>
    obtain rfl : 2 = n := by simpa [rLen] using hn
    exact k_loadL (pc' := 0) F (Or.inr ⟨rfl, rfl⟩) hd a h (fun x hx => fin hx)
  | aload_n k =>
    obtain rfl : 1 = n := by simpa [rLen] using hn
    exact k_loadA (pc' := 0) F (Or.inl ⟨k, rfl, rfl, rfl⟩) hd a h (fun x hx => fin hx)
  | aload i =>
    obtain rfl : 2 = n := by simpa [rLen] using hn
    exact k_loadA (pc' := 0) F (Or.inr ⟨rfl, rfl⟩) hd a h (fun x hx => fin hx)
  | istore_n k =>
    obtain rfl : 1 = n := by simpa [rLen] using hn
    exact k_storeI F (Or.inl ⟨k, rfl, rfl, rfl⟩) hd a h (fun x r hx => fin hx)
  | istore i =>
    obtain rfl : 2 = n := by simpa [rLen] using hn
    exact k_storeI F (Or.inr ⟨rfl, rfl⟩) hd a h (fun x r hx => fin hx)
  | lstore_n k =>
    obtain rfl : 1 = n := by simpa [rLen] using hn
    exact k_storeL F (Or.inl ⟨k, rfl, rfl, rfl⟩) hd a h (fun x r hx => fin hx)
  | lstore i =>
    obtain rfl : 2 = n := by simpa [rLen] using hn
    exact k_storeL F (Or.inr ⟨rfl, rfl⟩) hd a h (fun x r hx => fin hx)
  | astore_n k =>
    obtain rfl : 1 = n := by simpa [rLen] using hn
    exact k_storeA F (Or.inl ⟨k, rfl, rfl, rfl⟩) hd a h (fun x r hx => fin hx)
  | astore i =>
    obtain rfl : 2 = n := by simpa [rLen] using hn
    exact k_storeA F (Or.inr ⟨rfl, rfl⟩) hd a h (fun x r hx => fin hx)
  | iinc i k =>
    obtain rfl : 3 = n := by simpa [rLen] using hn
    simp only [rIns] at h
    split at h
    · next x hg =>
      split at h
      · next hi =>
        obtain ⟨lv, h1, h2, h3, h4⟩ := a
        obtain ⟨q, w, hk, hw⟩ := rRL_get h2 hg
        cases hw
        exact lv_iinc hx hb hd h1 hk rfl hi rfl (fun ls' hl => fin2 h ws H locs ls' _ ⟨_, hl, rRL_set1 rfl h2, h3, h4⟩)
      · cases h
    · cases h
  | iadd =>
    obtain rfl : 1 = n := by simpa [rLen] using hn
    exact k_bin a h (fun x y t q => lv_iadd hx hb hd q) (fun z r hx => fin hx)
  | isub =>
    obtain rfl : 1 = n := by simpa [rLen] using hn
    exact k_bin a h (fun x y t q => lv_isub hx hb hd q) (fun z r hx => fin hx)
  | imul =>
    obtain rfl : 1 = n := by simpa [rLen] using hn
    exact k_bin a h (fun x y t q => lv_imul hx hb hd q) (fun z r hx => fin hx)
  | iand =>
    obtain rfl : 1 = n := by simpa [rLen] using hn
    exact k_bin a h (fun x y t q => lv_iand hx hb hd q) (fun z r hx => fin hx)
  | ior =>
    obtain rfl : 1 = n := by simpa [rLen] using hn
    exact k_bin a h (fun x y t q => lv_ior hx hb hd q) (fun z r hx => fin hx)
  | ixor =>
    obtain rfl : 1 = n := by simpa [rLen] using hn
    exact k_bin a h (fun x y t q => lv_ixor hx hb hd q) (fun z r hx => fin hx)
  | ishl =>
    obtain rfl : 1 = n := by simpa [rLen] using hn
    exact k_bin a h (fun x y t q => lv_ishl hx hb hd q) (fun z r hx => fin hx)
  | iushr =>
    obtain rfl : 1 = n := by simpa [rLen] using hn
    exact k_bin a h (fun x y t q => lv_iushr hx hb hd rfl q) (fun z r hx => fin hx)
  | idiv =>
    obtain rfl : 1 = n := by simpa [rLen] using hn
    exact k_bin0 a h (fun x y t hy q => lv_idiv hx hb hd hy q) (fun z r hx => fin hx)
  | irem =>
    obtain rfl : 1 = n := by simpa [rLen] using hn
    exact k_bin0 a h (fun x y t hy q => lv_irem hx hb hd hy q) (fun z r hx => fin hx)
  | lsub =>
    obtain rfl : 1 = n := by simpa [rLen] using hn
    exact k_binL a h (fun x y t q => lv_lsub hx hb hd q) (fun z r hx => fin hx)
  | ldiv =>
    obtain rfl : 1 = n := by simpa [rLen] using hn
    exact k_binL0 a h (fun x y t hy q => lv_ldiv hx hb hd hy q) (fun z r hx => fin hx)
  | lrem =>
    obtain rfl : 1 = n := by simpa [rLen] using hn
    exact k_binL0 a h (fun x y t hy q => lv_lrem hx hb hd hy q) (fun z r hx => fin hx)
  | lcmp =>
    obtain rfl : 1 = n := by simpa [rLen] using hn
    simp only [rIns] at h
    split at h
    · next y x r =>
      obtain ⟨lv, h1, h2, h3, h4⟩ := a
      obtain ⟨t1, rfl, h5⟩ := rRS_long h3
      obtain ⟨t, rfl, h6⟩ := rRS_long h5
      exact W.lcmp hx hb hd (fin2 h ws H locs ls _ ⟨lv, h1, h2, rRS_mk rfl h6, h4⟩)
    · cases h
  | ineg =>
    obtain rfl : 1 = n := by simpa [rLen] using hn
    simp only [rIns] at h
    split at h
    · next x r =>
      obtain ⟨lv, h1, h2, h3, h4⟩ := a
      obtain ⟨t, rfl, h6⟩ := rRS_int h3
      exact lv_ineg hx hb hd (fin2 h ws H locs ls _ ⟨lv, h1, h2, rRS_mk rfl h6, h4⟩)
    · cases h
  | i2l =>
    obtain rfl : 1 = n := by simpa [rLen] using hn
    simp only [rIns] at h
    split at h
    · next x r =>
      obtain ⟨lv, h1, h2, h3, h4⟩ := a
      obtain ⟨t, rfl, h6⟩ := rRS_int h3
      exact lv_i2l hx hb hd rfl (fin2 h ws H locs ls _ ⟨lv, h1, h2, rRS_mk rfl h6, h4⟩)
    · cases h
  | dup =>
    obtain rfl : 1 = n := by simpa [rLen] using hn
    simp only [rIns] at h
    split at h
    · next v r =>
      split at h
      · next hv =>
        obtain ⟨lv, h1, h2, h3, h4⟩ := a
        obtain ⟨w, t, rfl, hw, h6⟩ := rRS_cons h3
        exact lv_dup hx hb hd (by rw [rvV_cat hw]; exact hv) (fin2 h ws H locs ls _ ⟨lv, h1, h2, rRS_mk hw (rRS_mk hw h6), h4⟩)
      · cases h
    · cases h
  | dup2 =>
    obtain rfl : 1 = n := by simpa [rLen] using hn
    simp only [rIns] at h
    split at h
    · next v v2 r =>
      split at h
      · next hv =>
        obtain ⟨lv, h1, h2, h3, h4⟩ := a
        obtain ⟨w, t1, rfl, hw, h5⟩ := rRS_cons h3
        obtain ⟨w2, t, rfl, hw2, h6⟩ := rRS_cons h5
        exact lv_dup2_11 hx hb hd (by rw [rvV_cat hw]; exact hv.1) (by rw [rvV_cat hw2]; exact hv.2) (fin2 h ws H locs ls _ ⟨lv, h1, h2, rRS_mk hw (rRS_mk hw2 (rRS_mk hw (rRS_mk hw2 h6))), h4⟩)
      · cases h
    · cases h
  | ifCond cd off =>
    obtain rfl : 3 = n := by simpa [rLen] using hn
    simp only [rIns] at h
    split at h
    · exact k_ifc F hd a h (fun tgt hx => fin hx)
    · cases h
  | if_icmp cd off =>
    obtain rfl : 3 = n := by simpa [rLen] using hn
    simp only [rIns] at h
    split at h
    · exact k_icmp F hd a h (fun tgt hx => fin hx)
    · cases h
  | ifnonnull off =>
    obtain rfl : 3 = n := by simpa [rLen] using hn
    simp only [rIns] at h
    split at h
    · next k r =>
      have a2 := a
      obtain ⟨lv, h1, h2, h3, h4⟩ := a2
      obtain ⟨ad, t, rfl, -, h6⟩ := rRS_ref h3
      exact k_jump a h6 h (fun tgt ht q => lv_ifnonnull hx hb hd ht q) (fun tgt hx => fin hx)
    · cases h
  | goto off =>
    obtain rfl : 3 = n := by simpa [rLen] using hn
    have a2 := a
    obtain ⟨lv, h1, h2, h3, h4⟩ := a2
    exact k_jump a h3 h (fun tgt ht q => lv_goto hx hb hd ht q) (fun tgt hx => fin hx)
  | tableswitch df lo hi offs =>
    simp only [rIns] at h
    split at h
    · next x r =>
      have a2 := a
      obtain ⟨lv, h1, h2, h3, h4⟩ := a2
      obtain ⟨t, rfl, h6⟩ := rRS_int h3
      split at h
      · next hout => exact k_jump a h6 h (fun tgt ht q => lv_tableOut hx hb hd hout ht q) (fun tgt hx => fin hx)
      · next hout =>
        split at h
        · next off ho => exact k_jump a h6 h (fun tgt ht q => lv_tableIn hx hb hd (fun z => hout (Or.inl z)) (fun z => hout (Or.inr z)) ho ht q) (fun tgt hx => fin hx)
        · cases h
    · cases h
  | lookupswitch df ps =>
    simp only [rIns] at h
    split at h
    · next x r =>
      have a2 := a
      obtain ⟨lv, h1, h2, h3, h4⟩ := a2
      obtain ⟨t, rfl, h6⟩ := rRS_int h3
      split at h
      · next hp => exact k_jump a h6 h (fun tgt ht q => lv_lookup hx hb hd hp rfl ht q) (fun tgt hx => fin hx)
      · cases h
    · cases h
  | getfield i =>
    obtain rfl : 3 = n := by simpa [rLen] using hn
    simp only [rIns] at h
    split at h
    · next k r =>
      split at h
      · next ci j t f1 f2 hf =>
        split at h
        · next c2 fs hM =>
          split at h
          · next hcc =>
            subst hcc
            split at h
            · next v hv => exact k_getfield O F hd a hf hM hv (fin2 h)
            · cases h
          · cases h
        · cases h
      · cases h
    · cases h
  | putfield i =>
    obtain rfl : 3 = n := by simpa [rLen] using hn
    simp only [rIns] at h
    split at h
    · next v k r =>
      split at h
      · next ci j t f1 f2 hf =>
        split at h
        · next hcc =>
          split at h
          · next M2 hM => exact k_putfield O F hd a hf hcc.1 hcc.2 hM (fin2 h)
          · cases h
        · cases h
      · cases h
    · cases h
  | iaload =>
    obtain rfl : 1 = n := by simpa [rLen] using hn
    simp only [rIns] at h
    split at h
    · next x k r =>
      split at h
      · next n2 f hM =>
        split at h
        · next hi => exact k_iaload F hd a hM hi (fin2 h)
        · cases h
      · cases h
    · cases h
  | iastore =>
    obtain rfl : 1 = n := by simpa [rLen] using hn
    simp only [rIns] at h
    split at h
    · next v x k r =>
      split at h
      · next n2 f hM =>
        split at h
        · next hi => exact k_iastore F hd a hM hi (fin2 h)
        · cases h
      · cases h
    · cases h
  | aaload =>
    obtain rfl : 1 = n := by simpa [rLen] using hn
    simp only [rIns] at h
    split at h
    · next x k r =>
      split at h
      · next n2 f hM =>
        split at h
        · next hi => exact k_aaload F hd a hM hi (fin2 h)
        · cases h
      · next n2 f hM =>
        split at h
        · next hi => exact k_aaload2 F hd a hM hi (fin2 h)
        · cases h
      · cases h
    · cases h
  | aastore =>
    obtain rfl : 1 = n := by simpa [rLen] using hn
    simp only [rIns] at h
    split at h
    · next v x k r =>
      split at h
      · next n2 f fs hM hMv =>
        split at h
        · next hi => exact k_aastore O F hd a hM hMv hi (fin2 h)
        · cases h
      · cases h
    · cases h
  | arraylength =>
    obtain rfl : 1 = n := by simpa [rLen] using hn
    simp only [rIns] at h
    split at h
    · next k r =>
      split at h
      · next n2 f hM => exact k_alen F hd a hM (fin2 h)
      · cases h
    · cases h
  | newarray t =>
    cases t with
    | int =>
      obtain rfl : 2 = n := by simpa [rLen] using hn
      simp only [rIns] at h
      split at h
      · next k r =>
        split at h
        · next hh =>
          simp only [Option.some.injEq, Sum.inl.injEq, Prod.mk.injEq] at h
          obtain ⟨rfl, rfl, rfl, rfl, rfl, rfl⟩ := h
          exact k_newarray O F hd a hh.1 hh.2 hc hz kk
        · cases h
      · cases h
    | _ => cases h
  | new i =>
    obtain rfl : 3 = n := by simpa [rLen] using hn
    simp only [rIns] at h
    split at h
    · next ci fs hg =>
      simp only [Option.some.injEq, Sum.inl.injEq, Prod.mk.injEq] at h
      obtain ⟨rfl, rfl, rfl, rfl, rfl, rfl⟩ := h
      exact k_new O F hd a hg hc hz kk
    · cases h
  | anewarray i =>
    obtain rfl : 3 = n := by simpa [rLen] using hn
    simp only [rIns] at h
    split at h
    · next k r =>
      split at h
      · next hh =>
        simp only [Option.some.injEq, Sum.inl.injEq, Prod.mk.injEq] at h
        obtain ⟨rfl, rfl, rfl, rfl, rfl, rfl⟩ := h
        exact k_anew O F hd a hh.1 hh.2.1 hh.2.2 hc hz kk
      · cases h
    · cases h
  | multianewarray i d =>
    match d, hd, hn, h with
    | 2, hd, hn, h =>
      obtain rfl : 4 = n := by simpa [rLen] using hn
      simp only [rIns] at h
      split at h
      · next k n2 r =>
        split at h
        · next hh =>
          simp only [Option.some.injEq, Sum.inl.injEq, Prod.mk.injEq] at h
          obtain ⟨rfl, rfl, rfl, rfl, rfl, rfl⟩ := h
          exact k_mna O F hd a hh.1 hh.2.1 hh.2.2.1 hh.2.2.2.1 hh.2.2.2.2 hc hz kk
        · cases h
      · cases h
    | 0, hd, hn, h => cases h
    | 1, hd, hn, h => cases h
    | d + 3, hd, hn, h => cases h
  | invokespecial i =>
    obtain rfl : 3 = n := by simpa [rLen] using hn
    simp only [rIns] at h
    split at h
    · next y hk =>
      split at h
      · next k r =>
        split at h
        · next hr => exact k_objInit O F hd a hk hr (fin2 h)
        · cases h
      · cases h
    · next y hk =>
      split at h
      · unfold rCallOf at h
        split at h
        · split at h
          · split at h
            · cases h
            · cases h
          · cases h
        · cases h
      · cases h
    · cases h
  | invokevirtual i =>
    simp only [rIns] at h
    split at h
    · split at h
      · unfold rCallOf at h
        split at h
        · split at h
          · split at h
            · cases h
            · cases h
          · cases h
        · cases h
      · cases h
    · cases h
  | invokestatic i =>
    obtain rfl : 3 = n := by simpa [rLen] using hn
    simp only [rIns] at h
    split at h
    · unfold rCallOf at h
      split at h
      · split at h
        · split at h
          · cases h
          · cases h
        · cases h
      · cases h
    · unfold rCallOf at h
      split at h
      · split at h
        · split at h
          · cases h
          · cases h
        · cases h
      · cases h
    · next y hk =>
      split at h
      · next n2 dp k1 sp k0 r =>
        split at h
        · next hr =>
          split at h
          · next M2 hM => exact k_copy O F hd a hk hr hM (fin2 h)
          · cases h
        · cases h
      · cases h
    · next y0 hk =>
      split at h
      · next y x r =>
        split at h
        · next hr => exact k_max O F hd a hk hr (by omega) (by omega) (fin2 h)
        · cases h
      · cases h
    · next y0 hk =>
      split at h
      · next y x r =>
        split at h
        · next hr => exact k_min O F hd a hk hr (by omega) (by omega) (fin2 h)
        · cases h
      · cases h
    · cases h
  | ireturn =>
    simp only [rIns] at h
    split at h
    · split at h
      · cases h
      · cases h
    · cases h
  | lreturn =>
    simp only [rIns] at h
    split at h
    · split at h
      · cases h
      · cases h
    · cases h
  | areturn =>
    simp only [rIns] at h
    split at h
    · split at h
      · cases h
      · cases h
    · cases h
  | return_ =>
    simp only [rIns] at h
    split at h
    · split at h
      · cases h
      · cases h
    · cases h
  | _ => cases h
end RNX
