/-! ONE INSTRUCTION, of the heap -/
theorem rFits_ok {t : Nat} {v : rv} {al : List Nat} {w : Value} {ty : FieldType} (h : rFits t v = true) (hv : rvV al v = some w) (h0 : t = 0 → ty = .int) (h1 : t = 1 → ty = .boolean) (h2 : t = 2 → (∃ n, ty = .object n) ∨ ∃ x, ty = .array x) : narrow ty w = w ∧ fits ty w = true := by
  unfold rFits at h
  split at h
  · cases hv
    rw [h0 rfl]
    exact ⟨rfl, rfl⟩
  · next x =>
    cases hv
    rw [h1 rfl]
    simp only [rBool, Bool.or_eq_true, decide_eq_true_eq] at h
    rcases h with rfl | rfl
    · exact ⟨rfl, rfl⟩
    · exact ⟨rfl, rfl⟩
  · next x =>
    obtain ⟨y, rfl, -⟩ := rvV_rf hv
    rcases h2 rfl with ⟨n, rfl⟩ | ⟨n, rfl⟩
    · cases y <;> exact ⟨rfl, rfl⟩
    · cases y <;> exact ⟨rfl, rfl⟩
  · cases h
section RHP
variable {G : rTab} {cn : Nat → String} {Ts nw : List Cond} {p : Program} {l : Launch} {e : Env} {R : Room} {s : State} {m : MethodId} {args : Array Value} {below : List Frame} {meth : Method} {c : Code} {H : Heap} {locs : List Loc} {cells slots : Nat} {Q : State → Prop}
variable {cc : ByteArray} {pc : Nat} {ls : Array Slot} {st : List Value} {D : va_G} {cl : List vw_C} {ct : Nat → ClassId} {A : Nat → Prop} {H0 : Heap} {al0 : List Nat} {own nL : Nat} {ret : Option FieldType} {ini : Bool} {ws : va_W} {L : List (Nat × rv)} {S : List rv} {M : List rEnt}
theorem k_getfield (O : rOK G cn Ts nw cl) (F : rFx cn Ts nw D cl ct p R s m args meth c own nL cc ret ini A H0) {i k ci j t : Nat} {fin nest : Bool} {fs : List rv} {v : rv} {r : List rv} (hd : decode cc pc = .ok (.getfield i, 3)) (a : rAt D cl ct A H0 al0 nL ws H locs ls st L (.inr (.inr (some k)) :: r) M)
    (hf : G.2.1 own i = some (ci, j, t, fin, nest)) (hM : M[k]? = some (.inr (.inr (ci, fs)))) (hj : fs[j]? = some v)
    (kk : rTo D cl ct A H0 al0 nL p l e R s m args below meth c cells slots Q (pc + 3) L (v :: r) M) : W p l e R s m args below meth c H locs cells slots Q (F0 m pc ls st) := by
  obtain ⟨hx, hb, hml, hown, hts, hK, hnw, -⟩ := F
  obtain ⟨C, T, N, ty, hc, hjN, hin, hty, hnm, hfin, hl0, hl1, -⟩ := O.1 own i ci j t fin nest hf
  obtain ⟨lv, h1, h2, h3, h4, h5, h6, h7, h8⟩ := a
  obtain ⟨ad, t2, rfl, hak, h3b⟩ := rRS_ref h3
  obtain ⟨q, hq, fs', rfl, hfs⟩ := rRM_at h4 hak hM
  obtain ⟨w, hw, hvw⟩ := rRS_get hfs hj
  have hkk := kk ws H locs ls (w :: t2) ⟨lv, h1, h2, rRS_mk hvw h3b, h4, h5, h6, h7, h8⟩
  cases nest with
  | false => exact va_get hx hb hts hin hown hK h5 k hq hc j hjN (hts _ (hl0 rfl).2) (fun _ h9 => h9) hw hd hkk
  | true =>
    obtain ⟨host, hh⟩ := hl1 rfl
    exact va_getN hx hb hts hin hown hK h5 k hq hc j hjN (va_Nw.use rfl (hnw _ hh)) (fun _ h9 => h9) hw hd hkk
theorem k_putfield (O : rOK G cn Ts nw cl) (F : rFx cn Ts nw D cl ct p R s m args meth c own nL cc ret ini A H0) {i k ci j t : Nat} {fin nest : Bool} {M' : List rEnt} {v : rv} {r : List rv} (hd : decode cc pc = .ok (.putfield i, 3)) (a : rAt D cl ct A H0 al0 nL ws H locs ls st L (v :: .inr (.inr (some k)) :: r) M)
    (hf : G.2.1 own i = some (ci, j, t, fin, nest)) (hft : rFits t v = true) (hfi : fin = true → ini = true ∧ nest = false) (hM : rPut M k ci j v = some M')
    (kk : rTo D cl ct A H0 al0 nL p l e R s m args below meth c cells slots Q (pc + 3) L r M') : W p l e R s m args below meth c H locs cells slots Q (F0 m pc ls st) := by
  obtain ⟨hx, hb, hml, hown, hts, hK, hnw, -, -, -, -, hini, -⟩ := F
  obtain ⟨C, T, N, ty, hc, hjN, hin, hty, hnm, hfin, hl0, hl1, t0, t1, t2⟩ := O.1 own i ci j t fin nest hf
  unfold rPut at hM
  split at hM
  · next c2 fs hMk =>
    split at hM
    · next hcj =>
      obtain ⟨rfl, hjl⟩ := hcj
      cases hM
      obtain ⟨lv, h1, h2, h3, h4, h5, h6, h7, h8⟩ := a
      obtain ⟨w, t3, rfl, hw, h3b⟩ := rRS_cons h3
      obtain ⟨ad, t4, rfl, hak, h3c⟩ := rRS_ref h3b
      obtain ⟨q, hq, fs', rfl, hfs⟩ := rRM_at h4 hak hMk
      obtain ⟨hn, hfit⟩ := rFits_ok hft hw t0 t1 t2
      have hjl' : j < fs'.length := by rw [rRS_len hfs]; exact hjl
      have hE : rRE ct (rAd ws) (.inr (.inr (c2, fs.set j v))) (.inr (c2, fs'.set j w)) := ⟨_, rfl, rRS_set hfs j hw⟩
      have hM2 := rRM_set h4 hq hE
      have hal := rAd_set (q' := .inr (c2, fs'.set j w)) hq
      have hkk : ∀ (H1 : Heap) (locs1 : List Loc), va_P D cl (ws.set k (ad, .inr (c2, fs'.set j w))) H1 → va_D A (ws.set k (ad, .inr (c2, fs'.set j w))) → va_S A H0 H1 locs1 → W p l e R s m args below meth c H1 locs1 cells slots Q (F0 m (pc + 3) ls t4) := fun H1 locs1 g1 g2 g3 => kk _ H1 locs1 ls t4 ⟨lv, h1, by rw [hal]; exact h2, by rw [hal]; exact h3c, hM2, g1, g2, g3, by rw [hal]; exact h8⟩
      cases nest with
      | true =>
        obtain ⟨host, hh⟩ := hl1 rfl
        have hff : fin = false := by
          cases hfb : fin with
          | false => rfl
          | true => exact absurd (hfi hfb).2 (by simp)
        exact va_putN hx hb hts hin ty hty hnm hown hK h5 h6 h7 k hq hc j hjN (va_Nw.use rfl (hnw _ hh)) (fun _ h9 => h9) (hfin.trans hff) (hty j hjN) hn hfit hjl' hd hkk
      | false =>
        cases hfb : fin with
        | false => exact va_put hx hb hts hin ty hty hnm hown hK h5 h6 h7 k hq hc j hjN (hts _ (hl0 rfl).2) (fun _ h9 => h9) (hfin.trans hfb) (hty j hjN) hn hfit hjl' hd hkk
        | true => exact va_putF hx hb hts hin ty hty hnm hown hK h5 h6 h7 k hq hc j hjN (hts _ (hl0 rfl).2) (fun _ h9 => h9) (hfin.trans hfb) (hini (hfi hfb).1) (hl0 rfl).1 (hty j hjN) hn hfit hjl' hd hkk
    · cases hM
  · cases hM
theorem k_iaload (F : rFx cn Ts nw D cl ct p R s m args meth c own nL cc ret ini A H0) {k n : Nat} {x : Int32} {f : Nat → Int32} {r : List rv} (hd : decode cc pc = .ok (.iaload, 1)) (a : rAt D cl ct A H0 al0 nL ws H locs ls st L (.inl x :: .inr (.inr (some k)) :: r) M) (hM : M[k]? = some (.inl (n, f))) (hin : rIn x n = true)
    (kk : rTo D cl ct A H0 al0 nL p l e R s m args below meth c cells slots Q (pc + 1) L (.inl (f x.toNatClampNeg) :: r) M) : W p l e R s m args below meth c H locs cells slots Q (F0 m pc ls st) := by
  obtain ⟨hx, hb, hml, hown, hts, hK, -⟩ := F
  obtain ⟨lv, h1, h2, h3, h4, h5, h6, h7, h8⟩ := a
  obtain ⟨t1, rfl, h3b⟩ := rRS_int h3
  obtain ⟨ad, t2, rfl, hak, h3c⟩ := rRS_ref h3b
  obtain ⟨q, hq, rfl⟩ := rRM_at h4 hak hM
  exact va_iald hx hb hK h5 k 0 hq rfl (rIn_in hin) hd (kk ws H locs ls _ ⟨lv, h1, h2, rRS_mk rfl h3c, h4, h5, h6, h7, h8⟩)
theorem k_iastore (F : rFx cn Ts nw D cl ct p R s m args meth c own nL cc ret ini A H0) {k n : Nat} {x v : Int32} {f : Nat → Int32} {r : List rv} (hd : decode cc pc = .ok (.iastore, 1)) (a : rAt D cl ct A H0 al0 nL ws H locs ls st L (.inl v :: .inl x :: .inr (.inr (some k)) :: r) M) (hM : M[k]? = some (.inl (n, f))) (hin : rIn x n = true)
    (kk : rTo D cl ct A H0 al0 nL p l e R s m args below meth c cells slots Q (pc + 1) L r (M.set k (.inl (n, upd f x.toNatClampNeg v)))) : W p l e R s m args below meth c H locs cells slots Q (F0 m pc ls st) := by
  obtain ⟨hx, hb, hml, hown, hts, hK, -⟩ := F
  obtain ⟨lv, h1, h2, h3, h4, h5, h6, h7, h8⟩ := a
  obtain ⟨t0, rfl, h3a⟩ := rRS_int h3
  obtain ⟨t1, rfl, h3b⟩ := rRS_int h3a
  obtain ⟨ad, t2, rfl, hak, h3c⟩ := rRS_ref h3b
  obtain ⟨q, hq, rfl⟩ := rRM_at h4 hak hM
  refine va_iast hx hb hK h5 h6 h7 k 0 hq rfl (rIn_in hin) hd (fun H1 locs1 g1 g2 g3 => ?_)
  have hal := rAd_set (q' := .inl (ct 0, n, .inl (upd f x.toNatClampNeg v))) hq
  exact kk _ H1 locs1 ls t2 ⟨lv, h1, by rw [hal]; exact h2, by rw [hal]; exact h3c, rRM_set h4 hq rfl, g1, g2, g3, by rw [hal]; exact h8⟩
theorem k_aaload (F : rFx cn Ts nw D cl ct p R s m args meth c own nL cc ret ini A H0) {k n : Nat} {x : Int32} {f : Nat → Option Nat} {r : List rv} (hd : decode cc pc = .ok (.aaload, 1)) (a : rAt D cl ct A H0 al0 nL ws H locs ls st L (.inl x :: .inr (.inr (some k)) :: r) M) (hM : M[k]? = some (.inr (.inl (1, n, f)))) (hin : rIn x n = true)
    (kk : rTo D cl ct A H0 al0 nL p l e R s m args below meth c cells slots Q (pc + 1) L (.inr (.inr (f x.toNatClampNeg)) :: r) M) : W p l e R s m args below meth c H locs cells slots Q (F0 m pc ls st) := by
  obtain ⟨hx, hb, hml, hown, hts, hK, -⟩ := F
  obtain ⟨lv, h1, h2, h3, h4, h5, h6, h7, h8⟩ := a
  obtain ⟨t1, rfl, h3b⟩ := rRS_int h3
  obtain ⟨ad, t2, rfl, hak, h3c⟩ := rRS_ref h3b
  obtain ⟨q, hq, g', rfl, hg⟩ := rRM_at h4 hak hM
  exact va_aldq hx hb hK h5 k 1 hq rfl (rIn_in hin) hd (kk ws H locs ls _ ⟨lv, h1, h2, rRS_mk (rvV_rfm (hg _)) h3c, h4, h5, h6, h7, h8⟩)
theorem k_aaload2 (F : rFx cn Ts nw D cl ct p R s m args meth c own nL cc ret ini A H0) {k n : Nat} {x : Int32} {f : Nat → Option Nat} {r : List rv} (hd : decode cc pc = .ok (.aaload, 1)) (a : rAt D cl ct A H0 al0 nL ws H locs ls st L (.inl x :: .inr (.inr (some k)) :: r) M) (hM : M[k]? = some (.inr (.inl (2, n, f)))) (hin : rIn x n = true)
    (kk : rTo D cl ct A H0 al0 nL p l e R s m args below meth c cells slots Q (pc + 1) L (.inr (.inr (f x.toNatClampNeg)) :: r) M) : W p l e R s m args below meth c H locs cells slots Q (F0 m pc ls st) := by
  obtain ⟨hx, hb, hml, hown, hts, hK, -⟩ := F
  obtain ⟨lv, h1, h2, h3, h4, h5, h6, h7, h8⟩ := a
  obtain ⟨t1, rfl, h3b⟩ := rRS_int h3
  obtain ⟨ad, t2, rfl, hak, h3c⟩ := rRS_ref h3b
  obtain ⟨q, hq, g', rfl, hg⟩ := rRM_at h4 hak hM
  have hin' := rIn_in hin
  have hlt : x.toNatClampNeg < n := Nat.not_le.mp fun q => hin' (Or.inr q)
  exact W.aald (v := va_rf (g' x.toNatClampNeg)) (ty := .array .int) hx hb (h5 k _ hq) ((hK.2 2 (ct 2, .array .int) rfl).1 n (fun j => va_rf (g' j))) rfl (fun q => by cases q) (by show ¬ (x < 0 ∨ (arrV _ _ _).slots.size ≤ _); rw [arrV_size]; exact hin') (by show (arrV _ _ _).slots[_]? = _; rw [arrV_read _ _ hlt]) rfl rfl hd (kk ws H locs ls _ ⟨lv, h1, h2, rRS_mk (rvV_rfm (hg _)) h3c, h4, h5, h6, h7, h8⟩)
theorem k_aastore (O : rOK G cn Ts nw cl) (F : rFx cn Ts nw D cl ct p R s m args meth c own nL cc ret ini A H0) {k v n : Nat} {x : Int32} {f : Nat → Option Nat} {r fs : List rv} (hd : decode cc pc = .ok (.aastore, 1)) (a : rAt D cl ct A H0 al0 nL ws H locs ls st L (.inr (.inr (some v)) :: .inl x :: .inr (.inr (some k)) :: r) M) (hM : M[k]? = some (.inr (.inl (1, n, f)))) (hMv : M[v]? = some (.inr (.inr (5, fs)))) (hin : rIn x n = true)
    (kk : rTo D cl ct A H0 al0 nL p l e R s m args below meth c cells slots Q (pc + 1) L r (M.set k (.inr (.inl (1, n, va_up f x.toNatClampNeg (some v)))))) : W p l e R s m args below meth c H locs cells slots Q (F0 m pc ls st) := by
  obtain ⟨hx, hb, hml, hown, hts, hK, -⟩ := F
  obtain ⟨T5, N5, h5c⟩ := O.2.2.2.2.2.2.1
  obtain ⟨lv, h1, h2, h3, h4, h5, h6, h7, h8⟩ := a
  obtain ⟨av, t0, rfl, hav, h3a⟩ := rRS_ref h3
  obtain ⟨t1, rfl, h3b⟩ := rRS_int h3a
  obtain ⟨ad, t2, rfl, hak, h3c⟩ := rRS_ref h3b
  obtain ⟨q, hq, g', rfl, hg⟩ := rRM_at h4 hak hM
  obtain ⟨qv, hqv, fv, rfl, hfv⟩ := rRM_at h4 hav hMv
  refine va_astq hx hb hK h5 h6 h7 k 1 v 5 (r := (sC, T5, N5)) hq rfl hqv h5c (rIn_in hin) hd (fun H1 locs1 g1 g2 g3 => ?_)
  have hal := rAd_set (q' := .inl (ct 1, n, .inr (.inr (.inr (.inr (va_up g' x.toNatClampNeg (some av))))))) hq
  refine kk _ H1 locs1 ls t2 ⟨lv, h1, by rw [hal]; exact h2, by rw [hal]; exact h3c, rRM_set h4 hq ⟨_, rfl, fun i => ?_⟩, g1, g2, g3, by rw [hal]; exact h8⟩
  by_cases hi : i = x.toNatClampNeg
  · subst hi
    rw [va_up_self, va_up_self]
    exact Or.inr ⟨v, av, rfl, hav, rfl⟩
  · rw [va_up_ne _ _ hi, va_up_ne _ _ hi]
    exact hg i
theorem k_alen (F : rFx cn Ts nw D cl ct p R s m args meth c own nL cc ret ini A H0) {k n : Nat} {f : Nat → Int32} {r : List rv} (hd : decode cc pc = .ok (.arraylength, 1)) (a : rAt D cl ct A H0 al0 nL ws H locs ls st L (.inr (.inr (some k)) :: r) M) (hM : M[k]? = some (.inl (n, f)))
    (kk : rTo D cl ct A H0 al0 nL p l e R s m args below meth c cells slots Q (pc + 1) L (.inl (Int32.ofNat n) :: r) M) : W p l e R s m args below meth c H locs cells slots Q (F0 m pc ls st) := by
  obtain ⟨hx, hb, hml, hown, hts, hK, -⟩ := F
  obtain ⟨lv, h1, h2, h3, h4, h5, h6, h7, h8⟩ := a
  obtain ⟨ad, t2, rfl, hak, h3c⟩ := rRS_ref h3
  obtain ⟨q, hq, rfl⟩ := rRM_at h4 hak hM
  exact va_alen hx hb hK h5 k 0 hq (ty := .int) rfl rfl hd (kk ws H locs ls _ ⟨lv, h1, h2, rRS_mk rfl h3c, h4, h5, h6, h7, h8⟩)
theorem k_newarray (O : rOK G cn Ts nw cl) (F : rFx cn Ts nw D cl ct p R s m args meth c own nL cc ret ini A H0) {n : Int32} {r : List rv} (hd : decode cc pc = .ok (.newarray .int, 2)) (a : rAt D cl ct A H0 al0 nL ws H locs ls st L (.inl n :: r) M) (hn : ¬ n < 0) (hN : n.toNatClampNeg ≤ 100000) (hc : cells + 1 ≤ R.cells) (hz : slots + n.toNatClampNeg ≤ R.slots)
    (kk : rTo D cl ct A H0 al0 nL p l e R s m args below meth c (cells + 1) (slots + n.toNatClampNeg) Q (pc + 2) L (.inr (.inr (some M.length)) :: r) (M ++ [.inl (n.toNatClampNeg, fun _ => 0)])) : W p l e R s m args below meth c H locs cells slots Q (F0 m pc ls st) := by
  obtain ⟨hx, hb, hml, hown, hts, hK, -, -, -, -, -, -, hA, -⟩ := F
  have harr := hts _ O.2.2.2.2.2.1
  obtain ⟨lv, h1, h2, h3, h4, h5, h6, h7, h8⟩ := a
  obtain ⟨t2, rfl, h3c⟩ := rRS_int h3
  refine va_newa (atype := .int) hx hb harr rfl hK h5 h6 h7 hA (N' := n.toNatClampNeg) (a0 := (n.toNatClampNeg, .inl (fun _ => 0))) (fun cA => rfl) hn rfl (by show n.toNatClampNeg * 4 ≤ 536870912; omega) hc hz hd (fun q cA H1 g0 g1 g2 g3 => ?_)
  have e1 := (g0.2 3 (cA, .int) rfl).2
  have e2 := (hK.2 0 (ct 0, .int) rfl).2
  have e3 : some cA = some (ct 0) := (show s.vm.findClass ("[" ++ FieldType.int.toString) = some cA from e1).symm.trans e2
  cases e3
  have hp : rAd ws <+: rAd (ws ++ [(q, .inl (ct 0, n.toNatClampNeg, .inl (fun _ => 0)))]) := by rw [rAd_app]; exact List.prefix_append _ _
  exact kk _ H1 locs ls _ ⟨lv, h1, rRL_pre hp h2, rRS_mk (rvV_mk (rAd_new h4.1)) (rRS_pre hp h3c), rRM_push h4 rfl, g1, g2, g3, h8.trans hp⟩
theorem k_new (O : rOK G cn Ts nw cl) (F : rFx cn Ts nw D cl ct p R s m args meth c own nL cc ret ini A H0) {i ci : Nat} {fs : List rv} (hd : decode cc pc = .ok (.new i, 3)) (a : rAt D cl ct A H0 al0 nL ws H locs ls st L S M) (hg : G.2.2.2.1 own i = some (ci, fs)) (hc : cells + 1 ≤ R.cells) (hz : slots + fs.length ≤ R.slots)
    (kk : rTo D cl ct A H0 al0 nL p l e R s m args below meth c (cells + 1) (slots + fs.length) Q (pc + 3) L (.inr (.inr (some M.length)) :: S) (M ++ [.inr (.inr (ci, fs))])) : W p l e R s m args below meth c H locs cells slots Q (F0 m pc ls st) := by
  obtain ⟨hx, hb, hml, hown, hts, hK, -, -, -, -, -, -, hA, -⟩ := F
  obtain ⟨C, T, N, ty, fv, hcl, hin, hty, w1, w2, w3, hlen, hrs, hdf⟩ := O.2.1 own i ci fs hg
  obtain ⟨lv, h1, h2, h3, h4, h5, h6, h7, h8⟩ := a
  rw [hlen] at hz kk
  refine va_new hx hb hts hin ty hty hown (hts _ w1) (hts _ w2) (hts _ w3) hK h5 h6 h7 hA hcl hdf hc hz hd (fun q H1 g1 g2 g3 => ?_)
  have hp : rAd ws <+: rAd (ws ++ [(q, .inr (ci, fv))]) := by rw [rAd_app]; exact List.prefix_append _ _
  exact kk _ H1 locs ls _ ⟨lv, h1, rRL_pre hp h2, rRS_mk (rvV_mk (rAd_new h4.1)) (rRS_pre hp h3), rRM_push h4 ⟨fv, rfl, hrs _⟩, g1, g2, g3, h8.trans hp⟩
theorem k_anew (O : rOK G cn Ts nw cl) (F : rFx cn Ts nw D cl ct p R s m args meth c own nL cc ret ini A H0) {i y : Nat} {n : Int32} {r : List rv} (hd : decode cc pc = .ok (.anewarray i, 3)) (a : rAt D cl ct A H0 al0 nL ws H locs ls st L (.inl n :: r) M) (hk : G.2.2.1 own i = some (6, y)) (hn : ¬ n < 0) (hN : n.toNatClampNeg ≤ 100000) (hc : cells + 1 ≤ R.cells) (hz : slots + n.toNatClampNeg ≤ R.slots)
    (kk : rTo D cl ct A H0 al0 nL p l e R s m args below meth c (cells + 1) (slots + n.toNatClampNeg) Q (pc + 3) L (.inr (.inr (some M.length)) :: r) (M ++ [.inr (.inl (1, n.toNatClampNeg, fun _ => none))])) : W p l e R s m args below meth c H locs cells slots Q (F0 m pc ls st) := by
  obtain ⟨hx, hb, hml, hown, hts, hK, -, hAO, -, -, -, -, hA, -⟩ := F
  have hcl := hts _ ((O.2.2.2.2.1 own i 6 y hk).2.2.2.2.2.2.1 rfl)
  obtain ⟨lv, h1, h2, h3, h4, h5, h6, h7, h8⟩ := a
  obtain ⟨t2, rfl, h3c⟩ := rRS_int h3
  refine va_newq hx hb hown hcl hAO hK h5 h6 h7 hA (N' := n.toNatClampNeg) hn rfl (by omega) hc hz hd (fun q cA H1 g0 g1 g2 g3 => ?_)
  obtain ⟨kA, comp, -, -, -, e1⟩ := (g0.2 3 (cA, .object sC) rfl).2
  obtain ⟨kA2, comp2, -, -, -, e2⟩ := (hK.2 1 (ct 1, .object sC) rfl).2
  have e3 : some cA = some (ct 1) := e1.symm.trans e2
  cases e3
  have hp : rAd ws <+: rAd (ws ++ [(q, .inl (ct 1, n.toNatClampNeg, .inr (.inr (.inr (.inr (fun _ => none))))))]) := by rw [rAd_app]; exact List.prefix_append _ _
  exact kk _ H1 locs ls _ ⟨lv, h1, rRL_pre hp h2, rRS_mk (rvV_mk (rAd_new h4.1)) (rRS_pre hp h3c), rRM_push h4 ⟨_, rfl, fun _ => Or.inl ⟨rfl, rfl⟩⟩, g1, g2, g3, h8.trans hp⟩
theorem k_objInit (O : rOK G cn Ts nw cl) (F : rFx cn Ts nw D cl ct p R s m args meth c own nL cc ret ini A H0) {i y k : Nat} {r : List rv} (hd : decode cc pc = .ok (.invokespecial i, 3)) (a : rAt D cl ct A H0 al0 nL ws H locs ls st L (.inr (.inr (some k)) :: r) M) (hk : G.2.2.1 own i = some (0, y)) (hr : rSum r ≤ 8)
    (kk : rTo D cl ct A H0 al0 nL p l e R s m args below meth c cells slots Q (pc + 3) L r M) : W p l e R s m args below meth c H locs cells slots Q (F0 m pc ls st) := by
  obtain ⟨hx, hb, hml, hown, hts, hK, -, -, -, -, -, -, -, hfr, hlo⟩ := F
  obtain ⟨w1, w2, w3⟩ := (O.2.2.2.2.1 own i 0 y hk).1 rfl
  obtain ⟨lv, h1, h2, h3, h4, h5, h6, h7, h8⟩ := a
  obtain ⟨ad, t2, rfl, hak, h3c⟩ := rRS_ref h3
  have hsum := rRS_sum h3c
  exact W.objInit hx hb hown (hts _ w1) (hts _ w2) (hts _ w3) rfl (by rw [hml]; exact h1.1) rfl hd hfr (by show 2 * 0 + _ + 12 ≤ R.locals; rw [hsum]; omega) (kk ws H locs ls t2 ⟨lv, h1, h2, h3c, h4, h5, h6, h7, h8⟩)
theorem k_copy (O : rOK G cn Ts nw cl) (F : rFx cn Ts nw D cl ct p R s m args meth c own nL cc ret ini A H0) {i y k0 k1 : Nat} {sp dp n : Int32} {r : List rv} {M' : List rEnt} (hd : decode cc pc = .ok (.invokestatic i, 3)) (a : rAt D cl ct A H0 al0 nL ws H locs ls st L (.inl n :: .inl dp :: .inr (.inr (some k1)) :: .inl sp :: .inr (.inr (some k0)) :: r) M) (hk : G.2.2.1 own i = some (5, y)) (hr : rSum r ≤ 8) (hM : rCopy M k0 k1 sp dp n = some M')
    (kk : rTo D cl ct A H0 al0 nL p l e R s m args below meth c cells slots Q (pc + 3) L r M') : W p l e R s m args below meth c H locs cells slots Q (F0 m pc ls st) := by
  obtain ⟨hx, hb, hml, hown, hts, hK, -, -, -, -, -, -, -, hfr, hlo⟩ := F
  obtain ⟨w1, w2, w3, w4⟩ := (O.2.2.2.2.1 own i 5 y hk).2.2.2.2.2.1 rfl
  unfold rCopy at hM
  split at hM
  · next n0 f n1 g hM0 hM1 =>
    split at hM
    · next hh =>
      obtain ⟨q1, q2, q3, q4, q5⟩ := hh
      cases hM
      obtain ⟨lv, h1, h2, h3, h4, h5, h6, h7, h8⟩ := a
      obtain ⟨t1, rfl, e1⟩ := rRS_int h3
      obtain ⟨t2, rfl, e2⟩ := rRS_int e1
      obtain ⟨a1, t3, rfl, ha1, e3⟩ := rRS_ref e2
      obtain ⟨t4, rfl, e4⟩ := rRS_int e3
      obtain ⟨a0, t5, rfl, ha0, e5⟩ := rRS_ref e4
      obtain ⟨x0, hx0, rfl⟩ := rRM_at h4 ha0 hM0
      obtain ⟨x1, hx1, rfl⟩ := rRM_at h4 ha1 hM1
      have hsum := rRS_sum e5
      have hnf : nativeFrameWords "java/lang/System" "arraycopy" 5 = 7 := by decide
      have hroom : (t5.map fun v => v.category).sum + (nativeFrameWords "java/lang/System" "arraycopy" 5 + 11) ≤ R.locals := by rw [hsum, hnf]; omega
      refine va_copyi hx hb (by rw [hml]; exact h1.1.symm) hown (hts _ w1) (hts _ w2) (hts _ w3) (hts _ w4) hK h5 h6 h7 k0 k1 0 0 hx0 hx1 (ty := .int) rfl rfl rfl q1 q2 q3 q4 q5 (fun _ _ => rfl) hfr hroom hd (fun H1 locs1 g1 g2 g3 => ?_)
      have hal := rAd_set (q' := .inl (ct 0, n1, .inl (va_cpy f g sp.toNatClampNeg dp.toNatClampNeg n.toNatClampNeg))) hx1
      exact kk _ H1 locs1 ls t5 ⟨lv, h1, by rw [hal]; exact h2, by rw [hal]; exact e5, rRM_set h4 hx1 rfl, g1, g2, g3, by rw [hal]; exact h8⟩
    · cases hM
  · cases hM
theorem k_max (O : rOK G cn Ts nw cl) (F : rFx cn Ts nw D cl ct p R s m args meth c own nL cc ret ini A H0) {i y0 : Nat} {x y : Int32} {r : List rv} (hd : decode cc pc = .ok (.invokestatic i, 3)) (a : rAt D cl ct A H0 al0 nL ws H locs ls st L (.inl y :: .inl x :: r) M) (hk : G.2.2.1 own i = some (8, y0)) (hr : rSum r ≤ 8) (hc : cells ≤ R.cells) (hz : slots ≤ R.slots)
    (kk : rTo D cl ct A H0 al0 nL p l e R s m args below meth c cells slots Q (pc + 3) L (.inl (if x < y then y else x) :: r) M) : W p l e R s m args below meth c H locs cells slots Q (F0 m pc ls st) := by
  obtain ⟨hx, hb, hml, hown, hts, hK, -, -, -, -, -, -, -, hfr, hlo⟩ := F
  obtain ⟨w1, w2, w3, w4⟩ := (O.2.2.2.2.1 own i 8 y0 hk).2.2.2.2.2.2.2.2.1 rfl
  obtain ⟨lv, h1, h2, h3, h4, h5, h6, h7, h8⟩ := a
  obtain ⟨t1, rfl, e1⟩ := rRS_int h3
  obtain ⟨t2, rfl, e2⟩ := rRS_int e1
  have hsum := rRS_sum e2
  exact va_mmax hx hb (by rw [hml]; exact h1.1.symm) hown (hts _ w1) (hts _ w2) (hts _ w3) (hts _ w4) hfr (by rw [hsum]; omega) hc hz hd (kk ws H locs ls _ ⟨lv, h1, h2, rRS_mk rfl e2, h4, h5, h6, h7, h8⟩)
theorem k_min (O : rOK G cn Ts nw cl) (F : rFx cn Ts nw D cl ct p R s m args meth c own nL cc ret ini A H0) {i y0 : Nat} {x y : Int32} {r : List rv} (hd : decode cc pc = .ok (.invokestatic i, 3)) (a : rAt D cl ct A H0 al0 nL ws H locs ls st L (.inl y :: .inl x :: r) M) (hk : G.2.2.1 own i = some (9, y0)) (hr : rSum r ≤ 8) (hc : cells ≤ R.cells) (hz : slots ≤ R.slots)
    (kk : rTo D cl ct A H0 al0 nL p l e R s m args below meth c cells slots Q (pc + 3) L (.inl (if y < x then y else x) :: r) M) : W p l e R s m args below meth c H locs cells slots Q (F0 m pc ls st) := by
  obtain ⟨hx, hb, hml, hown, hts, hK, -, -, -, -, -, -, -, hfr, hlo⟩ := F
  obtain ⟨w1, w2, w3, w4⟩ := (O.2.2.2.2.1 own i 9 y0 hk).2.2.2.2.2.2.2.2.2 rfl
  obtain ⟨lv, h1, h2, h3, h4, h5, h6, h7, h8⟩ := a
  obtain ⟨t1, rfl, e1⟩ := rRS_int h3
  obtain ⟨t2, rfl, e2⟩ := rRS_int e1
  have hsum := rRS_sum e2
  exact va_mmin hx hb (by rw [hml]; exact h1.1.symm) hown (hts _ w1) (hts _ w2) (hts _ w3) (hts _ w4) hfr (by rw [hsum]; omega) hc hz hd (kk ws H locs ls _ ⟨lv, h1, h2, rRS_mk rfl e2, h4, h5, h6, h7, h8⟩)
end RHP
