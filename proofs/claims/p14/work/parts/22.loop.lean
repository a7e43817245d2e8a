/-! the law's loop and its start -/
theorem nI_sub4 {L t : Nat} (hL : L ≤ 4000) (ht : t ≤ 4000) : (Int32.ofNat L - 4 < nI t) ↔ L < t + 4 := by
  have h1 : (Int32.ofNat L - 4).toInt = (L : Int) - 4 := by
    have := pk_sub_toInt (a := L) (b := 4) (by omega) (by omega)
    exact this
  have h2 : (nI t).toInt = (t : Int) := nI_toInt (by omega)
  rw [Int32.lt_iff_toInt_lt, h1, h2]
  omega
section LWL
variable {p : Program} {l : Launch} {e : Env} {s : State} {m : MethodId} {below : List Frame} {meth : Method} {c : Code} {b L : Nat} {xs : Nat → Int32} {D : va_G} {ct : Nat → ClassId}
set_option maxHeartbeats 4000000 in
theorem lw_loop (F : lwF p s m meth c b L xs D ct) (hL : L ≤ 2048) {I : Nat → List rEnt → Prop} {kx km ax am : Nat} (hI : ∀ k M, I (k + 1) M → lwAll kx km (I k) M) (hmono : ∀ k M, I (k + 1) M → I k M) :
    ∀ (k t : Nat) (M : List rEnt) (ws : va_W) (H : Heap) (locs : List Loc) (ls : Array Slot), L < t + 4 * (k + 1) → t ≤ L + 4 → I k M → lwM D ct s M ws H locs → lwL ls b ax am (nI t) → (rAd ws)[kx]? = some ax → (rAd ws)[km]? = some am → lwW p l e s m below meth c b H locs 18 ls [] := by
  have hx := F.1
  have hb := F.2.1
  obtain ⟨-, -, hr, hml, hown, hts, hX, hbl, hlk, hK, hnw, hAO, hAOA⟩ := id F
  intro k
  induction k with
  | zero =>
    intro t M ws H locs ls h1 h2 hIk hM hl hax ham
    refine lv_iload_n hx hb dL_18 rfl (lv_at hl 3 rfl) ?_
    refine lv_aload_n hx hb dL_19 rfl (lv_at hl 0 rfl) ?_
    refine va_slen hx hb hX hbl (A := lwA s) (Nat.not_le.mpr hbl) hM.2.2.2 dL_20 ?_
    refine lv_iconst (v := 4) hx hb dL_21 (by decide) ?_
    refine lv_isub hx hb dL_22 ?_
    refine lv_icmp_gt (tgt := 776) hx hb dL_23 (by decide) (fun _ => ?_) (fun q => absurd ((nI_sub4 (by omega) (by omega)).mpr (by omega)) q)
    refine lv_iconst (v := 1) hx hb dL_776 (by decide) ?_
    refine va_forget (fun q hq => hM.2.2.2.2.2 q hq) ?_
    exact lw_ret hx hb hr hlk dL_777
  | succ k ih =>
    intro t M ws H locs ls h1 h2 hIk hM hl hax ham
    refine lv_iload_n hx hb dL_18 rfl (lv_at hl 3 rfl) ?_
    refine lv_aload_n hx hb dL_19 rfl (lv_at hl 0 rfl) ?_
    refine va_slen hx hb hX hbl (A := lwA s) (Nat.not_le.mpr hbl) hM.2.2.2 dL_20 ?_
    refine lv_iconst (v := 4) hx hb dL_21 (by decide) ?_
    refine lv_isub hx hb dL_22 ?_
    refine lv_icmp_gt (tgt := 776) hx hb dL_23 (by decide) (fun _ => ?_) (fun q => ?_)
    · refine lv_iconst (v := 1) hx hb dL_776 (by decide) ?_
      refine va_forget (fun q hq => hM.2.2.2.2.2 q hq) ?_
      exact lw_ret hx hb hr hlk dL_777
    · have ht : t + 3 < L := by
        rcases Nat.lt_or_ge (t + 3) L with z | z
        · exact z
        · exact absurd ((nI_sub4 (by omega) (by omega)).mpr (by omega)) q
      have hall := fun o yx ym ar ho => hI k M hIk o yx ym ar ho (xs (t + 1)) (xs (t + 2)) (xs (t + 3))
      have inc : ∀ (M2 : List rEnt), I k M2 → ∀ (ws2 : va_W) (H2 : Heap) (locs2 : List Loc), lwM D ct s M2 ws2 H2 locs2 → rAd ws <+: rAd ws2 → lwW p l e s m below meth c b H2 locs2 770 ls [] := by
        intro M2 hI2 ws2 H2 locs2 hM2 hp2
        have hax2 : (rAd ws2)[kx]? = some ax := by
          obtain ⟨z, hz⟩ := hp2
          rw [← hz, List.getElem?_append_left (List.getElem?_eq_some_iff.mp hax).1]
          exact hax
        have ham2 : (rAd ws2)[km]? = some am := by
          obtain ⟨z, hz⟩ := hp2
          rw [← hz, List.getElem?_append_left (List.getElem?_eq_some_iff.mp ham).1]
          exact ham
        have e4 : nI t + Int32.ofInt 4 = nI (t + 4) := nI_add t 4
        refine lv_iinc (v := nI (t + 4)) (lv' := [(3, .int (nI (t + 4))), (0, .ref b), (1, .ref ax), (2, .ref am)]) hx hb dL_770 hl (k := 3) rfl e4 (by decide) rfl (fun ls2 hl2 => ?_)
        refine lv_goto (tgt := 18) hx hb dL_773 (by decide) ?_
        exact ih (t + 4) M2 ws2 H2 locs2 ls2 (by omega) (by omega) hI2 hM2 (lv_sub hl2 [1, 2, 3, 0] rfl) hax2 ham2
      refine lv_aload_n hx hb dL_26 rfl (lv_at hl 0 rfl) ?_
      refine lv_iload_n hx hb dL_27 rfl (lv_at hl 3 rfl) ?_
      refine va_sld hx hb hX hbl (A := lwA s) (Nat.not_le.mpr hbl) hM.2.2.2 (vp_in_nI (show t < L by omega) (by omega)) dL_28 ?_
      refine lv_bipush (v := 31) hx hb dL_29 (by decide) ?_
      refine lv_iand hx hb dL_31 ?_
      generalize xs (nI t).toNatClampNeg &&& 31 = x
      rcases (show x.toInt < 0 ∨ 25 < x.toInt ∨ ∃ o : Nat, o < 26 ∧ x.toInt = (o : Int) from by
        by_cases q1 : x.toInt < 0
        · exact Or.inl q1
        · by_cases q2 : 25 < x.toInt
          · exact Or.inr (Or.inl q2)
          · exact Or.inr (Or.inr ⟨x.toInt.toNat, by omega, by omega⟩)) with q1 | q2 | ⟨o, ho, he⟩
      · exact lv_tableOut (tgt := 770) hx hb dL_32 (Or.inl q1) (by decide) (inc M (hmono k M hIk) ws H locs hM (List.prefix_refl _))
      · exact lv_tableOut (tgt := 770) hx hb dL_32 (Or.inr q2) (by decide) (inc M (hmono k M hIk) ws H locs hM (List.prefix_refl _))
      · match o, ho, he with
        | 0, _, he =>
          obtain ⟨M2, hg, hJ⟩ := hall 0 71 126 1 rfl
          exact lv_tableIn hx hb dL_32 (by omega) (by omega) (off := 120) (tgt := 152) (by rw [he]; rfl) (by decide) (lwc_0 F hM hl (by omega) ht hax ham hg (fun ws2 H2 locs2 hM2 hp2 => inc M2 hJ ws2 H2 locs2 hM2 hp2))
        | 1, _, he =>
          obtain ⟨M2, hg, hJ⟩ := hall 1 73 129 0 rfl
          exact lv_tableIn hx hb dL_32 (by omega) (by omega) (off := 143) (tgt := 175) (by rw [he]; rfl) (by decide) (lwc_1 F hM hl (by omega) ht hax ham hg (fun ws2 H2 locs2 hM2 hp2 => inc M2 hJ ws2 H2 locs2 hM2 hp2))
        | 2, _, he =>
          obtain ⟨M2, hg, hJ⟩ := hall 2 75 161 1 rfl
          exact lv_tableIn hx hb dL_32 (by omega) (by omega) (off := 156) (tgt := 188) (by rw [he]; rfl) (by decide) (lwc_2 F hM hl (by omega) ht hax ham hg (fun ws2 H2 locs2 hM2 hp2 => inc M2 hJ ws2 H2 locs2 hM2 hp2))
        | 3, _, he =>
          obtain ⟨M2, hg, hJ⟩ := hall 3 79 162 0 rfl
          exact lv_tableIn hx hb dL_32 (by omega) (by omega) (off := 179) (tgt := 211) (by rw [he]; rfl) (by decide) (lwc_3 F hM hl (by omega) ht hax ham hg (fun ws2 H2 locs2 hM2 hp2 => inc M2 hJ ws2 H2 locs2 hM2 hp2))
        | 4, _, he =>
          obtain ⟨M2, hg, hJ⟩ := hall 4 80 163 2 rfl
          exact lv_tableIn hx hb dL_32 (by omega) (by omega) (off := 192) (tgt := 224) (by rw [he]; rfl) (by decide) (lwc_4 F hM hl (by omega) ht hax ham hg (fun ws2 H2 locs2 hM2 hp2 => inc M2 hJ ws2 H2 locs2 hM2 hp2))
        | 5, _, he =>
          obtain ⟨M2, hg, hJ⟩ := hall 5 83 172 3 rfl
          exact lv_tableIn hx hb dL_32 (by omega) (by omega) (off := 225) (tgt := 257) (by rw [he]; rfl) (by decide) (lwc_5 F hM hl (by omega) ht hax ham hg (fun ws2 H2 locs2 hM2 hp2 => inc M2 hJ ws2 H2 locs2 hM2 hp2))
        | 6, _, he =>
          obtain ⟨M2, hg, hJ⟩ := hall 6 84 173 1 rfl
          exact lv_tableIn hx hb dL_32 (by omega) (by omega) (off := 268) (tgt := 300) (by rw [he]; rfl) (by decide) (lwc_6 F hM hl (by omega) ht hax ham hg (fun ws2 H2 locs2 hM2 hp2 => inc M2 hJ ws2 H2 locs2 hM2 hp2))
        | 7, _, he =>
          obtain ⟨M2, hg, hJ⟩ := hall 7 85 174 1 rfl
          exact lv_tableIn hx hb dL_32 (by omega) (by omega) (off := 291) (tgt := 323) (by rw [he]; rfl) (by decide) (lwc_7 F hM hl (by omega) ht hax ham hg (fun ws2 H2 locs2 hM2 hp2 => inc M2 hJ ws2 H2 locs2 hM2 hp2))
        | 8, _, he =>
          obtain ⟨M2, hg, hJ⟩ := hall 8 86 175 1 rfl
          exact lv_tableIn hx hb dL_32 (by omega) (by omega) (off := 314) (tgt := 346) (by rw [he]; rfl) (by decide) (lwc_8 F hM hl (by omega) ht hax ham hg (fun ws2 H2 locs2 hM2 hp2 => inc M2 hJ ws2 H2 locs2 hM2 hp2))
        | 9, _, he =>
          obtain ⟨M2, hg, hJ⟩ := hall 9 87 176 0 rfl
          exact lv_tableIn hx hb dL_32 (by omega) (by omega) (off := 337) (tgt := 369) (by rw [he]; rfl) (by decide) (lwc_9 F hM hl (by omega) ht hax ham hg (fun ws2 H2 locs2 hM2 hp2 => inc M2 hJ ws2 H2 locs2 hM2 hp2))
        | 10, _, he =>
          obtain ⟨M2, hg, hJ⟩ := hall 10 88 177 1 rfl
          exact lv_tableIn hx hb dL_32 (by omega) (by omega) (off := 350) (tgt := 382) (by rw [he]; rfl) (by decide) (lwc_10 F hM hl (by omega) ht hax ham hg (fun ws2 H2 locs2 hM2 hp2 => inc M2 hJ ws2 H2 locs2 hM2 hp2))
        | 11, _, he =>
          obtain ⟨M2, hg, hJ⟩ := hall 11 92 180 2 rfl
          exact lv_tableIn hx hb dL_32 (by omega) (by omega) (off := 373) (tgt := 405) (by rw [he]; rfl) (by decide) (lwc_11 F hM hl (by omega) ht hax ham hg (fun ws2 H2 locs2 hM2 hp2 => inc M2 hJ ws2 H2 locs2 hM2 hp2))
        | 12, _, he =>
          obtain ⟨M2, hg, hJ⟩ := hall 12 93 181 2 rfl
          exact lv_tableIn hx hb dL_32 (by omega) (by omega) (off := 406) (tgt := 438) (by rw [he]; rfl) (by decide) (lwc_12 F hM hl (by omega) ht hax ham hg (fun ws2 H2 locs2 hM2 hp2 => inc M2 hJ ws2 H2 locs2 hM2 hp2))
        | 13, _, he =>
          obtain ⟨M2, hg, hJ⟩ := hall 13 95 182 1 rfl
          exact lv_tableIn hx hb dL_32 (by omega) (by omega) (off := 439) (tgt := 471) (by rw [he]; rfl) (by decide) (lwc_13 F hM hl (by omega) ht hax ham hg (fun ws2 H2 locs2 hM2 hp2 => inc M2 hJ ws2 H2 locs2 hM2 hp2))
        | 14, _, he =>
          obtain ⟨M2, hg, hJ⟩ := hall 14 96 185 2 rfl
          exact lv_tableIn hx hb dL_32 (by omega) (by omega) (off := 462) (tgt := 494) (by rw [he]; rfl) (by decide) (lwc_14 F hM hl (by omega) ht hax ham hg (fun ws2 H2 locs2 hM2 hp2 => inc M2 hJ ws2 H2 locs2 hM2 hp2))
        | 15, _, he =>
          obtain ⟨M2, hg, hJ⟩ := hall 15 98 189 1 rfl
          exact lv_tableIn hx hb dL_32 (by omega) (by omega) (off := 495) (tgt := 527) (by rw [he]; rfl) (by decide) (lwc_15 F hM hl (by omega) ht hax ham hg (fun ws2 H2 locs2 hM2 hp2 => inc M2 hJ ws2 H2 locs2 hM2 hp2))
        | 16, _, he =>
          obtain ⟨M2, hg, hJ⟩ := hall 16 99 190 1 rfl
          exact lv_tableIn hx hb dL_32 (by omega) (by omega) (off := 518) (tgt := 550) (by rw [he]; rfl) (by decide) (lwc_16 F hM hl (by omega) ht hax ham hg (fun ws2 H2 locs2 hM2 hp2 => inc M2 hJ ws2 H2 locs2 hM2 hp2))
        | 17, _, he =>
          obtain ⟨M2, hg, hJ⟩ := hall 17 100 191 1 rfl
          exact lv_tableIn hx hb dL_32 (by omega) (by omega) (off := 541) (tgt := 573) (by rw [he]; rfl) (by decide) (lwc_17 F hM hl (by omega) ht hax ham hg (fun ws2 H2 locs2 hM2 hp2 => inc M2 hJ ws2 H2 locs2 hM2 hp2))
        | 18, _, he =>
          obtain ⟨M2, hg, hJ⟩ := hall 18 102 194 1 rfl
          exact lv_tableIn hx hb dL_32 (by omega) (by omega) (off := 564) (tgt := 596) (by rw [he]; rfl) (by decide) (lwc_18 F hM hl (by omega) ht hax ham hg (fun ws2 H2 locs2 hM2 hp2 => inc M2 hJ ws2 H2 locs2 hM2 hp2))
        | 19, _, he =>
          obtain ⟨M2, hg, hJ⟩ := hall 19 104 197 1 rfl
          exact lv_tableIn hx hb dL_32 (by omega) (by omega) (off := 587) (tgt := 619) (by rw [he]; rfl) (by decide) (lwc_19 F hM hl (by omega) ht hax ham hg (fun ws2 H2 locs2 hM2 hp2 => inc M2 hJ ws2 H2 locs2 hM2 hp2))
        | 20, _, he =>
          obtain ⟨M2, hg, hJ⟩ := hall 20 105 198 1 rfl
          exact lv_tableIn hx hb dL_32 (by omega) (by omega) (off := 610) (tgt := 642) (by rw [he]; rfl) (by decide) (lwc_20 F hM hl (by omega) ht hax ham hg (fun ws2 H2 locs2 hM2 hp2 => inc M2 hJ ws2 H2 locs2 hM2 hp2))
        | 21, _, he =>
          obtain ⟨M2, hg, hJ⟩ := hall 21 106 199 0 rfl
          exact lv_tableIn hx hb dL_32 (by omega) (by omega) (off := 633) (tgt := 665) (by rw [he]; rfl) (by decide) (lwc_21 F hM hl (by omega) ht hax ham hg (fun ws2 H2 locs2 hM2 hp2 => inc M2 hJ ws2 H2 locs2 hM2 hp2))
        | 22, _, he =>
          obtain ⟨M2, hg, hJ⟩ := hall 22 107 200 3 rfl
          exact lv_tableIn hx hb dL_32 (by omega) (by omega) (off := 646) (tgt := 678) (by rw [he]; rfl) (by decide) (lwc_22 F hM hl (by omega) ht hax ham hg (fun ws2 H2 locs2 hM2 hp2 => inc M2 hJ ws2 H2 locs2 hM2 hp2))
        | 23, _, he =>
          obtain ⟨M2, hg, hJ⟩ := hall 23 110 135 0 rfl
          exact lv_tableIn hx hb dL_32 (by omega) (by omega) (off := 689) (tgt := 721) (by rw [he]; rfl) (by decide) (lwc_23 F hM hl (by omega) ht hax ham hg (fun ws2 H2 locs2 hM2 hp2 => inc M2 hJ ws2 H2 locs2 hM2 hp2))
        | 24, _, he =>
          obtain ⟨M2, hg, hJ⟩ := hall 24 111 136 0 rfl
          exact lv_tableIn hx hb dL_32 (by omega) (by omega) (off := 702) (tgt := 734) (by rw [he]; rfl) (by decide) (lwc_24 F hM hl (by omega) ht hax ham hg (fun ws2 H2 locs2 hM2 hp2 => inc M2 hJ ws2 H2 locs2 hM2 hp2))
        | 25, _, he =>
          obtain ⟨M2, hg, hJ⟩ := hall 25 112 206 1 rfl
          exact lv_tableIn hx hb dL_32 (by omega) (by omega) (off := 715) (tgt := 747) (by rw [he]; rfl) (by decide) (lwc_25 F hM hl (by omega) ht hax ham hg (fun ws2 H2 locs2 hM2 hp2 => inc M2 hJ ws2 H2 locs2 hM2 hp2))
        | o + 26, ho, _ => exact absurd ho (by omega)
end LWL
section LWS
variable {p : Program} {l : Launch} {e : Env} {s : State} {m : MethodId} {below : List Frame} {meth : Method} {c : Code} {b L : Nat} {xs : Nat → Int32} {D : va_G} {ct : Nat → ClassId}
def rInst : List Nat := [366, 309, 377, 155, 149, 194, 340, 119, 111, 863]
set_option maxRecDepth 100000 in
theorem rInst_ok : (List.range rCl.length).all (fun k => match rCl[k]? with | some (C, _, N) => rEq (rInst.getD k 0) (.instantiable C N) | none => false) = true := by decide +kernel
set_option maxRecDepth 100000 in
theorem rAO_ok : rEq 193 (.arrayOver (.object sC)) = true ∧ rEq 391 (.arrayOver (.array .int)) = true := by decide +kernel
theorem lw_known (hts : ∀ w ∈ lw_tbl, w.before #[Value.ref b] s = true) : ∃ (D : va_G) (ct : Nat → ClassId), va_K D rCl (rTy ct) s ∧ (∀ w ∈ rNw, va_Nw w s) ∧ va_AO sC s ∧ va_AOA .int s := by
  have htr : ∀ w ∈ rT, w.before #[Value.ref b] s = true := fun w hw => hts w (List.mem_filter.mp hw).1
  have hc : ∀ k : Nat, ∃ (cC : ClassId) (iS : Nat → Nat), ∀ q : vw_C, rCl[k]? = some q → u_Kn s q.1 q.2.1 q.2.2 cC iS := by
    intro k
    cases hk : rCl[k]? with
    | none => exact ⟨0, fun _ => 0, fun q hq => by cases hq⟩
    | some q =>
      obtain ⟨C, T, N⟩ := q
      have h1 := List.all_eq_true.mp rInst_ok k (List.mem_range.mpr (List.getElem?_eq_some_iff.mp hk).1)
      rw [hk] at h1
      obtain ⟨cC, iS, h2⟩ := u_known htr (rCl_ws hk) (htr _ (rEq_mem h1 rfl))
      exact ⟨cC, iS, fun q hq => by cases hq; exact h2⟩
  have hAO : va_AO sC s := va_AO.of (hts _ (List.mem_of_getElem? (of_decide_eq_true rAO_ok.1)))
  have hAOA : va_AOA .int s := va_AOA.of (hts _ (List.mem_of_getElem? (of_decide_eq_true rAO_ok.2)))
  have hAC := htr _ rOK_ok.2.2.2.2.2.1
  obtain ⟨c0, k0, comp0, a1, a2, a3⟩ := Cond.arrayClass_spec hAC
  obtain ⟨comp1, c1, k1, b1, b2, b3, b4, b5⟩ := Cond.arrayOver_spec hAO
  obtain ⟨comp2, c2, k2, d1, d2, d3, d4, d5⟩ := rOver_spec hAOA
  refine ⟨(fun k => (hc k).choose, fun k => (hc k).choose_spec.choose), fun t => if t = 0 then c0 else if t = 1 then c1 else c2, ⟨fun k q hk => (hc k).choose_spec.choose_spec q hk, fun k q hk => ?_⟩, fun w hw => ?_, hAO, hAOA⟩
  · match k, hk with
    | 0, hk =>
      cases hk
      exact ⟨fun N z => ⟨(fun q hq => by cases hq), k0, a2, comp0, a3⟩, a1⟩
    | 1, hk =>
      cases hk
      exact ⟨fun N z => ⟨(fun q hq => by cases hq), k1, b3, comp1, b4⟩, k1, comp1, b3, b4, b1, b5⟩
    | 2, hk =>
      cases hk
      exact ⟨fun N z => ⟨(fun q hq => by cases hq), k2, d3, comp2, d4⟩, d5⟩
    | k + 3, hk => simp [rTy] at hk
  · obtain ⟨i, hi⟩ := List.getElem?_of_mem hw
    have hlen := rNw_in.2
    have hlt := (List.getElem?_eq_some_iff.mp hi).1
    obtain ⟨pl, hpl⟩ : ∃ pl, rNwP[i]? = some pl := ⟨_, List.getElem?_eq_getElem (by rw [← hlen]; exact hlt)⟩
    have hz : (w, pl) ∈ rNw.zip rNwP := List.mem_of_getElem? (i := i) (by rw [List.getElem?_zip_eq_some]; exact ⟨hi, hpl⟩)
    have h9 := List.all_eq_true.mp rNw_in.1 _ hz
    have hb9 := hts w (List.mem_of_getElem? (of_decide_eq_true h9))
    rcases isNest_ok (List.all_eq_true.mp rNw_nest w hw) with ⟨x1, x2, x3, x4, x5, x6, rfl⟩ | ⟨x1, x2, x3, x4, rfl⟩
    · exact va_Nw.of rfl hb9
    · exact va_Nw.of rfl hb9
/-- new C() in the law: the cell, then its constructor -/
theorem lw_make (F : lwF p s m meth c b L xs D ct) {Q : State → Prop} {M : List rEnt} {ws : va_W} {H : Heap} {locs : List Loc} {ls : Array Slot} (hls : ls.size = 4) (hM : lwM D ct s M ws H locs) {cells slots pc i i2 ci y N d uc uz nL : Nat} {fs : List rv} {nm : MethodName} {cc : ByteArray} {M2 : List rEnt} (hn : rG.2.2.2.1 10 i = some (ci, fs)) (hG : rG.1 y = some (ci, nm, cc, nL, none, 1, false)) (hnm : nm.name = "<init>") (hlink : Cond.methodLink "GoalsInAQueueLaw" i2 nm ∈ rT) (hd18 : d ≤ 18)
    (hrun : rRun rG N d y [.inr (.inr (some M.length))] (M ++ [.inr (.inr (ci, fs))]) = some (none, M2, uc, uz)) (hc : cells + 1 + uc ≤ 600000) (hz : slots + fs.length + uz ≤ 7302250) (d0 : decode code pc = .ok (.new i, 3)) (d1 : decode code (pc + 3) = .ok (.dup, 1)) (d2 : decode code (pc + 3 + 1) = .ok (.invokespecial i2, 3))
    (kk : ∀ (ax : Nat) (ws2 : va_W) (H2 : Heap) (locs2 : List Loc), lwM D ct s M2 ws2 H2 locs2 → rAd ws <+: rAd ws2 → (rAd ws2)[M.length]? = some ax → W p l e room_1 s m #[Value.ref b] below meth c H2 locs2 (cells + 1 + uc) (slots + fs.length + uz) Q (F0 m (pc + 3 + 1 + 3) ls [.ref ax])) : W p l e room_1 s m #[Value.ref b] below meth c H locs cells slots Q (F0 m pc ls []) := by
  obtain ⟨hx, hb, hr, hml, hown, hts, hX, hbl, hlk, hK, hnw, hAO, hAOA⟩ := F
  obtain ⟨h1, h2, h3, h4⟩ := hM
  obtain ⟨C, T, N9, ty, fv, hcl, hin, hty, w1, w2, w3, hlen, hrs, hdf⟩ := rOKn_ok 10 i ci fs hn
  obtain ⟨m1, m2, m3, m4, m5, m6, m7, m8, -⟩ := rOKm_ok _ _ _ _ _ _ _ _ hG
  obtain ⟨m9, m10, -⟩ := m8 rfl
  have hNW := rOK_ok.2.2.2.2.2.2.2.2
  rw [hlen] at hz kk
  have w1' : Cond.classLink "GoalsInAQueueLaw" i C ∈ rT := w1
  refine va_new hx hb hts hin ty hty hown (hts _ w1') (hts _ w2) (hts _ w3) hK h2 h3 h4 (fun _ h => h) hcl hdf (by rw [lwRoom.2.1]; omega) (by rw [lwRoom.2.2.1]; omega) d0 (fun q H1 g1 g2 g3 => ?_)
  have hp : rAd ws <+: rAd (ws ++ [(q, .inr (ci, fv))]) := by rw [rAd_app]; exact List.prefix_append _ _
  have hM1 : rRM ct (M ++ [.inr (.inr (ci, fs))]) (ws ++ [(q, .inr (ci, fv))]) := rRM_push h1 ⟨fv, rfl, hrs _⟩
  have haq : (rAd (ws ++ [(q, .inr (ci, fv))]))[M.length]? = some q := rAd_new h1.1
  refine lv_dup hx hb d1 rfl ?_
  generalize hwq : ws ++ [(q, .inr (ci, fv))] = wq at g1 g2 hp hM1 haq
  have hMet := rMet rOK_ok l D ct N d y _ _ _ M2 uc uz hrun _ _ _ _ _ _ _ hG wq H1.size [.ref q] hM1 (rRS_mk (rvV_mk haq) rRS_0)
  have hpar : (parseMethodDescriptor nm.desc).map (fun d => d.parameters.length) = some 0 := by
    cases hpd : parseMethodDescriptor nm.desc with
    | none => rw [hpd] at m10; cases m10
    | some q => rw [hpd] at m10; simp at m10 ⊢; omega
  have hgood : GoodIn rT (Cond.code nm cc nL none :: rT) := by
    intro w hw
    have hg := rOK_ok.2.2.2.2.2.2.2.1
    rcases List.mem_cons.mp hw with rfl | hw
    · exact ⟨m1, good_of_word (hg _ m1)⟩
    · exact ⟨hw, good_of_word (hg _ hw)⟩
  have hfree : ∀ z, va_A wq H1.size z → lwA s z := fun z hq => by
    rcases hq with ⟨k, x, hk⟩ | hq
    · exact g2.2 k (z, x) hk
    · exact Nat.le_trans g3.1 hq
  refine rCallW (va_runI (As := []) (rest := [.ref q]) (b := q) ⟨hx, hb, hml, hown, hts⟩ hMet (cwI 0 hts hgood rfl rfl rfl (hts _ m2) (hts _ hlink) (hts _ m9) hnm ⟨m5, m6, hpar⟩ ⟨by rw [lwRoom.1]; show d + 1 ≤ 20; omega, by rw [lwRoom.2.2.2]; show 8 + (nL + 11) + 40 * d ≤ 814; omega⟩) ⟨rBlind hNW, fun U hU hW => ⟨rfl, by rw [hU], by rw [hU]; exact g1, va_K.moved hW.alike hK, g2.weaken (fun _ _ _ _ => trivial), rNw_ok hNW hW hnw, va_AO.moved hW.alike hAO, va_AOA.moved hW.alike hAOA⟩⟩ rfl rfl hls rfl (lv_room (Nat.le_of_ble_eq_true rfl)) d2 ⟨by rw [lwRoom.2.1]; omega, by rw [lwRoom.2.2.1]; omega⟩) g3 (fun q _ hq => hfree q hq) hfree ?_
  intro v2 ws2 H2 locs2 e1 e2 e3 e4 e5 e6
  cases v2 with
  | some w => cases e1
  | none =>
    refine kk q ws2 H2 locs2 ⟨e2, e3, e4.weaken (fun k q _ hq => hfree q.1 hq), e6⟩ (hp.trans e5) ?_
    obtain ⟨z, hz9⟩ := e5
    rw [← hz9, List.getElem?_append_left (List.getElem?_eq_some_iff.mp haq).1]
    exact haq
/-- THE LAW, out of what the reckoner says of the two constructors and of the calls -/
theorem lw_from {I : Nat → List rEnt → Prop} {N d K : Nat} {f8 f9 : List rv} {M1 M0 : List rEnt} {uc uz uc2 uz2 : Nat} (hd18 : d ≤ 18) (hf8 : rG.2.2.2.1 10 7 = some (8, f8)) (hf9 : rG.2.2.2.1 10 10 = some (9, f9)) (h8 : rRun rG N d 70 [.inr (.inr (some 0))] [.inr (.inr (8, f8))] = some (none, M1, uc, uz)) (h9 : rRun rG N d 113 [.inr (.inr (some M1.length))] (M1 ++ [.inr (.inr (9, f9))]) = some (none, M0, uc2, uz2))
    (hc : 1 + uc + 1 + uc2 ≤ 600000) (hz : f8.length + uz + f9.length + uz2 ≤ 7302250) (hI0 : I K M0) (hI : ∀ k M, I (k + 1) M → lwAll 0 M1.length (I k) M) (hmono : ∀ k M, I (k + 1) M → I k M) (hL : L ≤ 2048) (hK : L < 4 * (K + 1)) (C0 : lw_At p s m meth c b L xs) :
    W p l e room_1 s m #[Value.ref b] below meth c s.heap [] 0 0 (lw_Z below #[Value.ref b] s) (entryFrame m ([Value.ref b] : List Value).toArray 4) := by
  obtain ⟨hx, hb, hr, hml, hown, hts, hX, hbl, hlk, hgv⟩ := C0
  obtain ⟨D, ct, hKK, hnw, hAO, hAOA⟩ := lw_known hts
  have F : lwF p s m meth c b L xs D ct := ⟨hx, hb, hr, hml, hown, fun w hw => hts w (List.mem_filter.mp hw).1, hX, hbl, hlk, hKK, hnw, hAO, hAOA⟩
  have hl := lv_entry ([.ref b]) (n := 4) (Nat.le_of_ble_eq_true rfl)
  rw [lg_entry_eq]
  generalize (lg_sl ([.ref b]) ++ List.replicate (4 - (lg_sl ([.ref b])).length) Slot.unset).toArray = ls at hl ⊢
  have hl : lv_has ls 4 [(0, .ref b)] := hl
  have hM0 : lwM D ct s [] [] s.heap [] := ⟨⟨rfl, fun k e h => by simp at h⟩, fun k q h => by simp at h, ⟨fun i j p q h => by simp at h, fun k q h => by simp at h⟩, va_S.rf⟩
  refine lw_make F hl.1 hM0 (y := 70) hf8 rfl rfl (rEq_mem (i := 112) (by decide +kernel) rfl) hd18 h8 (by omega) (by omega) dL_0 dL_3 dL_4 (fun ax ws1 H1 locs1 g1 g2 g3 => ?_)
  refine lv_astore_n (lv' := [(1, .ref ax), (0, .ref b)]) hx hb dL_7 rfl hl (by decide) rfl (fun ls hl => ?_)
  refine lw_make F hl.1 g1 (y := 113) hf9 rfl rfl (rEq_mem (i := 864) (by decide +kernel) rfl) hd18 h9 (by omega) (by omega) dL_8 dL_11 dL_12 (fun am ws2 H2 locs2 g4 g5 g6 => ?_)
  refine lv_astore_n (lv' := [(2, .ref am), (1, .ref ax), (0, .ref b)]) hx hb dL_15 rfl hl (by decide) rfl (fun ls hl => ?_)
  refine lv_iconst (v := 0) hx hb dL_16 (by decide) ?_
  refine lv_istore_n (lv' := [(3, .int 0), (2, .ref am), (1, .ref ax), (0, .ref b)]) hx hb dL_17 rfl hl (by decide) rfl (fun ls hl => ?_)
  refine W.widen (k := 600000) (n := 7302250) (by omega) (by omega) ?_
  have g3 : (rAd ws1)[0]? = some ax := g3
  have hax : (rAd ws2)[0]? = some ax := by
    obtain ⟨z, hz9⟩ := g5
    rw [← hz9, List.getElem?_append_left (List.getElem?_eq_some_iff.mp g3).1]
    exact g3
  exact lw_loop F hL hI hmono K 0 M0 ws2 H2 locs2 ls (by omega) (by omega) hI0 g4 (lv_sub hl [3, 2, 1, 0] rfl) hax g6
end LWS
