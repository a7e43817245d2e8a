/-! Row: by program (wip/whole) -/
theorem dM_14_0 : decode prog_4_method_2_code 0 = .ok (.aload_n 0, 1) := by decide +kernel
theorem dM_14_1 : decode prog_4_method_2_code 1 = .ok (.getfield 21, 3) := by decide +kernel
theorem dM_14_4 : decode prog_4_method_2_code 4 = .ok (.aload_n 0, 1) := by decide +kernel
theorem dM_14_5 : decode prog_4_method_2_code 5 = .ok (.getfield 15, 3) := by decide +kernel
theorem dM_14_8 : decode prog_4_method_2_code 8 = .ok (.arraylength, 1) := by decide +kernel
theorem dM_14_9 : decode prog_4_method_2_code 9 = .ok (.if_icmp .lt 7, 3) := by decide +kernel
theorem dM_14_12 : decode prog_4_method_2_code 12 = .ok (.iconst 1, 1) := by decide +kernel
theorem dM_14_13 : decode prog_4_method_2_code 13 = .ok (.goto 4, 3) := by decide +kernel
theorem dM_14_16 : decode prog_4_method_2_code 16 = .ok (.iconst 0, 1) := by decide +kernel
theorem dM_14_17 : decode prog_4_method_2_code 17 = .ok (.ireturn, 1) := by decide +kernel
theorem dM_16_0 : decode prog_4_method_5_code 0 = .ok (.aload_n 0, 1) := by decide +kernel
theorem dM_16_1 : decode prog_4_method_5_code 1 = .ok (.getfield 21, 3) := by decide +kernel
theorem dM_16_4 : decode prog_4_method_5_code 4 = .ok (.ireturn, 1) := by decide +kernel
theorem dM_18_0 : decode prog_4_method_6_code 0 = .ok (.aload_n 0, 1) := by decide +kernel
theorem dM_18_1 : decode prog_4_method_6_code 1 = .ok (.iconst 0, 1) := by decide +kernel
theorem dM_18_2 : decode prog_4_method_6_code 2 = .ok (.putfield 21, 3) := by decide +kernel
theorem dM_18_5 : decode prog_4_method_6_code 5 = .ok (.return_, 1) := by decide +kernel
theorem dM_15_0 : decode prog_4_method_3_code 0 = .ok (.aload_n 0, 1) := by decide +kernel
theorem dM_15_1 : decode prog_4_method_3_code 1 = .ok (.getfield 21, 3) := by decide +kernel
theorem dM_15_4 : decode prog_4_method_3_code 4 = .ok (.ifCond .lt 35, 3) := by decide +kernel
theorem dM_15_7 : decode prog_4_method_3_code 7 = .ok (.aload_n 0, 1) := by decide +kernel
theorem dM_15_8 : decode prog_4_method_3_code 8 = .ok (.getfield 21, 3) := by decide +kernel
theorem dM_15_11 : decode prog_4_method_3_code 11 = .ok (.aload_n 0, 1) := by decide +kernel
theorem dM_15_12 : decode prog_4_method_3_code 12 = .ok (.getfield 15, 3) := by decide +kernel
theorem dM_15_15 : decode prog_4_method_3_code 15 = .ok (.arraylength, 1) := by decide +kernel
theorem dM_15_16 : decode prog_4_method_3_code 16 = .ok (.if_icmp .ge 23, 3) := by decide +kernel
theorem dM_15_19 : decode prog_4_method_3_code 19 = .ok (.aload_n 0, 1) := by decide +kernel
theorem dM_15_20 : decode prog_4_method_3_code 20 = .ok (.getfield 15, 3) := by decide +kernel
theorem dM_15_23 : decode prog_4_method_3_code 23 = .ok (.aload_n 0, 1) := by decide +kernel
theorem dM_15_24 : decode prog_4_method_3_code 24 = .ok (.getfield 21, 3) := by decide +kernel
theorem dM_15_27 : decode prog_4_method_3_code 27 = .ok (.iload_n 1, 1) := by decide +kernel
theorem dM_15_28 : decode prog_4_method_3_code 28 = .ok (.iastore, 1) := by decide +kernel
theorem dM_15_29 : decode prog_4_method_3_code 29 = .ok (.aload_n 0, 1) := by decide +kernel
theorem dM_15_30 : decode prog_4_method_3_code 30 = .ok (.dup, 1) := by decide +kernel
theorem dM_15_31 : decode prog_4_method_3_code 31 = .ok (.getfield 21, 3) := by decide +kernel
theorem dM_15_34 : decode prog_4_method_3_code 34 = .ok (.iconst 1, 1) := by decide +kernel
theorem dM_15_35 : decode prog_4_method_3_code 35 = .ok (.iadd, 1) := by decide +kernel
theorem dM_15_36 : decode prog_4_method_3_code 36 = .ok (.putfield 21, 3) := by decide +kernel
theorem dM_15_39 : decode prog_4_method_3_code 39 = .ok (.aload_n 0, 1) := by decide +kernel
theorem dM_15_40 : decode prog_4_method_3_code 40 = .ok (.getfield 21, 3) := by decide +kernel
theorem dM_15_43 : decode prog_4_method_3_code 43 = .ok (.ireturn, 1) := by decide +kernel
theorem dM_17_0 : decode prog_4_method_4_code 0 = .ok (.iload_n 1, 1) := by decide +kernel
theorem dM_17_1 : decode prog_4_method_4_code 1 = .ok (.ifCond .lt 29, 3) := by decide +kernel
theorem dM_17_4 : decode prog_4_method_4_code 4 = .ok (.iload_n 1, 1) := by decide +kernel
theorem dM_17_5 : decode prog_4_method_4_code 5 = .ok (.aload_n 0, 1) := by decide +kernel
theorem dM_17_6 : decode prog_4_method_4_code 6 = .ok (.getfield 21, 3) := by decide +kernel
theorem dM_17_9 : decode prog_4_method_4_code 9 = .ok (.if_icmp .ge 21, 3) := by decide +kernel
theorem dM_17_12 : decode prog_4_method_4_code 12 = .ok (.iload_n 1, 1) := by decide +kernel
theorem dM_17_13 : decode prog_4_method_4_code 13 = .ok (.aload_n 0, 1) := by decide +kernel
theorem dM_17_14 : decode prog_4_method_4_code 14 = .ok (.getfield 15, 3) := by decide +kernel
theorem dM_17_17 : decode prog_4_method_4_code 17 = .ok (.arraylength, 1) := by decide +kernel
theorem dM_17_18 : decode prog_4_method_4_code 18 = .ok (.if_icmp .ge 12, 3) := by decide +kernel
theorem dM_17_21 : decode prog_4_method_4_code 21 = .ok (.aload_n 0, 1) := by decide +kernel
theorem dM_17_22 : decode prog_4_method_4_code 22 = .ok (.getfield 15, 3) := by decide +kernel
theorem dM_17_25 : decode prog_4_method_4_code 25 = .ok (.iload_n 1, 1) := by decide +kernel
theorem dM_17_26 : decode prog_4_method_4_code 26 = .ok (.iaload, 1) := by decide +kernel
theorem dM_17_27 : decode prog_4_method_4_code 27 = .ok (.goto 5, 3) := by decide +kernel
theorem dM_17_30 : decode prog_4_method_4_code 30 = .ok (.bipush (-9), 2) := by decide +kernel
theorem dM_17_32 : decode prog_4_method_4_code 32 = .ok (.ireturn, 1) := by decide +kernel
theorem rIn_of {x : Int32} {n : Nat} (h0 : ¬ x < 0) (h : x < Int32.ofNat n) (hn : n < 2 ^ 31) : rIn x n = true := by
  have h1 : (Int32.ofNat n).toInt = (n : Int) := nI_toInt hn
  rw [Int32.lt_iff_toInt_lt, h1] at h
  rw [Int32.lt_iff_toInt_lt] at h0
  have h2 : (0 : Int32).toInt = 0 := rfl
  rw [h2] at h0
  have h3 : x.toNatClampNeg = x.toInt.toNat := rfl
  simp only [rIn, Bool.and_eq_true, Bool.not_eq_true', decide_eq_false_iff_not, decide_eq_true_eq, h3]
  refine ⟨fun q => ?_, by omega⟩
  rw [Int32.lt_iff_toInt_lt, h2] at q
  omega
set_option maxRecDepth 100000 in
theorem ev_Row_isFull (d : Nat) {M : List rEnt} {k a n : Nat} {sz : Int32} {f : Nat → Int32} (hc_0 : M[k]? = some (.inr (.inr (2, [.inr (.inr (some a)), .inl sz])))) (hc_1 : M[a]? = some (.inl (n, f)))  : EvN (d + 1) 14 [.inr (.inr (some k))] M (fun v M2 => v = some (.inl (if sz < Int32.ofNat n then 0 else 1)) ∧ M2 = M) := by
  refine EvN.of (ini := false) rfl ⟨rfl, Nat.le_of_ble_eq_true rfl⟩ rfl ?_
  show GoN d 2 1 (some .boolean) false prog_4_method_2_code 0 [(0, .inr (.inr (some k)))] [] M _
  refine gn0 1 [(0, .inr (.inr (some k)))] [.inr (.inr (some k))] dM_14_0 rfl (Or.inr rfl) ?_
  refine gnGet (.inl sz) dM_14_1 hc_0 rfl rfl ?_
  refine gn0 5 [(0, .inr (.inr (some k)))] [.inr (.inr (some k)), .inl sz] dM_14_4 rfl (Or.inr rfl) ?_
  refine gnGet (.inr (.inr (some a))) dM_14_5 hc_0 rfl rfl ?_
  refine gnAlen dM_14_8 hc_1 ?_
  refine gnIf (t := 16) (C := sz < (Int32.ofNat n)) (r := []) dM_14_9 rfl (Or.inr rfl) (rTest_iff .lt sz (Int32.ofNat n)) (fun h1 => ?_) (fun h1 => ?_)
  · skip
    refine gn0 17 [(0, .inr (.inr (some k)))] [.inl 0] dM_14_16 rfl (Or.inr rfl) ?_
    refine gnRet (r := some (.inl 0)) dM_14_17 rfl (Or.inr rfl) ?_
    exact ⟨by simp [*], rfl⟩
  · skip
    refine gn0 13 [(0, .inr (.inr (some k)))] [.inl 1] dM_14_12 rfl (Or.inr rfl) ?_
    refine gn0 17 [(0, .inr (.inr (some k)))] [.inl 1] dM_14_13 rfl (Or.inr rfl) ?_
    refine gnRet (r := some (.inl 1)) dM_14_17 rfl (Or.inr rfl) ?_
    exact ⟨by simp [*], rfl⟩
set_option maxRecDepth 100000 in
theorem ev_Row_size (d : Nat) {M : List rEnt} {k : Nat} {a : Nat} {sz : Int32} (hc_0 : M[k]? = some (.inr (.inr (2, [.inr (.inr (some a)), .inl sz]))))  : EvN (d + 1) 16 [.inr (.inr (some k))] M (fun v M2 => v = some (.inl sz) ∧ M2 = M) := by
  refine EvN.of (ini := false) rfl ⟨rfl, Nat.le_of_ble_eq_true rfl⟩ rfl ?_
  show GoN d 2 1 (some .int) false prog_4_method_5_code 0 [(0, .inr (.inr (some k)))] [] M _
  refine gn0 1 [(0, .inr (.inr (some k)))] [.inr (.inr (some k))] dM_16_0 rfl (Or.inr rfl) ?_
  refine gnGet (.inl sz) dM_16_1 hc_0 rfl rfl ?_
  refine gnRet (r := some (.inl sz)) dM_16_4 rfl (Or.inr rfl) ?_
  exact ⟨rfl, rfl⟩
set_option maxRecDepth 100000 in
theorem ev_Row_empty (d : Nat) {M : List rEnt} {k : Nat} {a : Nat} {sz : Int32} (hc_0 : M[k]? = some (.inr (.inr (2, [.inr (.inr (some a)), .inl sz]))))  : EvN (d + 1) 18 [.inr (.inr (some k))] M (fun v M2 => v = none ∧ rUp M M2 [k] ∧ M2[k]? = some (.inr (.inr (2, [.inr (.inr (some a)), .inl 0])))) := by
  refine EvN.of (ini := false) rfl ⟨rfl, Nat.le_of_ble_eq_true rfl⟩ rfl ?_
  show GoN d 2 1 none false prog_4_method_6_code 0 [(0, .inr (.inr (some k)))] [] M _
  refine gn0 1 [(0, .inr (.inr (some k)))] [.inr (.inr (some k))] dM_18_0 rfl (Or.inr rfl) ?_
  refine gn0 2 [(0, .inr (.inr (some k)))] [.inl 0, .inr (.inr (some k))] dM_18_1 rfl (Or.inr rfl) ?_
  refine gnPut [.inr (.inr (some a)), .inl 0] dM_18_2 hc_0 rfl (Nat.le_of_ble_eq_true rfl) rfl (by decide) rfl (fun M1 hU2 hc3 => ?_)
  refine gnRet (r := none) dM_18_5 rfl (Or.inr rfl) ?_
  exact ⟨rfl, hU2, hc3⟩
set_option maxRecDepth 100000 in
theorem ev_Row_add (d : Nat) {M : List rEnt} {k a n : Nat} {sz v9 : Int32} {f : Nat → Int32} (hc_0 : M[k]? = some (.inr (.inr (2, [.inr (.inr (some a)), .inl sz])))) (hc_1 : M[a]? = some (.inl (n, f))) (hn : n < 2 ^ 31) (hne : k ≠ a) : EvN (d + 1) 15 [.inr (.inr (some k)), .inl v9] M (fun v M2 => v = some (.inl (if 0 ≤ sz ∧ sz < Int32.ofNat n then sz + 1 else sz)) ∧ rUp M M2 [k, a] ∧ M2[k]? = some (.inr (.inr (2, [.inr (.inr (some a)), .inl (if 0 ≤ sz ∧ sz < Int32.ofNat n then sz + 1 else sz)]))) ∧ M2[a]? = some (.inl (n, if 0 ≤ sz ∧ sz < Int32.ofNat n then upd f sz.toNatClampNeg v9 else f))) := by
  refine EvN.of (ini := false) rfl ⟨rfl, Nat.le_of_ble_eq_true rfl⟩ rfl ?_
  show GoN d 2 2 (some .int) false prog_4_method_3_code 0 [(0, .inr (.inr (some k))), (1, .inl v9)] [] M _
  refine gn0 1 [(0, .inr (.inr (some k))), (1, .inl v9)] [.inr (.inr (some k))] dM_15_0 rfl (Or.inr rfl) ?_
  refine gnGet (.inl sz) dM_15_1 hc_0 rfl rfl ?_
  refine gnIf (t := 39) (C := sz < 0) (r := []) dM_15_4 rfl (Or.inr rfl) (rTest_iff .lt sz 0) (fun h1 => ?_) (fun h1 => ?_)
  · skip
    refine gn0 40 [(0, .inr (.inr (some k))), (1, .inl v9)] [.inr (.inr (some k))] dM_15_39 rfl (Or.inr rfl) ?_
    refine gnGet (.inl sz) dM_15_40 hc_0 rfl rfl ?_
    refine gnRet (r := some (.inl sz)) dM_15_43 rfl (Or.inr rfl) ?_
    refine ⟨?_, rUp.rfl'.mono (fun x hx => by simp only [List.mem_append, List.mem_cons, List.not_mem_nil, or_false, false_or] at hx ⊢; omega), ?_, ?_⟩
    all_goals rw [if_neg (fun q => by obtain ⟨q1, q2⟩ := q; first | exact h1 q1 | exact absurd q2 (Int32.not_lt.mpr h2))]
    · exact hc_0
    · exact hc_1
  · skip
    refine gn0 8 [(0, .inr (.inr (some k))), (1, .inl v9)] [.inr (.inr (some k))] dM_15_7 rfl (Or.inr rfl) ?_
    refine gnGet (.inl sz) dM_15_8 hc_0 rfl rfl ?_
    refine gn0 12 [(0, .inr (.inr (some k))), (1, .inl v9)] [.inr (.inr (some k)), .inl sz] dM_15_11 rfl (Or.inr rfl) ?_
    refine gnGet (.inr (.inr (some a))) dM_15_12 hc_0 rfl rfl ?_
    refine gnAlen dM_15_15 hc_1 ?_
    refine gnIf (t := 39) (C := (Int32.ofNat n) ≤ sz) (r := []) dM_15_16 rfl (Or.inr rfl) (rTest_iff .ge sz (Int32.ofNat n)) (fun h2 => ?_) (fun h2 => ?_)
    · skip
      refine gn0 40 [(0, .inr (.inr (some k))), (1, .inl v9)] [.inr (.inr (some k))] dM_15_39 rfl (Or.inr rfl) ?_
      refine gnGet (.inl sz) dM_15_40 hc_0 rfl rfl ?_
      refine gnRet (r := some (.inl sz)) dM_15_43 rfl (Or.inr rfl) ?_
      refine ⟨?_, rUp.rfl'.mono (fun x hx => by simp only [List.mem_append, List.mem_cons, List.not_mem_nil, or_false, false_or] at hx ⊢; omega), ?_, ?_⟩
      all_goals rw [if_neg (fun q => by obtain ⟨q1, q2⟩ := q; first | exact h1 q1 | exact absurd q2 (Int32.not_lt.mpr h2))]
      · exact hc_0
      · exact hc_1
    · skip
      refine gn0 20 [(0, .inr (.inr (some k))), (1, .inl v9)] [.inr (.inr (some k))] dM_15_19 rfl (Or.inr rfl) ?_
      refine gnGet (.inr (.inr (some a))) dM_15_20 hc_0 rfl rfl ?_
      refine gn0 24 [(0, .inr (.inr (some k))), (1, .inl v9)] [.inr (.inr (some k)), .inr (.inr (some a))] dM_15_23 rfl (Or.inr rfl) ?_
      refine gnGet (.inl sz) dM_15_24 hc_0 rfl rfl ?_
      refine gn0 28 [(0, .inr (.inr (some k))), (1, .inl v9)] [.inl v9, .inl sz, .inr (.inr (some a))] dM_15_27 rfl (Or.inr rfl) ?_
      refine gnIast dM_15_28 hc_1 (by assumption) (fun M3 hU4 hc5 => ?_)
      have hc_0 := hU4.at (j := k) (show k ∉ [a] from fun q => absurd (List.mem_singleton.mp q) (by omega)) hc_0
      refine gn0 30 [(0, .inr (.inr (some k))), (1, .inl v9)] [.inr (.inr (some k))] dM_15_29 rfl (Or.inr rfl) ?_
      refine gn0 31 [(0, .inr (.inr (some k))), (1, .inl v9)] [.inr (.inr (some k)), .inr (.inr (some k))] dM_15_30 rfl (Or.inr rfl) ?_
      refine gnGet (.inl sz) dM_15_31 hc_0 rfl rfl ?_
      refine gn0 35 [(0, .inr (.inr (some k))), (1, .inl v9)] [.inl 1, .inl sz, .inr (.inr (some k))] dM_15_34 rfl (Or.inr rfl) ?_
      refine gn0 36 [(0, .inr (.inr (some k))), (1, .inl v9)] [.inl (sz + 1), .inr (.inr (some k))] dM_15_35 rfl (Or.inr rfl) ?_
      refine gnPut [.inr (.inr (some a)), .inl (sz + 1)] dM_15_36 hc_0 rfl (Nat.le_of_ble_eq_true rfl) rfl (by decide) rfl (fun M6 hU7 hc8 => ?_)
      have hc5 := hU7.at (j := a) (show a ∉ [k] from fun q => absurd (List.mem_singleton.mp q) (by omega)) hc5
      refine gn0 40 [(0, .inr (.inr (some k))), (1, .inl v9)] [.inr (.inr (some k))] dM_15_39 rfl (Or.inr rfl) ?_
      refine gnGet (.inl (sz + 1)) dM_15_40 hc8 rfl rfl ?_
      refine gnRet (r := some (.inl (sz + 1))) dM_15_43 rfl (Or.inr rfl) ?_
      refine ⟨?_, (hU4.trans hU7).mono (fun x hx => by simp only [List.mem_append, List.mem_cons, List.not_mem_nil, or_false, false_or] at hx ⊢; omega), ?_, ?_⟩
      · rw [if_pos ⟨h1, Int32.not_le.mp h2⟩]
      · rw [if_pos ⟨h1, Int32.not_le.mp h2⟩]; exact hc8
      · rw [if_pos ⟨h1, Int32.not_le.mp h2⟩]; exact hc5
