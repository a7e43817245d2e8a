/-! the reference: a search begins: by program (wip/whole) -/
theorem dM_121_0 : decode prog_11_method_24_code 0 = .ok (.aload_n 0, 1) := by decide +kernel
theorem dM_121_1 : decode prog_11_method_24_code 1 = .ok (.invokevirtual 167, 3) := by decide +kernel
theorem dM_121_4 : decode prog_11_method_24_code 4 = .ok (.aload_n 0, 1) := by decide +kernel
theorem dM_121_5 : decode prog_11_method_24_code 5 = .ok (.getfield 70, 3) := by decide +kernel
theorem dM_121_8 : decode prog_11_method_24_code 8 = .ok (.aload_n 0, 1) := by decide +kernel
theorem dM_121_9 : decode prog_11_method_24_code 9 = .ok (.getfield 164, 3) := by decide +kernel
theorem dM_121_12 : decode prog_11_method_24_code 12 = .ok (.iconst 0, 1) := by decide +kernel
theorem dM_121_13 : decode prog_11_method_24_code 13 = .ok (.iastore, 1) := by decide +kernel
theorem dM_121_14 : decode prog_11_method_24_code 14 = .ok (.aload_n 0, 1) := by decide +kernel
theorem dM_121_15 : decode prog_11_method_24_code 15 = .ok (.getfield 73, 3) := by decide +kernel
theorem dM_121_18 : decode prog_11_method_24_code 18 = .ok (.aload_n 0, 1) := by decide +kernel
theorem dM_121_19 : decode prog_11_method_24_code 19 = .ok (.getfield 164, 3) := by decide +kernel
theorem dM_121_22 : decode prog_11_method_24_code 22 = .ok (.iconst 0, 1) := by decide +kernel
theorem dM_121_23 : decode prog_11_method_24_code 23 = .ok (.iastore, 1) := by decide +kernel
theorem dM_121_24 : decode prog_11_method_24_code 24 = .ok (.aload_n 0, 1) := by decide +kernel
theorem dM_121_25 : decode prog_11_method_24_code 25 = .ok (.getfield 76, 3) := by decide +kernel
theorem dM_121_28 : decode prog_11_method_24_code 28 = .ok (.aload_n 0, 1) := by decide +kernel
theorem dM_121_29 : decode prog_11_method_24_code 29 = .ok (.getfield 164, 3) := by decide +kernel
theorem dM_121_32 : decode prog_11_method_24_code 32 = .ok (.iconst 0, 1) := by decide +kernel
theorem dM_121_33 : decode prog_11_method_24_code 33 = .ok (.iastore, 1) := by decide +kernel
theorem dM_121_34 : decode prog_11_method_24_code 34 = .ok (.aload_n 0, 1) := by decide +kernel
theorem dM_121_35 : decode prog_11_method_24_code 35 = .ok (.getfield 79, 3) := by decide +kernel
theorem dM_121_38 : decode prog_11_method_24_code 38 = .ok (.aload_n 0, 1) := by decide +kernel
theorem dM_121_39 : decode prog_11_method_24_code 39 = .ok (.getfield 164, 3) := by decide +kernel
theorem dM_121_42 : decode prog_11_method_24_code 42 = .ok (.iconst 0, 1) := by decide +kernel
theorem dM_121_43 : decode prog_11_method_24_code 43 = .ok (.iastore, 1) := by decide +kernel
theorem dM_121_44 : decode prog_11_method_24_code 44 = .ok (.aload_n 0, 1) := by decide +kernel
theorem dM_121_45 : decode prog_11_method_24_code 45 = .ok (.getfield 82, 3) := by decide +kernel
theorem dM_121_48 : decode prog_11_method_24_code 48 = .ok (.aload_n 0, 1) := by decide +kernel
theorem dM_121_49 : decode prog_11_method_24_code 49 = .ok (.getfield 164, 3) := by decide +kernel
theorem dM_121_52 : decode prog_11_method_24_code 52 = .ok (.iconst 0, 1) := by decide +kernel
theorem dM_121_53 : decode prog_11_method_24_code 53 = .ok (.iastore, 1) := by decide +kernel
theorem dM_121_54 : decode prog_11_method_24_code 54 = .ok (.aload_n 0, 1) := by decide +kernel
theorem dM_121_55 : decode prog_11_method_24_code 55 = .ok (.getfield 85, 3) := by decide +kernel
theorem dM_121_58 : decode prog_11_method_24_code 58 = .ok (.aload_n 0, 1) := by decide +kernel
theorem dM_121_59 : decode prog_11_method_24_code 59 = .ok (.getfield 164, 3) := by decide +kernel
theorem dM_121_62 : decode prog_11_method_24_code 62 = .ok (.iconst 1, 1) := by decide +kernel
theorem dM_121_63 : decode prog_11_method_24_code 63 = .ok (.iastore, 1) := by decide +kernel
theorem dM_121_64 : decode prog_11_method_24_code 64 = .ok (.aload_n 0, 1) := by decide +kernel
theorem dM_121_65 : decode prog_11_method_24_code 65 = .ok (.aload_n 0, 1) := by decide +kernel
theorem dM_121_66 : decode prog_11_method_24_code 66 = .ok (.iload_n 1, 1) := by decide +kernel
theorem dM_121_67 : decode prog_11_method_24_code 67 = .ok (.iconst 0, 1) := by decide +kernel
theorem dM_121_68 : decode prog_11_method_24_code 68 = .ok (.iconst 0, 1) := by decide +kernel
theorem dM_121_69 : decode prog_11_method_24_code 69 = .ok (.invokevirtual 182, 3) := by decide +kernel
theorem dM_121_72 : decode prog_11_method_24_code 72 = .ok (.putfield 170, 3) := by decide +kernel
theorem dM_121_75 : decode prog_11_method_24_code 75 = .ok (.aload_n 0, 1) := by decide +kernel
theorem dM_121_76 : decode prog_11_method_24_code 76 = .ok (.iconst 0, 1) := by decide +kernel
theorem dM_121_77 : decode prog_11_method_24_code 77 = .ok (.putfield 173, 3) := by decide +kernel
theorem dM_121_80 : decode prog_11_method_24_code 80 = .ok (.aload_n 0, 1) := by decide +kernel
theorem dM_121_81 : decode prog_11_method_24_code 81 = .ok (.bipush 6, 2) := by decide +kernel
theorem dM_121_83 : decode prog_11_method_24_code 83 = .ok (.putfield 176, 3) := by decide +kernel
theorem dM_121_86 : decode prog_11_method_24_code 86 = .ok (.aload_n 0, 1) := by decide +kernel
theorem dM_121_87 : decode prog_11_method_24_code 87 = .ok (.invokevirtual 186, 3) := by decide +kernel
theorem dM_121_90 : decode prog_11_method_24_code 90 = .ok (.return_, 1) := by decide +kernel
def mBeg0 (sg : rSg) (t : Nat) (goal : Int32) : rSg := up2 (up2 (up2 (up2 (up2 (up2 (up2 (up2 (up2 (up2 (up2 (up2 (up2 ((mEmp sg)) 746 0 0) 747 0 0) 748 0 0) 749 0 0) 750 0 0) 751 0 1) 733 t goal) 734 t 0) 735 t 0) 725 12 (nI (t + 1))) 725 18 (nI t)) 725 19 0) 725 20 6
set_option maxRecDepth 100000 in
theorem ev_m_begins_0 (d : Nat) (sg : rSg) {t : Nat} (goal : Int32) (hz : sg 725 21 = 0) (ht : sg 725 12 = nI t) (ht9 : t < 20000) : EvS rSkel (d + 3) 121 [.inr (.inr (some 725)), .inl goal] sg (fun v s2 => v = none ∧ s2 = mWaitS (mBeg0 sg t goal) 0 6 0 (42 * 0 + (0 + 0) % 42)) := by
  refine EvS.of (ini := false) rfl ⟨rfl, Nat.le_of_ble_eq_true rfl⟩ rfl ?_
  show GoS rSkel (d + 2) 9 2 none false prog_11_method_24_code 0 [(0, .inr (.inr (some 725))), (1, .inl goal)] [] sg _
  refine gs0 1 [(0, .inr (.inr (some 725))), (1, .inl goal)] [.inr (.inr (some 725))] dM_121_0 (fun _ => rfl) (Or.inr rfl) ?_
  refine gsCallV (y := 122) (k := 725) (as := [.inr (.inr (some 725))]) (r := []) dM_121_1 rfl rfl rfl (Nat.le_of_ble_eq_true rfl) sk_725 rfl (Nat.le_of_ble_eq_true rfl) (ev_m_empties (d + 1) sg) (fun v1 s2 hv3 => ?_)
  obtain ⟨rfl, hv3b⟩ := hv3
  rw [hv3b]
  show GoS _ _ _ _ _ _ _ _ _ [] ((mEmp sg)) _
  refine gs0 5 [(0, .inr (.inr (some 725))), (1, .inl goal)] [.inr (.inr (some 725))] dM_121_4 (fun _ => rfl) (Or.inr rfl) ?_
  refine gsGetR (some 746) dM_121_5 sk_725 rfl rfl ?_
  refine gs0 9 [(0, .inr (.inr (some 725))), (1, .inl goal)] [.inr (.inr (some 725)), .inr (.inr (some 746))] dM_121_8 (fun _ => rfl) (Or.inr rfl) ?_
  refine gsGetE 0 dM_121_9 sk_725 rfl rfl hz ?_
  refine gs0 13 [(0, .inr (.inr (some 725))), (1, .inl goal)] [.inl 0, .inl 0, .inr (.inr (some 746))] dM_121_12 (fun _ => rfl) (Or.inr rfl) ?_
  refine gsIastN 0 dM_121_13 sk_746 rfl rfl ?_
  refine gs0 15 [(0, .inr (.inr (some 725))), (1, .inl goal)] [.inr (.inr (some 725))] dM_121_14 (fun _ => rfl) (Or.inr rfl) ?_
  refine gsGetR (some 747) dM_121_15 sk_725 rfl rfl ?_
  refine gs0 19 [(0, .inr (.inr (some 725))), (1, .inl goal)] [.inr (.inr (some 725)), .inr (.inr (some 747))] dM_121_18 (fun _ => rfl) (Or.inr rfl) ?_
  refine gsGetE 0 dM_121_19 sk_725 rfl rfl hz ?_
  refine gs0 23 [(0, .inr (.inr (some 725))), (1, .inl goal)] [.inl 0, .inl 0, .inr (.inr (some 747))] dM_121_22 (fun _ => rfl) (Or.inr rfl) ?_
  refine gsIastN 0 dM_121_23 sk_747 rfl rfl ?_
  refine gs0 25 [(0, .inr (.inr (some 725))), (1, .inl goal)] [.inr (.inr (some 725))] dM_121_24 (fun _ => rfl) (Or.inr rfl) ?_
  refine gsGetR (some 748) dM_121_25 sk_725 rfl rfl ?_
  refine gs0 29 [(0, .inr (.inr (some 725))), (1, .inl goal)] [.inr (.inr (some 725)), .inr (.inr (some 748))] dM_121_28 (fun _ => rfl) (Or.inr rfl) ?_
  refine gsGetE 0 dM_121_29 sk_725 rfl rfl hz ?_
  refine gs0 33 [(0, .inr (.inr (some 725))), (1, .inl goal)] [.inl 0, .inl 0, .inr (.inr (some 748))] dM_121_32 (fun _ => rfl) (Or.inr rfl) ?_
  refine gsIastN 0 dM_121_33 sk_748 rfl rfl ?_
  refine gs0 35 [(0, .inr (.inr (some 725))), (1, .inl goal)] [.inr (.inr (some 725))] dM_121_34 (fun _ => rfl) (Or.inr rfl) ?_
  refine gsGetR (some 749) dM_121_35 sk_725 rfl rfl ?_
  refine gs0 39 [(0, .inr (.inr (some 725))), (1, .inl goal)] [.inr (.inr (some 725)), .inr (.inr (some 749))] dM_121_38 (fun _ => rfl) (Or.inr rfl) ?_
  refine gsGetE 0 dM_121_39 sk_725 rfl rfl hz ?_
  refine gs0 43 [(0, .inr (.inr (some 725))), (1, .inl goal)] [.inl 0, .inl 0, .inr (.inr (some 749))] dM_121_42 (fun _ => rfl) (Or.inr rfl) ?_
  refine gsIastN 0 dM_121_43 sk_749 rfl rfl ?_
  refine gs0 45 [(0, .inr (.inr (some 725))), (1, .inl goal)] [.inr (.inr (some 725))] dM_121_44 (fun _ => rfl) (Or.inr rfl) ?_
  refine gsGetR (some 750) dM_121_45 sk_725 rfl rfl ?_
  refine gs0 49 [(0, .inr (.inr (some 725))), (1, .inl goal)] [.inr (.inr (some 725)), .inr (.inr (some 750))] dM_121_48 (fun _ => rfl) (Or.inr rfl) ?_
  refine gsGetE 0 dM_121_49 sk_725 rfl rfl hz ?_
  refine gs0 53 [(0, .inr (.inr (some 725))), (1, .inl goal)] [.inl 0, .inl 0, .inr (.inr (some 750))] dM_121_52 (fun _ => rfl) (Or.inr rfl) ?_
  refine gsIastN 0 dM_121_53 sk_750 rfl rfl ?_
  refine gs0 55 [(0, .inr (.inr (some 725))), (1, .inl goal)] [.inr (.inr (some 725))] dM_121_54 (fun _ => rfl) (Or.inr rfl) ?_
  refine gsGetR (some 751) dM_121_55 sk_725 rfl rfl ?_
  refine gs0 59 [(0, .inr (.inr (some 725))), (1, .inl goal)] [.inr (.inr (some 725)), .inr (.inr (some 751))] dM_121_58 (fun _ => rfl) (Or.inr rfl) ?_
  refine gsGetE 0 dM_121_59 sk_725 rfl rfl hz ?_
  refine gs0 63 [(0, .inr (.inr (some 725))), (1, .inl goal)] [.inl 1, .inl 0, .inr (.inr (some 751))] dM_121_62 (fun _ => rfl) (Or.inr rfl) ?_
  refine gsIastN 0 dM_121_63 sk_751 rfl rfl ?_
  refine gs0 65 [(0, .inr (.inr (some 725))), (1, .inl goal)] [.inr (.inr (some 725))] dM_121_64 (fun _ => rfl) (Or.inr rfl) ?_
  refine gs0 66 [(0, .inr (.inr (some 725))), (1, .inl goal)] [.inr (.inr (some 725)), .inr (.inr (some 725))] dM_121_65 (fun _ => rfl) (Or.inr rfl) ?_
  refine gs0 67 [(0, .inr (.inr (some 725))), (1, .inl goal)] [.inl goal, .inr (.inr (some 725)), .inr (.inr (some 725))] dM_121_66 (fun _ => rfl) (Or.inr rfl) ?_
  refine gs0 68 [(0, .inr (.inr (some 725))), (1, .inl goal)] [.inl 0, .inl goal, .inr (.inr (some 725)), .inr (.inr (some 725))] dM_121_67 (fun _ => rfl) (Or.inr rfl) ?_
  refine gs0 69 [(0, .inr (.inr (some 725))), (1, .inl goal)] [.inl 0, .inl 0, .inl goal, .inr (.inr (some 725)), .inr (.inr (some 725))] dM_121_68 (fun _ => rfl) (Or.inr rfl) ?_
  refine gsCallV (y := 123) (k := 725) (as := [.inr (.inr (some 725)), .inl goal, .inl 0, .inl 0]) (r := [.inr (.inr (some 725))]) dM_121_69 rfl rfl rfl (Nat.le_of_ble_eq_true rfl) sk_725 rfl (Nat.le_of_ble_eq_true rfl) ((ev_m_list (t := t) d (up2 (up2 (up2 (up2 (up2 (up2 ((mEmp sg)) 746 0 0) 747 0 0) 748 0 0) 749 0 0) 750 0 0) 751 0 1) goal 0 0 ht ht9).up (by omega)) (fun v4 s5 hv6 => ?_)
  obtain ⟨rfl, hv6b⟩ := hv6
  rw [hv6b]
  show GoS _ _ _ _ _ _ _ _ _ [.inl (nI t), .inr (.inr (some 725))] _ _
  refine gsPut dM_121_72 sk_725 rfl rfl rfl (by decide) ?_
  refine gs0 76 [(0, .inr (.inr (some 725))), (1, .inl goal)] [.inr (.inr (some 725))] dM_121_75 (fun _ => rfl) (Or.inr rfl) ?_
  refine gs0 77 [(0, .inr (.inr (some 725))), (1, .inl goal)] [.inl 0, .inr (.inr (some 725))] dM_121_76 (fun _ => rfl) (Or.inr rfl) ?_
  refine gsPut dM_121_77 sk_725 rfl rfl rfl (by decide) ?_
  refine gs0 81 [(0, .inr (.inr (some 725))), (1, .inl goal)] [.inr (.inr (some 725))] dM_121_80 (fun _ => rfl) (Or.inr rfl) ?_
  refine gs0 83 [(0, .inr (.inr (some 725))), (1, .inl goal)] [.inl 6, .inr (.inr (some 725))] dM_121_81 (fun _ => rfl) (Or.inr rfl) ?_
  refine gsPut dM_121_83 sk_725 rfl rfl rfl (by decide) ?_
  refine gs0 87 [(0, .inr (.inr (some 725))), (1, .inl goal)] [.inr (.inr (some 725))] dM_121_86 (fun _ => rfl) (Or.inr rfl) ?_
  refine gsCallV (y := 124) (k := 725) (as := [.inr (.inr (some 725))]) (r := []) dM_121_87 rfl rfl rfl (Nat.le_of_ble_eq_true rfl) sk_725 rfl (Nat.le_of_ble_eq_true rfl) (ev_m_waits_in d (mBeg0 sg t goal) (z := 0) (h := 0) (f := 6) (w := 0) hz (by decide) rfl rfl (by decide) rfl (by decide) (by decide) (by decide) (by decide)) (fun v7 s8 hv9 => ?_)
  obtain ⟨rfl, hv9b⟩ := hv9
  rw [hv9b]
  show GoS _ _ _ _ _ _ _ _ _ [] (mWaitS (mBeg0 sg t goal) 0 6 0 (42 * 0 + (0 + 0) % 42)) _
  refine gsRet (r := none) dM_121_90 (fun _ => rfl) (Or.inr rfl) ?_
  exact ⟨rfl, rfl⟩
def mBeg1 (sg : rSg) (t : Nat) (goal : Int32) : rSg := up2 (up2 (up2 (up2 (up2 (up2 (up2 (up2 (up2 (up2 (up2 (up2 (up2 ((mEmp sg)) 746 1 0) 747 1 0) 748 1 0) 749 1 0) 750 1 0) 751 1 1) 733 t goal) 734 t 0) 735 t 0) 725 12 (nI (t + 1))) 725 18 (nI t)) 725 19 0) 725 20 6
set_option maxRecDepth 100000 in
theorem ev_m_begins_1 (d : Nat) (sg : rSg) {t : Nat} (goal : Int32) (hz : sg 725 21 = 1) (ht : sg 725 12 = nI t) (ht9 : t < 20000) : EvS rSkel (d + 3) 121 [.inr (.inr (some 725)), .inl goal] sg (fun v s2 => v = none ∧ s2 = mWaitS (mBeg1 sg t goal) 1 6 0 (42 * 1 + (0 + 0) % 42)) := by
  refine EvS.of (ini := false) rfl ⟨rfl, Nat.le_of_ble_eq_true rfl⟩ rfl ?_
  show GoS rSkel (d + 2) 9 2 none false prog_11_method_24_code 0 [(0, .inr (.inr (some 725))), (1, .inl goal)] [] sg _
  refine gs0 1 [(0, .inr (.inr (some 725))), (1, .inl goal)] [.inr (.inr (some 725))] dM_121_0 (fun _ => rfl) (Or.inr rfl) ?_
  refine gsCallV (y := 122) (k := 725) (as := [.inr (.inr (some 725))]) (r := []) dM_121_1 rfl rfl rfl (Nat.le_of_ble_eq_true rfl) sk_725 rfl (Nat.le_of_ble_eq_true rfl) (ev_m_empties (d + 1) sg) (fun v1 s2 hv3 => ?_)
  obtain ⟨rfl, hv3b⟩ := hv3
  rw [hv3b]
  show GoS _ _ _ _ _ _ _ _ _ [] ((mEmp sg)) _
  refine gs0 5 [(0, .inr (.inr (some 725))), (1, .inl goal)] [.inr (.inr (some 725))] dM_121_4 (fun _ => rfl) (Or.inr rfl) ?_
  refine gsGetR (some 746) dM_121_5 sk_725 rfl rfl ?_
  refine gs0 9 [(0, .inr (.inr (some 725))), (1, .inl goal)] [.inr (.inr (some 725)), .inr (.inr (some 746))] dM_121_8 (fun _ => rfl) (Or.inr rfl) ?_
  refine gsGetE 1 dM_121_9 sk_725 rfl rfl hz ?_
  refine gs0 13 [(0, .inr (.inr (some 725))), (1, .inl goal)] [.inl 0, .inl 1, .inr (.inr (some 746))] dM_121_12 (fun _ => rfl) (Or.inr rfl) ?_
  refine gsIastN 1 dM_121_13 sk_746 rfl rfl ?_
  refine gs0 15 [(0, .inr (.inr (some 725))), (1, .inl goal)] [.inr (.inr (some 725))] dM_121_14 (fun _ => rfl) (Or.inr rfl) ?_
  refine gsGetR (some 747) dM_121_15 sk_725 rfl rfl ?_
  refine gs0 19 [(0, .inr (.inr (some 725))), (1, .inl goal)] [.inr (.inr (some 725)), .inr (.inr (some 747))] dM_121_18 (fun _ => rfl) (Or.inr rfl) ?_
  refine gsGetE 1 dM_121_19 sk_725 rfl rfl hz ?_
  refine gs0 23 [(0, .inr (.inr (some 725))), (1, .inl goal)] [.inl 0, .inl 1, .inr (.inr (some 747))] dM_121_22 (fun _ => rfl) (Or.inr rfl) ?_
  refine gsIastN 1 dM_121_23 sk_747 rfl rfl ?_
  refine gs0 25 [(0, .inr (.inr (some 725))), (1, .inl goal)] [.inr (.inr (some 725))] dM_121_24 (fun _ => rfl) (Or.inr rfl) ?_
  refine gsGetR (some 748) dM_121_25 sk_725 rfl rfl ?_
  refine gs0 29 [(0, .inr (.inr (some 725))), (1, .inl goal)] [.inr (.inr (some 725)), .inr (.inr (some 748))] dM_121_28 (fun _ => rfl) (Or.inr rfl) ?_
  refine gsGetE 1 dM_121_29 sk_725 rfl rfl hz ?_
  refine gs0 33 [(0, .inr (.inr (some 725))), (1, .inl goal)] [.inl 0, .inl 1, .inr (.inr (some 748))] dM_121_32 (fun _ => rfl) (Or.inr rfl) ?_
  refine gsIastN 1 dM_121_33 sk_748 rfl rfl ?_
  refine gs0 35 [(0, .inr (.inr (some 725))), (1, .inl goal)] [.inr (.inr (some 725))] dM_121_34 (fun _ => rfl) (Or.inr rfl) ?_
  refine gsGetR (some 749) dM_121_35 sk_725 rfl rfl ?_
  refine gs0 39 [(0, .inr (.inr (some 725))), (1, .inl goal)] [.inr (.inr (some 725)), .inr (.inr (some 749))] dM_121_38 (fun _ => rfl) (Or.inr rfl) ?_
  refine gsGetE 1 dM_121_39 sk_725 rfl rfl hz ?_
  refine gs0 43 [(0, .inr (.inr (some 725))), (1, .inl goal)] [.inl 0, .inl 1, .inr (.inr (some 749))] dM_121_42 (fun _ => rfl) (Or.inr rfl) ?_
  refine gsIastN 1 dM_121_43 sk_749 rfl rfl ?_
  refine gs0 45 [(0, .inr (.inr (some 725))), (1, .inl goal)] [.inr (.inr (some 725))] dM_121_44 (fun _ => rfl) (Or.inr rfl) ?_
  refine gsGetR (some 750) dM_121_45 sk_725 rfl rfl ?_
  refine gs0 49 [(0, .inr (.inr (some 725))), (1, .inl goal)] [.inr (.inr (some 725)), .inr (.inr (some 750))] dM_121_48 (fun _ => rfl) (Or.inr rfl) ?_
  refine gsGetE 1 dM_121_49 sk_725 rfl rfl hz ?_
  refine gs0 53 [(0, .inr (.inr (some 725))), (1, .inl goal)] [.inl 0, .inl 1, .inr (.inr (some 750))] dM_121_52 (fun _ => rfl) (Or.inr rfl) ?_
  refine gsIastN 1 dM_121_53 sk_750 rfl rfl ?_
  refine gs0 55 [(0, .inr (.inr (some 725))), (1, .inl goal)] [.inr (.inr (some 725))] dM_121_54 (fun _ => rfl) (Or.inr rfl) ?_
  refine gsGetR (some 751) dM_121_55 sk_725 rfl rfl ?_
  refine gs0 59 [(0, .inr (.inr (some 725))), (1, .inl goal)] [.inr (.inr (some 725)), .inr (.inr (some 751))] dM_121_58 (fun _ => rfl) (Or.inr rfl) ?_
  refine gsGetE 1 dM_121_59 sk_725 rfl rfl hz ?_
  refine gs0 63 [(0, .inr (.inr (some 725))), (1, .inl goal)] [.inl 1, .inl 1, .inr (.inr (some 751))] dM_121_62 (fun _ => rfl) (Or.inr rfl) ?_
  refine gsIastN 1 dM_121_63 sk_751 rfl rfl ?_
  refine gs0 65 [(0, .inr (.inr (some 725))), (1, .inl goal)] [.inr (.inr (some 725))] dM_121_64 (fun _ => rfl) (Or.inr rfl) ?_
  refine gs0 66 [(0, .inr (.inr (some 725))), (1, .inl goal)] [.inr (.inr (some 725)), .inr (.inr (some 725))] dM_121_65 (fun _ => rfl) (Or.inr rfl) ?_
  refine gs0 67 [(0, .inr (.inr (some 725))), (1, .inl goal)] [.inl goal, .inr (.inr (some 725)), .inr (.inr (some 725))] dM_121_66 (fun _ => rfl) (Or.inr rfl) ?_
  refine gs0 68 [(0, .inr (.inr (some 725))), (1, .inl goal)] [.inl 0, .inl goal, .inr (.inr (some 725)), .inr (.inr (some 725))] dM_121_67 (fun _ => rfl) (Or.inr rfl) ?_
  refine gs0 69 [(0, .inr (.inr (some 725))), (1, .inl goal)] [.inl 0, .inl 0, .inl goal, .inr (.inr (some 725)), .inr (.inr (some 725))] dM_121_68 (fun _ => rfl) (Or.inr rfl) ?_
  refine gsCallV (y := 123) (k := 725) (as := [.inr (.inr (some 725)), .inl goal, .inl 0, .inl 0]) (r := [.inr (.inr (some 725))]) dM_121_69 rfl rfl rfl (Nat.le_of_ble_eq_true rfl) sk_725 rfl (Nat.le_of_ble_eq_true rfl) ((ev_m_list (t := t) d (up2 (up2 (up2 (up2 (up2 (up2 ((mEmp sg)) 746 1 0) 747 1 0) 748 1 0) 749 1 0) 750 1 0) 751 1 1) goal 0 0 ht ht9).up (by omega)) (fun v4 s5 hv6 => ?_)
  obtain ⟨rfl, hv6b⟩ := hv6
  rw [hv6b]
  show GoS _ _ _ _ _ _ _ _ _ [.inl (nI t), .inr (.inr (some 725))] _ _
  refine gsPut dM_121_72 sk_725 rfl rfl rfl (by decide) ?_
  refine gs0 76 [(0, .inr (.inr (some 725))), (1, .inl goal)] [.inr (.inr (some 725))] dM_121_75 (fun _ => rfl) (Or.inr rfl) ?_
  refine gs0 77 [(0, .inr (.inr (some 725))), (1, .inl goal)] [.inl 0, .inr (.inr (some 725))] dM_121_76 (fun _ => rfl) (Or.inr rfl) ?_
  refine gsPut dM_121_77 sk_725 rfl rfl rfl (by decide) ?_
  refine gs0 81 [(0, .inr (.inr (some 725))), (1, .inl goal)] [.inr (.inr (some 725))] dM_121_80 (fun _ => rfl) (Or.inr rfl) ?_
  refine gs0 83 [(0, .inr (.inr (some 725))), (1, .inl goal)] [.inl 6, .inr (.inr (some 725))] dM_121_81 (fun _ => rfl) (Or.inr rfl) ?_
  refine gsPut dM_121_83 sk_725 rfl rfl rfl (by decide) ?_
  refine gs0 87 [(0, .inr (.inr (some 725))), (1, .inl goal)] [.inr (.inr (some 725))] dM_121_86 (fun _ => rfl) (Or.inr rfl) ?_
  refine gsCallV (y := 124) (k := 725) (as := [.inr (.inr (some 725))]) (r := []) dM_121_87 rfl rfl rfl (Nat.le_of_ble_eq_true rfl) sk_725 rfl (Nat.le_of_ble_eq_true rfl) (ev_m_waits_in d (mBeg1 sg t goal) (z := 1) (h := 0) (f := 6) (w := 0) hz (by decide) rfl rfl (by decide) rfl (by decide) (by decide) (by decide) (by decide)) (fun v7 s8 hv9 => ?_)
  obtain ⟨rfl, hv9b⟩ := hv9
  rw [hv9b]
  show GoS _ _ _ _ _ _ _ _ _ [] (mWaitS (mBeg1 sg t goal) 1 6 0 (42 * 1 + (0 + 0) % 42)) _
  refine gsRet (r := none) dM_121_90 (fun _ => rfl) (Or.inr rfl) ?_
  exact ⟨rfl, rfl⟩
