/-! the reference: loops: by program (wip/whole) -/
theorem dM_122_0 : decode prog_11_method_20_code 0 = .ok (.iconst 0, 1) := by decide +kernel
theorem dM_122_1 : decode prog_11_method_20_code 1 = .ok (.istore_n 1, 1) := by decide +kernel
theorem dM_122_2 : decode prog_11_method_20_code 2 = .ok (.iload_n 1, 1) := by decide +kernel
theorem dM_122_3 : decode prog_11_method_20_code 3 = .ok (.sipush 128, 3) := by decide +kernel
theorem dM_122_6 : decode prog_11_method_20_code 6 = .ok (.if_icmp .ge 17, 3) := by decide +kernel
theorem dM_122_9 : decode prog_11_method_20_code 9 = .ok (.aload_n 0, 1) := by decide +kernel
theorem dM_122_10 : decode prog_11_method_20_code 10 = .ok (.getfield 40, 3) := by decide +kernel
theorem dM_122_13 : decode prog_11_method_20_code 13 = .ok (.iload_n 1, 1) := by decide +kernel
theorem dM_122_14 : decode prog_11_method_20_code 14 = .ok (.bipush (-9), 2) := by decide +kernel
theorem dM_122_16 : decode prog_11_method_20_code 16 = .ok (.iastore, 1) := by decide +kernel
theorem dM_122_17 : decode prog_11_method_20_code 17 = .ok (.iinc 1 1, 3) := by decide +kernel
theorem dM_122_20 : decode prog_11_method_20_code 20 = .ok (.goto (-18), 3) := by decide +kernel
theorem dM_122_23 : decode prog_11_method_20_code 23 = .ok (.aload_n 0, 1) := by decide +kernel
theorem dM_122_24 : decode prog_11_method_20_code 24 = .ok (.iconst 0, 1) := by decide +kernel
theorem dM_122_25 : decode prog_11_method_20_code 25 = .ok (.putfield 138, 3) := by decide +kernel
theorem dM_122_28 : decode prog_11_method_20_code 28 = .ok (.return_, 1) := by decide +kernel
theorem dM_125_0 : decode prog_11_method_21_code 0 = .ok (.bipush 42, 2) := by decide +kernel
theorem dM_125_2 : decode prog_11_method_21_code 2 = .ok (.aload_n 0, 1) := by decide +kernel
theorem dM_125_3 : decode prog_11_method_21_code 3 = .ok (.getfield 164, 3) := by decide +kernel
theorem dM_125_6 : decode prog_11_method_21_code 6 = .ok (.imul, 1) := by decide +kernel
theorem dM_125_7 : decode prog_11_method_21_code 7 = .ok (.aload_n 0, 1) := by decide +kernel
theorem dM_125_8 : decode prog_11_method_21_code 8 = .ok (.getfield 70, 3) := by decide +kernel
theorem dM_125_11 : decode prog_11_method_21_code 11 = .ok (.aload_n 0, 1) := by decide +kernel
theorem dM_125_12 : decode prog_11_method_21_code 12 = .ok (.getfield 164, 3) := by decide +kernel
theorem dM_125_15 : decode prog_11_method_21_code 15 = .ok (.iaload, 1) := by decide +kernel
theorem dM_125_16 : decode prog_11_method_21_code 16 = .ok (.iload_n 1, 1) := by decide +kernel
theorem dM_125_17 : decode prog_11_method_21_code 17 = .ok (.iadd, 1) := by decide +kernel
theorem dM_125_18 : decode prog_11_method_21_code 18 = .ok (.bipush 42, 2) := by decide +kernel
theorem dM_125_20 : decode prog_11_method_21_code 20 = .ok (.irem, 1) := by decide +kernel
theorem dM_125_21 : decode prog_11_method_21_code 21 = .ok (.iadd, 1) := by decide +kernel
theorem dM_125_22 : decode prog_11_method_21_code 22 = .ok (.ireturn, 1) := by decide +kernel
theorem dM_138_0 : decode prog_11_method_25_code 0 = .ok (.aload_n 0, 1) := by decide +kernel
theorem dM_138_1 : decode prog_11_method_25_code 1 = .ok (.getfield 73, 3) := by decide +kernel
theorem dM_138_4 : decode prog_11_method_25_code 4 = .ok (.aload_n 0, 1) := by decide +kernel
theorem dM_138_5 : decode prog_11_method_25_code 5 = .ok (.getfield 164, 3) := by decide +kernel
theorem dM_138_8 : decode prog_11_method_25_code 8 = .ok (.iaload, 1) := by decide +kernel
theorem dM_138_9 : decode prog_11_method_25_code 9 = .ok (.ifCond .eq 17, 3) := by decide +kernel
theorem dM_138_12 : decode prog_11_method_25_code 12 = .ok (.aload_n 0, 1) := by decide +kernel
theorem dM_138_13 : decode prog_11_method_25_code 13 = .ok (.getfield 76, 3) := by decide +kernel
theorem dM_138_16 : decode prog_11_method_25_code 16 = .ok (.aload_n 0, 1) := by decide +kernel
theorem dM_138_17 : decode prog_11_method_25_code 17 = .ok (.getfield 164, 3) := by decide +kernel
theorem dM_138_20 : decode prog_11_method_25_code 20 = .ok (.iaload, 1) := by decide +kernel
theorem dM_138_21 : decode prog_11_method_25_code 21 = .ok (.bipush 30, 2) := by decide +kernel
theorem dM_138_23 : decode prog_11_method_25_code 23 = .ok (.if_icmp .ne 7, 3) := by decide +kernel
theorem dM_138_26 : decode prog_11_method_25_code 26 = .ok (.iconst 1, 1) := by decide +kernel
theorem dM_138_27 : decode prog_11_method_25_code 27 = .ok (.goto 4, 3) := by decide +kernel
theorem dM_138_30 : decode prog_11_method_25_code 30 = .ok (.iconst 0, 1) := by decide +kernel
theorem dM_138_31 : decode prog_11_method_25_code 31 = .ok (.ireturn, 1) := by decide +kernel
theorem dM_124_0 : decode prog_11_method_23_code 0 = .ok (.aload_n 0, 1) := by decide +kernel
theorem dM_124_1 : decode prog_11_method_23_code 1 = .ok (.getfield 176, 3) := by decide +kernel
theorem dM_124_4 : decode prog_11_method_23_code 4 = .ok (.bipush 60, 2) := by decide +kernel
theorem dM_124_6 : decode prog_11_method_23_code 6 = .ok (.if_icmp .gt 17, 3) := by decide +kernel
theorem dM_124_9 : decode prog_11_method_23_code 9 = .ok (.aload_n 0, 1) := by decide +kernel
theorem dM_124_10 : decode prog_11_method_23_code 10 = .ok (.getfield 73, 3) := by decide +kernel
theorem dM_124_13 : decode prog_11_method_23_code 13 = .ok (.aload_n 0, 1) := by decide +kernel
theorem dM_124_14 : decode prog_11_method_23_code 14 = .ok (.getfield 164, 3) := by decide +kernel
theorem dM_124_17 : decode prog_11_method_23_code 17 = .ok (.iaload, 1) := by decide +kernel
theorem dM_124_18 : decode prog_11_method_23_code 18 = .ok (.bipush 40, 2) := by decide +kernel
theorem dM_124_20 : decode prog_11_method_23_code 20 = .ok (.if_icmp .lt 17, 3) := by decide +kernel
theorem dM_124_23 : decode prog_11_method_23_code 23 = .ok (.aload_n 0, 1) := by decide +kernel
theorem dM_124_24 : decode prog_11_method_23_code 24 = .ok (.getfield 82, 3) := by decide +kernel
theorem dM_124_27 : decode prog_11_method_23_code 27 = .ok (.aload_n 0, 1) := by decide +kernel
theorem dM_124_28 : decode prog_11_method_23_code 28 = .ok (.getfield 164, 3) := by decide +kernel
theorem dM_124_31 : decode prog_11_method_23_code 31 = .ok (.dup2, 1) := by decide +kernel
theorem dM_124_32 : decode prog_11_method_23_code 32 = .ok (.iaload, 1) := by decide +kernel
theorem dM_124_33 : decode prog_11_method_23_code 33 = .ok (.iconst 1, 1) := by decide +kernel
theorem dM_124_34 : decode prog_11_method_23_code 34 = .ok (.iadd, 1) := by decide +kernel
theorem dM_124_35 : decode prog_11_method_23_code 35 = .ok (.iastore, 1) := by decide +kernel
theorem dM_124_36 : decode prog_11_method_23_code 36 = .ok (.return_, 1) := by decide +kernel
theorem dM_124_37 : decode prog_11_method_23_code 37 = .ok (.aload_n 0, 1) := by decide +kernel
theorem dM_124_38 : decode prog_11_method_23_code 38 = .ok (.aload_n 0, 1) := by decide +kernel
theorem dM_124_39 : decode prog_11_method_23_code 39 = .ok (.getfield 73, 3) := by decide +kernel
theorem dM_124_42 : decode prog_11_method_23_code 42 = .ok (.aload_n 0, 1) := by decide +kernel
theorem dM_124_43 : decode prog_11_method_23_code 43 = .ok (.getfield 164, 3) := by decide +kernel
theorem dM_124_46 : decode prog_11_method_23_code 46 = .ok (.iaload, 1) := by decide +kernel
theorem dM_124_47 : decode prog_11_method_23_code 47 = .ok (.invokevirtual 179, 3) := by decide +kernel
theorem dM_124_50 : decode prog_11_method_23_code 50 = .ok (.istore_n 1, 1) := by decide +kernel
theorem dM_124_51 : decode prog_11_method_23_code 51 = .ok (.iconst 0, 1) := by decide +kernel
theorem dM_124_52 : decode prog_11_method_23_code 52 = .ok (.istore_n 2, 1) := by decide +kernel
theorem dM_124_53 : decode prog_11_method_23_code 53 = .ok (.iload_n 2, 1) := by decide +kernel
theorem dM_124_54 : decode prog_11_method_23_code 54 = .ok (.bipush 64, 2) := by decide +kernel
theorem dM_124_56 : decode prog_11_method_23_code 56 = .ok (.if_icmp .ge 26, 3) := by decide +kernel
theorem dM_124_59 : decode prog_11_method_23_code 59 = .ok (.aload_n 0, 1) := by decide +kernel
theorem dM_124_60 : decode prog_11_method_23_code 60 = .ok (.getfield 49, 3) := by decide +kernel
theorem dM_124_63 : decode prog_11_method_23_code 63 = .ok (.bipush 64, 2) := by decide +kernel
theorem dM_124_65 : decode prog_11_method_23_code 65 = .ok (.iload_n 1, 1) := by decide +kernel
theorem dM_124_66 : decode prog_11_method_23_code 66 = .ok (.imul, 1) := by decide +kernel
theorem dM_124_67 : decode prog_11_method_23_code 67 = .ok (.iload_n 2, 1) := by decide +kernel
theorem dM_124_68 : decode prog_11_method_23_code 68 = .ok (.iadd, 1) := by decide +kernel
theorem dM_124_69 : decode prog_11_method_23_code 69 = .ok (.aload_n 0, 1) := by decide +kernel
theorem dM_124_70 : decode prog_11_method_23_code 70 = .ok (.getfield 40, 3) := by decide +kernel
theorem dM_124_73 : decode prog_11_method_23_code 73 = .ok (.iload_n 2, 1) := by decide +kernel
theorem dM_124_74 : decode prog_11_method_23_code 74 = .ok (.iaload, 1) := by decide +kernel
theorem dM_124_75 : decode prog_11_method_23_code 75 = .ok (.iastore, 1) := by decide +kernel
theorem dM_124_76 : decode prog_11_method_23_code 76 = .ok (.iinc 2 1, 3) := by decide +kernel
theorem dM_124_79 : decode prog_11_method_23_code 79 = .ok (.goto (-26), 3) := by decide +kernel
theorem dM_124_82 : decode prog_11_method_23_code 82 = .ok (.aload_n 0, 1) := by decide +kernel
theorem dM_124_83 : decode prog_11_method_23_code 83 = .ok (.getfield 52, 3) := by decide +kernel
theorem dM_124_86 : decode prog_11_method_23_code 86 = .ok (.iload_n 1, 1) := by decide +kernel
theorem dM_124_87 : decode prog_11_method_23_code 87 = .ok (.aload_n 0, 1) := by decide +kernel
theorem dM_124_88 : decode prog_11_method_23_code 88 = .ok (.getfield 170, 3) := by decide +kernel
theorem dM_124_91 : decode prog_11_method_23_code 91 = .ok (.iastore, 1) := by decide +kernel
theorem dM_124_92 : decode prog_11_method_23_code 92 = .ok (.aload_n 0, 1) := by decide +kernel
theorem dM_124_93 : decode prog_11_method_23_code 93 = .ok (.getfield 55, 3) := by decide +kernel
theorem dM_124_96 : decode prog_11_method_23_code 96 = .ok (.iload_n 1, 1) := by decide +kernel
theorem dM_124_97 : decode prog_11_method_23_code 97 = .ok (.aload_n 0, 1) := by decide +kernel
theorem dM_124_98 : decode prog_11_method_23_code 98 = .ok (.getfield 173, 3) := by decide +kernel
theorem dM_124_101 : decode prog_11_method_23_code 101 = .ok (.iastore, 1) := by decide +kernel
theorem dM_124_102 : decode prog_11_method_23_code 102 = .ok (.aload_n 0, 1) := by decide +kernel
theorem dM_124_103 : decode prog_11_method_23_code 103 = .ok (.getfield 58, 3) := by decide +kernel
theorem dM_124_106 : decode prog_11_method_23_code 106 = .ok (.iload_n 1, 1) := by decide +kernel
theorem dM_124_107 : decode prog_11_method_23_code 107 = .ok (.aload_n 0, 1) := by decide +kernel
theorem dM_124_108 : decode prog_11_method_23_code 108 = .ok (.getfield 176, 3) := by decide +kernel
theorem dM_124_111 : decode prog_11_method_23_code 111 = .ok (.iastore, 1) := by decide +kernel
theorem dM_124_112 : decode prog_11_method_23_code 112 = .ok (.aload_n 0, 1) := by decide +kernel
theorem dM_124_113 : decode prog_11_method_23_code 113 = .ok (.getfield 73, 3) := by decide +kernel
theorem dM_124_116 : decode prog_11_method_23_code 116 = .ok (.aload_n 0, 1) := by decide +kernel
theorem dM_124_117 : decode prog_11_method_23_code 117 = .ok (.getfield 164, 3) := by decide +kernel
theorem dM_124_120 : decode prog_11_method_23_code 120 = .ok (.dup2, 1) := by decide +kernel
theorem dM_124_121 : decode prog_11_method_23_code 121 = .ok (.iaload, 1) := by decide +kernel
theorem dM_124_122 : decode prog_11_method_23_code 122 = .ok (.iconst 1, 1) := by decide +kernel
theorem dM_124_123 : decode prog_11_method_23_code 123 = .ok (.iadd, 1) := by decide +kernel
theorem dM_124_124 : decode prog_11_method_23_code 124 = .ok (.iastore, 1) := by decide +kernel
theorem dM_124_125 : decode prog_11_method_23_code 125 = .ok (.return_, 1) := by decide +kernel
set_option maxRecDepth 100000 in
theorem m_empties_loop (d : Nat)  {P : Option rv → rSg → Prop} : ∀ (n t : Nat) (sg : rSg), t + n = 128 →  GoS rSkel d 9 2 none false prog_11_method_20_code 23 [(1, .inl (nI 128)), (0, .inr (.inr (some 725)))] [] (upC sg 736 (fillF (sg 736) t n (-9))) P → GoS rSkel d 9 2 none false prog_11_method_20_code 2 [(1, .inl (nI t)), (0, .inr (.inr (some 725)))] [] sg P := by
  intro n
  induction n with
  | zero =>
    intro t sg ht  hk
    obtain rfl : t = 128 := by omega
    rw [fill_zero] at hk
    refine gs0 3 [(1, .inl (nI 128)), (0, .inr (.inr (some 725)))] [.inl (nI 128)] dM_122_2 (fun _ => rfl) (Or.inr rfl) ?_
    refine gs0 6 [(1, .inl (nI 128)), (0, .inr (.inr (some 725)))] [.inl 128, .inl (nI 128)] dM_122_3 (fun _ => rfl) (Or.inr rfl) ?_
    refine gsIf (t := 23) (C := 128 ≤ (nI 128)) (r := []) dM_122_6 (fun _ => rfl) (Or.inr rfl) (rTest_iff .ge (nI 128) 128) (fun h1 => ?_) (fun h1 => absurd (nI_le (a := 128) (b := 128) (by decide) (by decide)) h1)
    exact hk
  | succ n ih =>
    intro t sg ht  hk
    refine gs0 3 [(1, .inl (nI t)), (0, .inr (.inr (some 725)))] [.inl (nI t)] dM_122_2 (fun _ => rfl) (Or.inr rfl) ?_
    refine gs0 6 [(1, .inl (nI t)), (0, .inr (.inr (some 725)))] [.inl 128, .inl (nI t)] dM_122_3 (fun _ => rfl) (Or.inr rfl) ?_
    refine gsIf (t := 23) (C := 128 ≤ (nI t)) (r := []) dM_122_6 (fun _ => rfl) (Or.inr rfl) (rTest_iff .ge (nI t) 128) (fun h1 => absurd h1 (fun q => absurd ((nI_leI (a := 128) (b := t) (by decide) (by omega)).mp q) (by omega))) (fun h1 => ?_)
    refine gs0 10 [(1, .inl (nI t)), (0, .inr (.inr (some 725)))] [.inr (.inr (some 725))] dM_122_9 (fun _ => rfl) (Or.inr rfl) ?_
    refine gsGetR (some 736) dM_122_10 sk_725 rfl rfl ?_
    refine gs0 14 [(1, .inl (nI t)), (0, .inr (.inr (some 725)))] [.inl (nI t), .inr (.inr (some 736))] dM_122_13 (fun _ => rfl) (Or.inr rfl) ?_
    refine gs0 16 [(1, .inl (nI t)), (0, .inr (.inr (some 725)))] [.inl ((-9)), .inl (nI t), .inr (.inr (some 736))] dM_122_14 (fun _ => rfl) (Or.inr rfl) ?_
    refine gsIastN t dM_122_16 sk_736 (rIn_nI (by omega) (by decide)) (nI_clamp (by omega)) ?_
    refine gs0 20 [(1, .inl ((nI t) + 1)), (0, .inr (.inr (some 725)))] [] dM_122_17 (fun _ => rfl) (Or.inr rfl) ?_
    refine gs0 2 [(1, .inl ((nI t) + 1)), (0, .inr (.inr (some 725)))] [] dM_122_20 (fun _ => rfl) (Or.inr rfl) ?_
    refine gsL (L2 := [(1, .inl (nI (t + 1))), (0, .inr (.inr (some 725)))]) (by rw [nI_1]) ?_
    refine ih (t + 1) _ (by omega) ?_
    rw [fill_step]
    exact hk
/-- what empties leaves -/
def mEmp (sg : rSg) : rSg := up2 (upC sg 736 (fillF (sg 736) 0 128 (-9))) 725 16 0
set_option maxRecDepth 100000 in
theorem ev_m_empties (d : Nat) (sg : rSg)  : EvS rSkel (d + 1) 122 [.inr (.inr (some 725))] sg (fun v s2 => v = none ∧ s2 = mEmp sg) := by
  refine EvS.of (ini := false) rfl ⟨rfl, Nat.le_of_ble_eq_true rfl⟩ rfl ?_
  show GoS rSkel d 9 2 none false prog_11_method_20_code 0 [(0, .inr (.inr (some 725)))] [] sg _
  refine gs0 1 [(0, .inr (.inr (some 725)))] [.inl 0] dM_122_0 (fun _ => rfl) (Or.inr rfl) ?_
  refine gs0 2 [(1, .inl 0), (0, .inr (.inr (some 725)))] [] dM_122_1 (fun _ => rfl) (Or.inr rfl) ?_
  refine m_empties_loop d 128 0 sg rfl ?_
  refine gs0 24 [(1, .inl (nI 128)), (0, .inr (.inr (some 725)))] [.inr (.inr (some 725))] dM_122_23 (fun _ => rfl) (Or.inr rfl) ?_
  refine gs0 25 [(1, .inl (nI 128)), (0, .inr (.inr (some 725)))] [.inl 0, .inr (.inr (some 725))] dM_122_24 (fun _ => rfl) (Or.inr rfl) ?_
  refine gsPut dM_122_25 sk_725 rfl rfl rfl (by decide) ?_
  refine gsRet (r := none) dM_122_28 (fun _ => rfl) (Or.inr rfl) ?_
  exact ⟨rfl, rfl⟩
set_option maxRecDepth 100000 in
theorem ev_m_slot (d : Nat) (sg : rSg) {z h : Nat} (hz : sg 725 21 = nI z) (hz2 : z < 2) (hh : sg 746 z = nI h) {j : Nat} (hj : h + j < 100) : EvS rSkel (d + 1) 125 [.inr (.inr (some 725)), .inl (nI j)] sg (fun v s2 => v = some (.inl (nI (42 * z + (h + j) % 42))) ∧ s2 = sg) := by
  refine EvS.of (ini := false) rfl ⟨rfl, Nat.le_of_ble_eq_true rfl⟩ rfl ?_
  show GoS rSkel d 9 2 (some .int) false prog_11_method_21_code 0 [(0, .inr (.inr (some 725))), (1, .inl (nI j))] [] sg _
  refine gs0 2 [(0, .inr (.inr (some 725))), (1, .inl (nI j))] [.inl 42] dM_125_0 (fun _ => rfl) (Or.inr rfl) ?_
  refine gs0 3 [(0, .inr (.inr (some 725))), (1, .inl (nI j))] [.inr (.inr (some 725)), .inl 42] dM_125_2 (fun _ => rfl) (Or.inr rfl) ?_
  refine gsGetE (nI z) dM_125_3 sk_725 rfl rfl hz ?_
  refine gs0 7 [(0, .inr (.inr (some 725))), (1, .inl (nI j))] [.inl (42 * (nI z))] dM_125_6 (fun _ => rfl) (Or.inr rfl) ?_
  refine gsTop (pk_mul 42 z) ?_
  refine gs0 8 [(0, .inr (.inr (some 725))), (1, .inl (nI j))] [.inr (.inr (some 725)), .inl (nI (42 * z))] dM_125_7 (fun _ => rfl) (Or.inr rfl) ?_
  refine gsGetR (some 746) dM_125_8 sk_725 rfl rfl ?_
  refine gs0 12 [(0, .inr (.inr (some 725))), (1, .inl (nI j))] [.inr (.inr (some 725)), .inr (.inr (some 746)), .inl (nI (42 * z))] dM_125_11 (fun _ => rfl) (Or.inr rfl) ?_
  refine gsGetE (nI z) dM_125_12 sk_725 rfl rfl hz ?_
  refine gsIaldN z (nI h) dM_125_15 sk_746 (rIn_nI (by omega) (by decide)) (nI_clamp (by omega)) hh ?_
  refine gs0 17 [(0, .inr (.inr (some 725))), (1, .inl (nI j))] [.inl (nI j), .inl (nI h), .inl (nI (42 * z))] dM_125_16 (fun _ => rfl) (Or.inr rfl) ?_
  refine gs0 18 [(0, .inr (.inr (some 725))), (1, .inl (nI j))] [.inl ((nI h) + (nI j)), .inl (nI (42 * z))] dM_125_17 (fun _ => rfl) (Or.inr rfl) ?_
  refine gsTop (nI_add h j) ?_
  refine gs0 20 [(0, .inr (.inr (some 725))), (1, .inl (nI j))] [.inl 42, .inl (nI (h + j)), .inl (nI (42 * z))] dM_125_18 (fun _ => rfl) (Or.inr rfl) ?_
  refine gs0 21 [(0, .inr (.inr (some 725))), (1, .inl (nI j))] [.inl ((nI (h + j)) - (nI (h + j)) / 42 * 42), .inl (nI (42 * z))] dM_125_20 (fun _ => rfl) (Or.inr rfl) ?_
  refine gsTop (nI_rem (by omega) (by decide) (by decide)) ?_
  refine gs0 22 [(0, .inr (.inr (some 725))), (1, .inl (nI j))] [.inl ((nI (42 * z)) + (nI ((h + j) % 42)))] dM_125_21 (fun _ => rfl) (Or.inr rfl) ?_
  refine gsTop (nI_add _ _) ?_
  refine gsRet (r := some (.inl (nI (42 * z + (h + j) % 42)))) dM_125_22 (fun _ => rfl) (Or.inr rfl) ?_
  exact ⟨rfl, rfl⟩
set_option maxRecDepth 100000 in
theorem ev_m_isDone (d : Nat) (sg : rSg) {z w a : Nat} (hz : sg 725 21 = nI z) (hz2 : z < 2) (hw : sg 747 z = nI w) (ha : sg 748 z = nI a) (hw9 : w < 1000) (ha9 : a < 1000) : EvS rSkel (d + 1) 138 [.inr (.inr (some 725))] sg (fun v s2 => v = some (.inl (if w = 0 ∨ a = 30 then 1 else 0)) ∧ s2 = sg) := by
  refine EvS.of (ini := false) rfl ⟨rfl, Nat.le_of_ble_eq_true rfl⟩ rfl ?_
  show GoS rSkel d 9 1 (some .boolean) false prog_11_method_25_code 0 [(0, .inr (.inr (some 725)))] [] sg _
  refine gs0 1 [(0, .inr (.inr (some 725)))] [.inr (.inr (some 725))] dM_138_0 (fun _ => rfl) (Or.inr rfl) ?_
  refine gsGetR (some 747) dM_138_1 sk_725 rfl rfl ?_
  refine gs0 5 [(0, .inr (.inr (some 725)))] [.inr (.inr (some 725)), .inr (.inr (some 747))] dM_138_4 (fun _ => rfl) (Or.inr rfl) ?_
  refine gsGetE (nI z) dM_138_5 sk_725 rfl rfl hz ?_
  refine gsIaldN z (nI w) dM_138_8 sk_747 (rIn_nI (by omega) (by decide)) (nI_clamp (by omega)) hw ?_
  refine gsIf (t := 26) (C := (nI w) = 0) (r := []) dM_138_9 (fun _ => rfl) (Or.inr rfl) (rTest_iff .eq (nI w) 0) (fun h1 => ?_) (fun h1 => ?_)
  · skip
    refine gs0 27 [(0, .inr (.inr (some 725)))] [.inl 1] dM_138_26 (fun _ => rfl) (Or.inr rfl) ?_
    refine gs0 31 [(0, .inr (.inr (some 725)))] [.inl 1] dM_138_27 (fun _ => rfl) (Or.inr rfl) ?_
    refine gsRet (r := some (.inl 1)) dM_138_31 (fun _ => rfl) (Or.inr rfl) ?_
    refine ⟨?_, rfl⟩
    congr 2
    first
      | (have q1 := (nI_eq (a := w) (b := 0) (by omega) (by decide)).mp h1; rw [if_pos (Or.inl q1)])
      | (have q1 : ¬ w = 0 := fun q => h1 ((nI_eq (a := w) (b := 0) (by omega) (by decide)).mpr q)
         first
           | (have q2 : ¬ a = 30 := fun q => h2 ((nI_eq (a := a) (b := 30) (by omega) (by decide)).mpr q); rw [if_neg (by omega)])
           | (have q2 : a = 30 := (nI_eq (a := a) (b := 30) (by omega) (by decide)).mp (Classical.not_not.mp h2); rw [if_pos (Or.inr q2)]))
  · skip
    refine gs0 13 [(0, .inr (.inr (some 725)))] [.inr (.inr (some 725))] dM_138_12 (fun _ => rfl) (Or.inr rfl) ?_
    refine gsGetR (some 748) dM_138_13 sk_725 rfl rfl ?_
    refine gs0 17 [(0, .inr (.inr (some 725)))] [.inr (.inr (some 725)), .inr (.inr (some 748))] dM_138_16 (fun _ => rfl) (Or.inr rfl) ?_
    refine gsGetE (nI z) dM_138_17 sk_725 rfl rfl hz ?_
    refine gsIaldN z (nI a) dM_138_20 sk_748 (rIn_nI (by omega) (by decide)) (nI_clamp (by omega)) ha ?_
    refine gs0 23 [(0, .inr (.inr (some 725)))] [.inl 30, .inl (nI a)] dM_138_21 (fun _ => rfl) (Or.inr rfl) ?_
    refine gsIf (t := 30) (C := ¬ (nI a) = 30) (r := []) dM_138_23 (fun _ => rfl) (Or.inr rfl) (rTest_iff .ne (nI a) 30) (fun h2 => ?_) (fun h2 => ?_)
    · skip
      refine gs0 31 [(0, .inr (.inr (some 725)))] [.inl 0] dM_138_30 (fun _ => rfl) (Or.inr rfl) ?_
      refine gsRet (r := some (.inl 0)) dM_138_31 (fun _ => rfl) (Or.inr rfl) ?_
      refine ⟨?_, rfl⟩
      congr 2
      first
        | (have q1 := (nI_eq (a := w) (b := 0) (by omega) (by decide)).mp h1; rw [if_pos (Or.inl q1)])
        | (have q1 : ¬ w = 0 := fun q => h1 ((nI_eq (a := w) (b := 0) (by omega) (by decide)).mpr q)
           first
             | (have q2 : ¬ a = 30 := fun q => h2 ((nI_eq (a := a) (b := 30) (by omega) (by decide)).mpr q); rw [if_neg (by omega)])
             | (have q2 : a = 30 := (nI_eq (a := a) (b := 30) (by omega) (by decide)).mp (Classical.not_not.mp h2); rw [if_pos (Or.inr q2)]))
    · skip
      refine gs0 27 [(0, .inr (.inr (some 725)))] [.inl 1] dM_138_26 (fun _ => rfl) (Or.inr rfl) ?_
      refine gs0 31 [(0, .inr (.inr (some 725)))] [.inl 1] dM_138_27 (fun _ => rfl) (Or.inr rfl) ?_
      refine gsRet (r := some (.inl 1)) dM_138_31 (fun _ => rfl) (Or.inr rfl) ?_
      refine ⟨?_, rfl⟩
      congr 2
      first
        | (have q1 := (nI_eq (a := w) (b := 0) (by omega) (by decide)).mp h1; rw [if_pos (Or.inl q1)])
        | (have q1 : ¬ w = 0 := fun q => h1 ((nI_eq (a := w) (b := 0) (by omega) (by decide)).mpr q)
           first
             | (have q2 : ¬ a = 30 := fun q => h2 ((nI_eq (a := a) (b := 30) (by omega) (by decide)).mpr q); rw [if_neg (by omega)])
             | (have q2 : a = 30 := (nI_eq (a := a) (b := 30) (by omega) (by decide)).mp (Classical.not_not.mp h2); rw [if_pos (Or.inr q2)]))
set_option maxRecDepth 100000 in
theorem m_waits_loop (d : Nat) {s : Nat} (hs : s < 84) {P : Option rv → rSg → Prop} : ∀ (n t : Nat) (sg : rSg), t + n = 64 →  GoS rSkel d 9 3 none false prog_11_method_23_code 82 [(2, .inl (nI 64)), (1, .inl (nI s)), (0, .inr (.inr (some 725)))] [] (upC sg 739 (va_cpy (sg 736) (sg 739) t (64 * s + t) n)) P → GoS rSkel d 9 3 none false prog_11_method_23_code 53 [(2, .inl (nI t)), (1, .inl (nI s)), (0, .inr (.inr (some 725)))] [] sg P := by
  intro n
  induction n with
  | zero =>
    intro t sg ht  hk
    obtain rfl : t = 64 := by omega
    rw [cpy_zero] at hk
    refine gs0 54 [(2, .inl (nI 64)), (1, .inl (nI s)), (0, .inr (.inr (some 725)))] [.inl (nI 64)] dM_124_53 (fun _ => rfl) (Or.inr rfl) ?_
    refine gs0 56 [(2, .inl (nI 64)), (1, .inl (nI s)), (0, .inr (.inr (some 725)))] [.inl 64, .inl (nI 64)] dM_124_54 (fun _ => rfl) (Or.inr rfl) ?_
    refine gsIf (t := 82) (C := 64 ≤ (nI 64)) (r := []) dM_124_56 (fun _ => rfl) (Or.inr rfl) (rTest_iff .ge (nI 64) 64) (fun h1 => ?_) (fun h1 => absurd (nI_le (a := 64) (b := 64) (by decide) (by decide)) h1)
    exact hk
  | succ n ih =>
    intro t sg ht  hk
    refine gs0 54 [(2, .inl (nI t)), (1, .inl (nI s)), (0, .inr (.inr (some 725)))] [.inl (nI t)] dM_124_53 (fun _ => rfl) (Or.inr rfl) ?_
    refine gs0 56 [(2, .inl (nI t)), (1, .inl (nI s)), (0, .inr (.inr (some 725)))] [.inl 64, .inl (nI t)] dM_124_54 (fun _ => rfl) (Or.inr rfl) ?_
    refine gsIf (t := 82) (C := 64 ≤ (nI t)) (r := []) dM_124_56 (fun _ => rfl) (Or.inr rfl) (rTest_iff .ge (nI t) 64) (fun h1 => absurd h1 (fun q => absurd ((nI_leI (a := 64) (b := t) (by decide) (by omega)).mp q) (by omega))) (fun h1 => ?_)
    refine gs0 60 [(2, .inl (nI t)), (1, .inl (nI s)), (0, .inr (.inr (some 725)))] [.inr (.inr (some 725))] dM_124_59 (fun _ => rfl) (Or.inr rfl) ?_
    refine gsGetR (some 739) dM_124_60 sk_725 rfl rfl ?_
    refine gs0 65 [(2, .inl (nI t)), (1, .inl (nI s)), (0, .inr (.inr (some 725)))] [.inl 64, .inr (.inr (some 739))] dM_124_63 (fun _ => rfl) (Or.inr rfl) ?_
    refine gs0 66 [(2, .inl (nI t)), (1, .inl (nI s)), (0, .inr (.inr (some 725)))] [.inl (nI s), .inl 64, .inr (.inr (some 739))] dM_124_65 (fun _ => rfl) (Or.inr rfl) ?_
    refine gs0 67 [(2, .inl (nI t)), (1, .inl (nI s)), (0, .inr (.inr (some 725)))] [.inl (64 * (nI s)), .inr (.inr (some 739))] dM_124_66 (fun _ => rfl) (Or.inr rfl) ?_
    refine gsTop (pk_mul 64 s) ?_
    refine gs0 68 [(2, .inl (nI t)), (1, .inl (nI s)), (0, .inr (.inr (some 725)))] [.inl (nI t), .inl (nI (64 * s)), .inr (.inr (some 739))] dM_124_67 (fun _ => rfl) (Or.inr rfl) ?_
    refine gs0 69 [(2, .inl (nI t)), (1, .inl (nI s)), (0, .inr (.inr (some 725)))] [.inl ((nI (64 * s)) + (nI t)), .inr (.inr (some 739))] dM_124_68 (fun _ => rfl) (Or.inr rfl) ?_
    refine gsTop (nI_add _ _) ?_
    refine gs0 70 [(2, .inl (nI t)), (1, .inl (nI s)), (0, .inr (.inr (some 725)))] [.inr (.inr (some 725)), .inl (nI (64 * s + t)), .inr (.inr (some 739))] dM_124_69 (fun _ => rfl) (Or.inr rfl) ?_
    refine gsGetR (some 736) dM_124_70 sk_725 rfl rfl ?_
    refine gs0 74 [(2, .inl (nI t)), (1, .inl (nI s)), (0, .inr (.inr (some 725)))] [.inl (nI t), .inr (.inr (some 736)), .inl (nI (64 * s + t)), .inr (.inr (some 739))] dM_124_73 (fun _ => rfl) (Or.inr rfl) ?_
    refine gsIaldN t (sg 736 t) dM_124_74 sk_736 (rIn_nI (by omega) (by decide)) (nI_clamp (by omega)) rfl ?_
    refine gsIastN (64 * s + t) dM_124_75 sk_739 (rIn_nI (by omega) (by decide)) (nI_clamp (by omega)) ?_
    refine gs0 79 [(2, .inl ((nI t) + 1)), (1, .inl (nI s)), (0, .inr (.inr (some 725)))] [] dM_124_76 (fun _ => rfl) (Or.inr rfl) ?_
    refine gs0 53 [(2, .inl ((nI t) + 1)), (1, .inl (nI s)), (0, .inr (.inr (some 725)))] [] dM_124_79 (fun _ => rfl) (Or.inr rfl) ?_
    refine gsL (L2 := [(2, .inl (nI (t + 1))), (1, .inl (nI s)), (0, .inr (.inr (some 725)))]) (by rw [nI_1]) ?_
    refine ih (t + 1) _ (by omega) ?_
    rw [show 64 * s + (t + 1) = (64 * s + t) + 1 from rfl, cpy_step sg (by decide)]
    exact hk
set_option maxRecDepth 100000 in
theorem ev_m_waits_lost (d : Nat) (sg : rSg) {z h : Nat} (hz : sg 725 21 = nI z) (hz2 : z < 2) (hh : sg 746 z = nI h) {f w : Nat} (hf : sg 725 20 = nI f) (hf9 : f < 1000) (hw : sg 747 z = nI w) (hw9 : w < 1000) (hor : 60 < f ∨ 40 ≤ w) : EvS rSkel (d + 1) 124 [.inr (.inr (some 725))] sg (fun v s2 => v = none ∧ s2 = up2 sg 750 z (sg 750 z + 1)) := by
  refine EvS.of (ini := false) rfl ⟨rfl, Nat.le_of_ble_eq_true rfl⟩ rfl ?_
  show GoS rSkel d 9 3 none false prog_11_method_23_code 0 [(0, .inr (.inr (some 725)))] [] sg _
  refine gs0 1 [(0, .inr (.inr (some 725)))] [.inr (.inr (some 725))] dM_124_0 (fun _ => rfl) (Or.inr rfl) ?_
  refine gsGetE (nI f) dM_124_1 sk_725 rfl rfl hf ?_
  refine gs0 6 [(0, .inr (.inr (some 725)))] [.inl 60, .inl (nI f)] dM_124_4 (fun _ => rfl) (Or.inr rfl) ?_
  refine gsIf (t := 23) (C := 60 < (nI f)) (r := []) dM_124_6 (fun _ => rfl) (Or.inr rfl) (rTest_iff .gt (nI f) 60) (fun h1 => ?_) (fun h1 => ?_)
  · skip
    refine gs0 24 [(0, .inr (.inr (some 725)))] [.inr (.inr (some 725))] dM_124_23 (fun _ => rfl) (Or.inr rfl) ?_
    refine gsGetR (some 750) dM_124_24 sk_725 rfl rfl ?_
    refine gs0 28 [(0, .inr (.inr (some 725)))] [.inr (.inr (some 725)), .inr (.inr (some 750))] dM_124_27 (fun _ => rfl) (Or.inr rfl) ?_
    refine gsGetE (nI z) dM_124_28 sk_725 rfl rfl hz ?_
    refine gs0 32 [(0, .inr (.inr (some 725)))] [.inl (nI z), .inr (.inr (some 750)), .inl (nI z), .inr (.inr (some 750))] dM_124_31 (fun _ => rfl) (Or.inr rfl) ?_
    refine gsIaldN z (sg 750 z) dM_124_32 sk_750 (rIn_nI (by omega) (by decide)) (nI_clamp (by omega)) rfl ?_
    refine gs0 34 [(0, .inr (.inr (some 725)))] [.inl 1, .inl (sg 750 z), .inl (nI z), .inr (.inr (some 750))] dM_124_33 (fun _ => rfl) (Or.inr rfl) ?_
    refine gs0 35 [(0, .inr (.inr (some 725)))] [.inl ((sg 750 z) + 1), .inl (nI z), .inr (.inr (some 750))] dM_124_34 (fun _ => rfl) (Or.inr rfl) ?_
    refine gsIastN z dM_124_35 sk_750 (rIn_nI (by omega) (by decide)) (nI_clamp (by omega)) ?_
    refine gsRet (r := none) dM_124_36 (fun _ => rfl) (Or.inr rfl) ?_
    exact ⟨rfl, rfl⟩
  · skip
    refine gs0 10 [(0, .inr (.inr (some 725)))] [.inr (.inr (some 725))] dM_124_9 (fun _ => rfl) (Or.inr rfl) ?_
    refine gsGetR (some 747) dM_124_10 sk_725 rfl rfl ?_
    refine gs0 14 [(0, .inr (.inr (some 725)))] [.inr (.inr (some 725)), .inr (.inr (some 747))] dM_124_13 (fun _ => rfl) (Or.inr rfl) ?_
    refine gsGetE (nI z) dM_124_14 sk_725 rfl rfl hz ?_
    refine gsIaldN z (nI w) dM_124_17 sk_747 (rIn_nI (by omega) (by decide)) (nI_clamp (by omega)) hw ?_
    refine gs0 20 [(0, .inr (.inr (some 725)))] [.inl 40, .inl (nI w)] dM_124_18 (fun _ => rfl) (Or.inr rfl) ?_
    refine gsIf (t := 37) (C := (nI w) < 40) (r := []) dM_124_20 (fun _ => rfl) (Or.inr rfl) (rTest_iff .lt (nI w) 40) (fun h2 => absurd h2 (fun q => absurd ((nI_ltI (a := w) (b := 40) (by omega) (by decide)).mp q) (by rcases hor with c9 | c9; exact absurd ((nI_ltI (a := 60) (b := f) (by decide) (by omega)).mpr c9) h1; omega))) (fun h2 => ?_)
    refine gs0 24 [(0, .inr (.inr (some 725)))] [.inr (.inr (some 725))] dM_124_23 (fun _ => rfl) (Or.inr rfl) ?_
    refine gsGetR (some 750) dM_124_24 sk_725 rfl rfl ?_
    refine gs0 28 [(0, .inr (.inr (some 725)))] [.inr (.inr (some 725)), .inr (.inr (some 750))] dM_124_27 (fun _ => rfl) (Or.inr rfl) ?_
    refine gsGetE (nI z) dM_124_28 sk_725 rfl rfl hz ?_
    refine gs0 32 [(0, .inr (.inr (some 725)))] [.inl (nI z), .inr (.inr (some 750)), .inl (nI z), .inr (.inr (some 750))] dM_124_31 (fun _ => rfl) (Or.inr rfl) ?_
    refine gsIaldN z (sg 750 z) dM_124_32 sk_750 (rIn_nI (by omega) (by decide)) (nI_clamp (by omega)) rfl ?_
    refine gs0 34 [(0, .inr (.inr (some 725)))] [.inl 1, .inl (sg 750 z), .inl (nI z), .inr (.inr (some 750))] dM_124_33 (fun _ => rfl) (Or.inr rfl) ?_
    refine gs0 35 [(0, .inr (.inr (some 725)))] [.inl ((sg 750 z) + 1), .inl (nI z), .inr (.inr (some 750))] dM_124_34 (fun _ => rfl) (Or.inr rfl) ?_
    refine gsIastN z dM_124_35 sk_750 (rIn_nI (by omega) (by decide)) (nI_clamp (by omega)) ?_
    refine gsRet (r := none) dM_124_36 (fun _ => rfl) (Or.inr rfl) ?_
    exact ⟨rfl, rfl⟩
def mWaitS (sg : rSg) (z f w s : Nat) : rSg := up2 (up2 (up2 (up2 (upC sg 739 (va_cpy (sg 736) (sg 739) 0 (64 * s) 64)) 740 s (sg 725 18)) 741 s (sg 725 19)) 742 s (nI f)) 747 z (nI (w + 1))
set_option maxRecDepth 100000 in
theorem ev_m_waits_in (d : Nat) (sg : rSg) {z h : Nat} (hz : sg 725 21 = nI z) (hz2 : z < 2) (hh : sg 746 z = nI h) {f w : Nat} (hf : sg 725 20 = nI f) (hf9 : f < 1000) (hw : sg 747 z = nI w) (hw9 : w < 1000) (h42 : h < 42) (hnf : f ≤ 60) (hnw : w < 40) : EvS rSkel (d + 2) 124 [.inr (.inr (some 725))] sg (fun v s2 => v = none ∧ s2 = mWaitS sg z f w (42 * z + (h + w) % 42)) := by
  refine EvS.of (ini := false) rfl ⟨rfl, Nat.le_of_ble_eq_true rfl⟩ rfl ?_
  show GoS rSkel (d + 1) 9 3 none false prog_11_method_23_code 0 [(0, .inr (.inr (some 725)))] [] sg _
  refine gs0 1 [(0, .inr (.inr (some 725)))] [.inr (.inr (some 725))] dM_124_0 (fun _ => rfl) (Or.inr rfl) ?_
  refine gsGetE (nI f) dM_124_1 sk_725 rfl rfl hf ?_
  refine gs0 6 [(0, .inr (.inr (some 725)))] [.inl 60, .inl (nI f)] dM_124_4 (fun _ => rfl) (Or.inr rfl) ?_
  refine gsIf (t := 23) (C := 60 < (nI f)) (r := []) dM_124_6 (fun _ => rfl) (Or.inr rfl) (rTest_iff .gt (nI f) 60) (fun h1 => absurd h1 (fun q => absurd ((nI_ltI (a := 60) (b := f) (by decide) (by omega)).mp q) (by omega))) (fun h1 => ?_)
  refine gs0 10 [(0, .inr (.inr (some 725)))] [.inr (.inr (some 725))] dM_124_9 (fun _ => rfl) (Or.inr rfl) ?_
  refine gsGetR (some 747) dM_124_10 sk_725 rfl rfl ?_
  refine gs0 14 [(0, .inr (.inr (some 725)))] [.inr (.inr (some 725)), .inr (.inr (some 747))] dM_124_13 (fun _ => rfl) (Or.inr rfl) ?_
  refine gsGetE (nI z) dM_124_14 sk_725 rfl rfl hz ?_
  refine gsIaldN z (nI w) dM_124_17 sk_747 (rIn_nI (by omega) (by decide)) (nI_clamp (by omega)) hw ?_
  refine gs0 20 [(0, .inr (.inr (some 725)))] [.inl 40, .inl (nI w)] dM_124_18 (fun _ => rfl) (Or.inr rfl) ?_
  refine gsIf (t := 37) (C := (nI w) < 40) (r := []) dM_124_20 (fun _ => rfl) (Or.inr rfl) (rTest_iff .lt (nI w) 40) (fun h2 => ?_) (fun h2 => absurd ((nI_ltI (a := w) (b := 40) (by omega) (by decide)).mpr hnw) h2)
  refine gs0 38 [(0, .inr (.inr (some 725)))] [.inr (.inr (some 725))] dM_124_37 (fun _ => rfl) (Or.inr rfl) ?_
  refine gs0 39 [(0, .inr (.inr (some 725)))] [.inr (.inr (some 725)), .inr (.inr (some 725))] dM_124_38 (fun _ => rfl) (Or.inr rfl) ?_
  refine gsGetR (some 747) dM_124_39 sk_725 rfl rfl ?_
  refine gs0 43 [(0, .inr (.inr (some 725)))] [.inr (.inr (some 725)), .inr (.inr (some 747)), .inr (.inr (some 725))] dM_124_42 (fun _ => rfl) (Or.inr rfl) ?_
  refine gsGetE (nI z) dM_124_43 sk_725 rfl rfl hz ?_
  refine gsIaldN z (nI w) dM_124_46 sk_747 (rIn_nI (by omega) (by decide)) (nI_clamp (by omega)) hw ?_
  refine gsCallV (y := 125) (k := 725) (as := [.inr (.inr (some 725)), .inl (nI w)]) (r := []) dM_124_47 rfl rfl rfl (Nat.le_of_ble_eq_true rfl) sk_725 rfl (Nat.le_of_ble_eq_true rfl) (ev_m_slot d sg hz hz2 hh (by omega)) (fun v3 s4 hv5 => ?_)
  obtain ⟨rfl, hv5b⟩ := hv5
  rw [hv5b]
  show GoS _ _ _ _ _ _ _ _ _ [.inl (nI (42 * z + (h + w) % 42))] _ _
  refine gs0 51 [(1, .inl (nI (42 * z + (h + w) % 42))), (0, .inr (.inr (some 725)))] [] dM_124_50 (fun _ => rfl) (Or.inr rfl) ?_
  refine gs0 52 [(1, .inl (nI (42 * z + (h + w) % 42))), (0, .inr (.inr (some 725)))] [.inl 0] dM_124_51 (fun _ => rfl) (Or.inr rfl) ?_
  refine gs0 53 [(2, .inl 0), (1, .inl (nI (42 * z + (h + w) % 42))), (0, .inr (.inr (some 725)))] [] dM_124_52 (fun _ => rfl) (Or.inr rfl) ?_
  obtain ⟨s, hs, hse⟩ : ∃ s, s < 84 ∧ 42 * z + (h + w) % 42 = s := ⟨_, by omega, rfl⟩
  rw [hse]
  refine m_waits_loop (d + 1) hs 64 0 sg rfl ?_
  refine gs0 83 [(2, .inl (nI 64)), (1, .inl (nI s)), (0, .inr (.inr (some 725)))] [.inr (.inr (some 725))] dM_124_82 (fun _ => rfl) (Or.inr rfl) ?_
  refine gsGetR (some 740) dM_124_83 sk_725 rfl rfl ?_
  refine gs0 87 [(2, .inl (nI 64)), (1, .inl (nI s)), (0, .inr (.inr (some 725)))] [.inl (nI s), .inr (.inr (some 740))] dM_124_86 (fun _ => rfl) (Or.inr rfl) ?_
  refine gs0 88 [(2, .inl (nI 64)), (1, .inl (nI s)), (0, .inr (.inr (some 725)))] [.inr (.inr (some 725)), .inl (nI s), .inr (.inr (some 740))] dM_124_87 (fun _ => rfl) (Or.inr rfl) ?_
  refine gsGetE ((upC sg 739 (va_cpy (sg 736) (sg 739) 0 (64 * s + 0) 64)) 725 18) dM_124_88 sk_725 rfl rfl rfl ?_
  refine gsIastN s dM_124_91 sk_740 (rIn_nI (by omega) (by decide)) (nI_clamp (by omega)) ?_
  refine gs0 93 [(2, .inl (nI 64)), (1, .inl (nI s)), (0, .inr (.inr (some 725)))] [.inr (.inr (some 725))] dM_124_92 (fun _ => rfl) (Or.inr rfl) ?_
  refine gsGetR (some 741) dM_124_93 sk_725 rfl rfl ?_
  refine gs0 97 [(2, .inl (nI 64)), (1, .inl (nI s)), (0, .inr (.inr (some 725)))] [.inl (nI s), .inr (.inr (some 741))] dM_124_96 (fun _ => rfl) (Or.inr rfl) ?_
  refine gs0 98 [(2, .inl (nI 64)), (1, .inl (nI s)), (0, .inr (.inr (some 725)))] [.inr (.inr (some 725)), .inl (nI s), .inr (.inr (some 741))] dM_124_97 (fun _ => rfl) (Or.inr rfl) ?_
  refine gsGetE ((upC sg 739 (va_cpy (sg 736) (sg 739) 0 (64 * s + 0) 64)) 725 19) dM_124_98 sk_725 rfl rfl rfl ?_
  refine gsIastN s dM_124_101 sk_741 (rIn_nI (by omega) (by decide)) (nI_clamp (by omega)) ?_
  refine gs0 103 [(2, .inl (nI 64)), (1, .inl (nI s)), (0, .inr (.inr (some 725)))] [.inr (.inr (some 725))] dM_124_102 (fun _ => rfl) (Or.inr rfl) ?_
  refine gsGetR (some 742) dM_124_103 sk_725 rfl rfl ?_
  refine gs0 107 [(2, .inl (nI 64)), (1, .inl (nI s)), (0, .inr (.inr (some 725)))] [.inl (nI s), .inr (.inr (some 742))] dM_124_106 (fun _ => rfl) (Or.inr rfl) ?_
  refine gs0 108 [(2, .inl (nI 64)), (1, .inl (nI s)), (0, .inr (.inr (some 725)))] [.inr (.inr (some 725)), .inl (nI s), .inr (.inr (some 742))] dM_124_107 (fun _ => rfl) (Or.inr rfl) ?_
  refine gsGetE (nI f) dM_124_108 sk_725 rfl rfl hf ?_
  refine gsIastN s dM_124_111 sk_742 (rIn_nI (by omega) (by decide)) (nI_clamp (by omega)) ?_
  refine gs0 113 [(2, .inl (nI 64)), (1, .inl (nI s)), (0, .inr (.inr (some 725)))] [.inr (.inr (some 725))] dM_124_112 (fun _ => rfl) (Or.inr rfl) ?_
  refine gsGetR (some 747) dM_124_113 sk_725 rfl rfl ?_
  refine gs0 117 [(2, .inl (nI 64)), (1, .inl (nI s)), (0, .inr (.inr (some 725)))] [.inr (.inr (some 725)), .inr (.inr (some 747))] dM_124_116 (fun _ => rfl) (Or.inr rfl) ?_
  refine gsGetE (nI z) dM_124_117 sk_725 rfl rfl hz ?_
  refine gs0 121 [(2, .inl (nI 64)), (1, .inl (nI s)), (0, .inr (.inr (some 725)))] [.inl (nI z), .inr (.inr (some 747)), .inl (nI z), .inr (.inr (some 747))] dM_124_120 (fun _ => rfl) (Or.inr rfl) ?_
  refine gsIaldN z (nI w) dM_124_121 sk_747 (rIn_nI (by omega) (by decide)) (nI_clamp (by omega)) hw ?_
  refine gs0 123 [(2, .inl (nI 64)), (1, .inl (nI s)), (0, .inr (.inr (some 725)))] [.inl 1, .inl (nI w), .inl (nI z), .inr (.inr (some 747))] dM_124_122 (fun _ => rfl) (Or.inr rfl) ?_
  refine gs0 124 [(2, .inl (nI 64)), (1, .inl (nI s)), (0, .inr (.inr (some 725)))] [.inl ((nI w) + 1), .inl (nI z), .inr (.inr (some 747))] dM_124_123 (fun _ => rfl) (Or.inr rfl) ?_
  refine gsTop (nI_1 w) ?_
  refine gsIastN z dM_124_124 sk_747 (rIn_nI (by omega) (by decide)) (nI_clamp (by omega)) ?_
  refine gsRet (r := none) dM_124_125 (fun _ => rfl) (Or.inr rfl) ?_
  exact ⟨rfl, rfl⟩
