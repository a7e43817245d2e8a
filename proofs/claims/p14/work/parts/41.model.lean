/-! the reference: its small methods: by program (wip/whole) -/
theorem dM_119_0 : decode prog_11_method_4_code 0 = .ok (.iload_n 0, 1) := by decide +kernel
theorem dM_119_1 : decode prog_11_method_4_code 1 = .ok (.iload_n 1, 1) := by decide +kernel
theorem dM_119_2 : decode prog_11_method_4_code 2 = .ok (.if_icmp .lt 12, 3) := by decide +kernel
theorem dM_119_5 : decode prog_11_method_4_code 5 = .ok (.iload_n 0, 1) := by decide +kernel
theorem dM_119_6 : decode prog_11_method_4_code 6 = .ok (.iload_n 2, 1) := by decide +kernel
theorem dM_119_7 : decode prog_11_method_4_code 7 = .ok (.if_icmp .gt 7, 3) := by decide +kernel
theorem dM_119_10 : decode prog_11_method_4_code 10 = .ok (.iconst 1, 1) := by decide +kernel
theorem dM_119_11 : decode prog_11_method_4_code 11 = .ok (.goto 4, 3) := by decide +kernel
theorem dM_119_14 : decode prog_11_method_4_code 14 = .ok (.iconst 0, 1) := by decide +kernel
theorem dM_119_15 : decode prog_11_method_4_code 15 = .ok (.ireturn, 1) := by decide +kernel
theorem dM_127_0 : decode prog_11_method_5_code 0 = .ok (.iload_n 0, 1) := by decide +kernel
theorem dM_127_1 : decode prog_11_method_5_code 1 = .ok (.iload_n 1, 1) := by decide +kernel
theorem dM_127_2 : decode prog_11_method_5_code 2 = .ok (.if_icmp .ge 8, 3) := by decide +kernel
theorem dM_127_5 : decode prog_11_method_5_code 5 = .ok (.bipush (-4), 2) := by decide +kernel
theorem dM_127_7 : decode prog_11_method_5_code 7 = .ok (.goto 14, 3) := by decide +kernel
theorem dM_127_10 : decode prog_11_method_5_code 10 = .ok (.iload_n 0, 1) := by decide +kernel
theorem dM_127_11 : decode prog_11_method_5_code 11 = .ok (.iload_n 2, 1) := by decide +kernel
theorem dM_127_12 : decode prog_11_method_5_code 12 = .ok (.if_icmp .le 8, 3) := by decide +kernel
theorem dM_127_15 : decode prog_11_method_5_code 15 = .ok (.bipush (-6), 2) := by decide +kernel
theorem dM_127_17 : decode prog_11_method_5_code 17 = .ok (.goto 4, 3) := by decide +kernel
theorem dM_127_20 : decode prog_11_method_5_code 20 = .ok (.iconst 0, 1) := by decide +kernel
theorem dM_127_21 : decode prog_11_method_5_code 21 = .ok (.ireturn, 1) := by decide +kernel
theorem dM_147_0 : decode prog_11_method_10_code 0 = .ok (.iload_n 0, 1) := by decide +kernel
theorem dM_147_1 : decode prog_11_method_10_code 1 = .ok (.iconst 2, 1) := by decide +kernel
theorem dM_147_2 : decode prog_11_method_10_code 2 = .ok (.idiv, 1) := by decide +kernel
theorem dM_147_3 : decode prog_11_method_10_code 3 = .ok (.bipush 64, 2) := by decide +kernel
theorem dM_147_5 : decode prog_11_method_10_code 5 = .ok (.if_icmp .ge 7, 3) := by decide +kernel
theorem dM_147_8 : decode prog_11_method_10_code 8 = .ok (.iconst 1, 1) := by decide +kernel
theorem dM_147_9 : decode prog_11_method_10_code 9 = .ok (.goto 4, 3) := by decide +kernel
theorem dM_147_12 : decode prog_11_method_10_code 12 = .ok (.iconst 0, 1) := by decide +kernel
theorem dM_147_13 : decode prog_11_method_10_code 13 = .ok (.ireturn, 1) := by decide +kernel
theorem dM_148_0 : decode prog_11_method_11_code 0 = .ok (.iload_n 0, 1) := by decide +kernel
theorem dM_148_1 : decode prog_11_method_11_code 1 = .ok (.iconst 2, 1) := by decide +kernel
theorem dM_148_2 : decode prog_11_method_11_code 2 = .ok (.idiv, 1) := by decide +kernel
theorem dM_148_3 : decode prog_11_method_11_code 3 = .ok (.bipush 64, 2) := by decide +kernel
theorem dM_148_5 : decode prog_11_method_11_code 5 = .ok (.iload_n 0, 1) := by decide +kernel
theorem dM_148_6 : decode prog_11_method_11_code 6 = .ok (.iconst 2, 1) := by decide +kernel
theorem dM_148_7 : decode prog_11_method_11_code 7 = .ok (.irem, 1) := by decide +kernel
theorem dM_148_8 : decode prog_11_method_11_code 8 = .ok (.imul, 1) := by decide +kernel
theorem dM_148_9 : decode prog_11_method_11_code 9 = .ok (.iadd, 1) := by decide +kernel
theorem dM_148_10 : decode prog_11_method_11_code 10 = .ok (.ireturn, 1) := by decide +kernel
theorem dM_118_0 : decode prog_11_method_14_code 0 = .ok (.aload_n 0, 1) := by decide +kernel
theorem dM_118_1 : decode prog_11_method_14_code 1 = .ok (.getfield 46, 3) := by decide +kernel
theorem dM_118_4 : decode prog_11_method_14_code 4 = .ok (.aload_n 0, 1) := by decide +kernel
theorem dM_118_5 : decode prog_11_method_14_code 5 = .ok (.getfield 141, 3) := by decide +kernel
theorem dM_118_8 : decode prog_11_method_14_code 8 = .ok (.iload_n 1, 1) := by decide +kernel
theorem dM_118_9 : decode prog_11_method_14_code 9 = .ok (.iastore, 1) := by decide +kernel
theorem dM_118_10 : decode prog_11_method_14_code 10 = .ok (.aload_n 0, 1) := by decide +kernel
theorem dM_118_11 : decode prog_11_method_14_code 11 = .ok (.dup, 1) := by decide +kernel
theorem dM_118_12 : decode prog_11_method_14_code 12 = .ok (.getfield 141, 3) := by decide +kernel
theorem dM_118_15 : decode prog_11_method_14_code 15 = .ok (.iconst 1, 1) := by decide +kernel
theorem dM_118_16 : decode prog_11_method_14_code 16 = .ok (.iadd, 1) := by decide +kernel
theorem dM_118_17 : decode prog_11_method_14_code 17 = .ok (.putfield 141, 3) := by decide +kernel
theorem dM_118_20 : decode prog_11_method_14_code 20 = .ok (.return_, 1) := by decide +kernel
theorem dM_117_0 : decode prog_11_method_6_code 0 = .ok (.aload_n 0, 1) := by decide +kernel
theorem dM_117_1 : decode prog_11_method_6_code 1 = .ok (.getfield 13, 3) := by decide +kernel
theorem dM_117_4 : decode prog_11_method_6_code 4 = .ok (.aload_n 0, 1) := by decide +kernel
theorem dM_117_5 : decode prog_11_method_6_code 5 = .ok (.getfield 121, 3) := by decide +kernel
theorem dM_117_8 : decode prog_11_method_6_code 8 = .ok (.iload_n 1, 1) := by decide +kernel
theorem dM_117_9 : decode prog_11_method_6_code 9 = .ok (.iastore, 1) := by decide +kernel
theorem dM_117_10 : decode prog_11_method_6_code 10 = .ok (.aload_n 0, 1) := by decide +kernel
theorem dM_117_11 : decode prog_11_method_6_code 11 = .ok (.getfield 16, 3) := by decide +kernel
theorem dM_117_14 : decode prog_11_method_6_code 14 = .ok (.aload_n 0, 1) := by decide +kernel
theorem dM_117_15 : decode prog_11_method_6_code 15 = .ok (.getfield 121, 3) := by decide +kernel
theorem dM_117_18 : decode prog_11_method_6_code 18 = .ok (.iload_n 2, 1) := by decide +kernel
theorem dM_117_19 : decode prog_11_method_6_code 19 = .ok (.iastore, 1) := by decide +kernel
theorem dM_117_20 : decode prog_11_method_6_code 20 = .ok (.aload_n 0, 1) := by decide +kernel
theorem dM_117_21 : decode prog_11_method_6_code 21 = .ok (.dup, 1) := by decide +kernel
theorem dM_117_22 : decode prog_11_method_6_code 22 = .ok (.getfield 121, 3) := by decide +kernel
theorem dM_117_25 : decode prog_11_method_6_code 25 = .ok (.iconst 1, 1) := by decide +kernel
theorem dM_117_26 : decode prog_11_method_6_code 26 = .ok (.iadd, 1) := by decide +kernel
theorem dM_117_27 : decode prog_11_method_6_code 27 = .ok (.putfield 121, 3) := by decide +kernel
theorem dM_117_30 : decode prog_11_method_6_code 30 = .ok (.aload_n 0, 1) := by decide +kernel
theorem dM_117_31 : decode prog_11_method_6_code 31 = .ok (.getfield 121, 3) := by decide +kernel
theorem dM_117_34 : decode prog_11_method_6_code 34 = .ok (.iconst 1, 1) := by decide +kernel
theorem dM_117_35 : decode prog_11_method_6_code 35 = .ok (.isub, 1) := by decide +kernel
theorem dM_117_36 : decode prog_11_method_6_code 36 = .ok (.ireturn, 1) := by decide +kernel
theorem dM_120_0 : decode prog_11_method_7_code 0 = .ok (.aload_n 0, 1) := by decide +kernel
theorem dM_120_1 : decode prog_11_method_7_code 1 = .ok (.getfield 19, 3) := by decide +kernel
theorem dM_120_4 : decode prog_11_method_7_code 4 = .ok (.aload_n 0, 1) := by decide +kernel
theorem dM_120_5 : decode prog_11_method_7_code 5 = .ok (.getfield 124, 3) := by decide +kernel
theorem dM_120_8 : decode prog_11_method_7_code 8 = .ok (.iload_n 1, 1) := by decide +kernel
theorem dM_120_9 : decode prog_11_method_7_code 9 = .ok (.iastore, 1) := by decide +kernel
theorem dM_120_10 : decode prog_11_method_7_code 10 = .ok (.aload_n 0, 1) := by decide +kernel
theorem dM_120_11 : decode prog_11_method_7_code 11 = .ok (.getfield 22, 3) := by decide +kernel
theorem dM_120_14 : decode prog_11_method_7_code 14 = .ok (.aload_n 0, 1) := by decide +kernel
theorem dM_120_15 : decode prog_11_method_7_code 15 = .ok (.getfield 124, 3) := by decide +kernel
theorem dM_120_18 : decode prog_11_method_7_code 18 = .ok (.iload_n 2, 1) := by decide +kernel
theorem dM_120_19 : decode prog_11_method_7_code 19 = .ok (.iastore, 1) := by decide +kernel
theorem dM_120_20 : decode prog_11_method_7_code 20 = .ok (.aload_n 0, 1) := by decide +kernel
theorem dM_120_21 : decode prog_11_method_7_code 21 = .ok (.getfield 25, 3) := by decide +kernel
theorem dM_120_24 : decode prog_11_method_7_code 24 = .ok (.aload_n 0, 1) := by decide +kernel
theorem dM_120_25 : decode prog_11_method_7_code 25 = .ok (.getfield 124, 3) := by decide +kernel
theorem dM_120_28 : decode prog_11_method_7_code 28 = .ok (.iload_n 3, 1) := by decide +kernel
theorem dM_120_29 : decode prog_11_method_7_code 29 = .ok (.iastore, 1) := by decide +kernel
theorem dM_120_30 : decode prog_11_method_7_code 30 = .ok (.aload_n 0, 1) := by decide +kernel
theorem dM_120_31 : decode prog_11_method_7_code 31 = .ok (.getfield 28, 3) := by decide +kernel
theorem dM_120_34 : decode prog_11_method_7_code 34 = .ok (.aload_n 0, 1) := by decide +kernel
theorem dM_120_35 : decode prog_11_method_7_code 35 = .ok (.getfield 124, 3) := by decide +kernel
theorem dM_120_38 : decode prog_11_method_7_code 38 = .ok (.iload 4, 2) := by decide +kernel
theorem dM_120_40 : decode prog_11_method_7_code 40 = .ok (.iastore, 1) := by decide +kernel
theorem dM_120_41 : decode prog_11_method_7_code 41 = .ok (.aload_n 0, 1) := by decide +kernel
theorem dM_120_42 : decode prog_11_method_7_code 42 = .ok (.dup, 1) := by decide +kernel
theorem dM_120_43 : decode prog_11_method_7_code 43 = .ok (.getfield 124, 3) := by decide +kernel
theorem dM_120_46 : decode prog_11_method_7_code 46 = .ok (.iconst 1, 1) := by decide +kernel
theorem dM_120_47 : decode prog_11_method_7_code 47 = .ok (.iadd, 1) := by decide +kernel
theorem dM_120_48 : decode prog_11_method_7_code 48 = .ok (.putfield 124, 3) := by decide +kernel
theorem dM_120_51 : decode prog_11_method_7_code 51 = .ok (.aload_n 0, 1) := by decide +kernel
theorem dM_120_52 : decode prog_11_method_7_code 52 = .ok (.getfield 124, 3) := by decide +kernel
theorem dM_120_55 : decode prog_11_method_7_code 55 = .ok (.iconst 1, 1) := by decide +kernel
theorem dM_120_56 : decode prog_11_method_7_code 56 = .ok (.isub, 1) := by decide +kernel
theorem dM_120_57 : decode prog_11_method_7_code 57 = .ok (.ireturn, 1) := by decide +kernel
theorem dM_123_0 : decode prog_11_method_8_code 0 = .ok (.aload_n 0, 1) := by decide +kernel
theorem dM_123_1 : decode prog_11_method_8_code 1 = .ok (.getfield 31, 3) := by decide +kernel
theorem dM_123_4 : decode prog_11_method_8_code 4 = .ok (.aload_n 0, 1) := by decide +kernel
theorem dM_123_5 : decode prog_11_method_8_code 5 = .ok (.getfield 127, 3) := by decide +kernel
theorem dM_123_8 : decode prog_11_method_8_code 8 = .ok (.iload_n 1, 1) := by decide +kernel
theorem dM_123_9 : decode prog_11_method_8_code 9 = .ok (.iastore, 1) := by decide +kernel
theorem dM_123_10 : decode prog_11_method_8_code 10 = .ok (.aload_n 0, 1) := by decide +kernel
theorem dM_123_11 : decode prog_11_method_8_code 11 = .ok (.getfield 34, 3) := by decide +kernel
theorem dM_123_14 : decode prog_11_method_8_code 14 = .ok (.aload_n 0, 1) := by decide +kernel
theorem dM_123_15 : decode prog_11_method_8_code 15 = .ok (.getfield 127, 3) := by decide +kernel
theorem dM_123_18 : decode prog_11_method_8_code 18 = .ok (.iload_n 2, 1) := by decide +kernel
theorem dM_123_19 : decode prog_11_method_8_code 19 = .ok (.iastore, 1) := by decide +kernel
theorem dM_123_20 : decode prog_11_method_8_code 20 = .ok (.aload_n 0, 1) := by decide +kernel
theorem dM_123_21 : decode prog_11_method_8_code 21 = .ok (.getfield 37, 3) := by decide +kernel
theorem dM_123_24 : decode prog_11_method_8_code 24 = .ok (.aload_n 0, 1) := by decide +kernel
theorem dM_123_25 : decode prog_11_method_8_code 25 = .ok (.getfield 127, 3) := by decide +kernel
theorem dM_123_28 : decode prog_11_method_8_code 28 = .ok (.iload_n 3, 1) := by decide +kernel
theorem dM_123_29 : decode prog_11_method_8_code 29 = .ok (.iastore, 1) := by decide +kernel
theorem dM_123_30 : decode prog_11_method_8_code 30 = .ok (.aload_n 0, 1) := by decide +kernel
theorem dM_123_31 : decode prog_11_method_8_code 31 = .ok (.dup, 1) := by decide +kernel
theorem dM_123_32 : decode prog_11_method_8_code 32 = .ok (.getfield 127, 3) := by decide +kernel
theorem dM_123_35 : decode prog_11_method_8_code 35 = .ok (.iconst 1, 1) := by decide +kernel
theorem dM_123_36 : decode prog_11_method_8_code 36 = .ok (.iadd, 1) := by decide +kernel
theorem dM_123_37 : decode prog_11_method_8_code 37 = .ok (.putfield 127, 3) := by decide +kernel
theorem dM_123_40 : decode prog_11_method_8_code 40 = .ok (.aload_n 0, 1) := by decide +kernel
theorem dM_123_41 : decode prog_11_method_8_code 41 = .ok (.getfield 127, 3) := by decide +kernel
theorem dM_123_44 : decode prog_11_method_8_code 44 = .ok (.iconst 1, 1) := by decide +kernel
theorem dM_123_45 : decode prog_11_method_8_code 45 = .ok (.isub, 1) := by decide +kernel
theorem dM_123_46 : decode prog_11_method_8_code 46 = .ok (.ireturn, 1) := by decide +kernel
set_option maxRecDepth 100000 in
theorem ev_m_isIn (d : Nat) (sg : rSg) (x a b : Int32) : EvS rSkel (d + 1) 119 [.inl x, .inl a, .inl b] sg (fun v s2 => v = some (.inl (if x < a then 0 else if b < x then 0 else 1)) ∧ s2 = sg) := by
  refine EvS.of (ini := false) rfl ⟨rfl, Nat.le_of_ble_eq_true rfl⟩ rfl ?_
  show GoS rSkel d 9 3 (some .boolean) false prog_11_method_4_code 0 [(0, .inl x), (1, .inl a), (2, .inl b)] [] sg _
  refine gs0 1 [(0, .inl x), (1, .inl a), (2, .inl b)] [.inl x] dM_119_0 (fun _ => rfl) (Or.inr rfl) ?_
  refine gs0 2 [(0, .inl x), (1, .inl a), (2, .inl b)] [.inl a, .inl x] dM_119_1 (fun _ => rfl) (Or.inr rfl) ?_
  refine gsIf (t := 14) (C := x < a) (r := []) dM_119_2 (fun _ => rfl) (Or.inr rfl) (rTest_iff .lt x a) (fun h1 => ?_) (fun h1 => ?_)
  · skip
    refine gs0 15 [(0, .inl x), (1, .inl a), (2, .inl b)] [.inl 0] dM_119_14 (fun _ => rfl) (Or.inr rfl) ?_
    refine gsRet (r := some (.inl 0)) dM_119_15 (fun _ => rfl) (Or.inr rfl) ?_
    exact ⟨by simp [*], rfl⟩
  · skip
    refine gs0 6 [(0, .inl x), (1, .inl a), (2, .inl b)] [.inl x] dM_119_5 (fun _ => rfl) (Or.inr rfl) ?_
    refine gs0 7 [(0, .inl x), (1, .inl a), (2, .inl b)] [.inl b, .inl x] dM_119_6 (fun _ => rfl) (Or.inr rfl) ?_
    refine gsIf (t := 14) (C := b < x) (r := []) dM_119_7 (fun _ => rfl) (Or.inr rfl) (rTest_iff .gt x b) (fun h2 => ?_) (fun h2 => ?_)
    · skip
      refine gs0 15 [(0, .inl x), (1, .inl a), (2, .inl b)] [.inl 0] dM_119_14 (fun _ => rfl) (Or.inr rfl) ?_
      refine gsRet (r := some (.inl 0)) dM_119_15 (fun _ => rfl) (Or.inr rfl) ?_
      exact ⟨by simp [*], rfl⟩
    · skip
      refine gs0 11 [(0, .inl x), (1, .inl a), (2, .inl b)] [.inl 1] dM_119_10 (fun _ => rfl) (Or.inr rfl) ?_
      refine gs0 15 [(0, .inl x), (1, .inl a), (2, .inl b)] [.inl 1] dM_119_11 (fun _ => rfl) (Or.inr rfl) ?_
      refine gsRet (r := some (.inl 1)) dM_119_15 (fun _ => rfl) (Or.inr rfl) ?_
      exact ⟨by simp [*], rfl⟩
set_option maxRecDepth 100000 in
theorem ev_m_bound (d : Nat) (sg : rSg) (x a b : Int32) : EvS rSkel (d + 1) 127 [.inl x, .inl a, .inl b] sg (fun v s2 => v = some (.inl (if a ≤ x then (if x ≤ b then 0 else -6) else -4)) ∧ s2 = sg) := by
  refine EvS.of (ini := false) rfl ⟨rfl, Nat.le_of_ble_eq_true rfl⟩ rfl ?_
  show GoS rSkel d 9 3 (some .int) false prog_11_method_5_code 0 [(0, .inl x), (1, .inl a), (2, .inl b)] [] sg _
  refine gs0 1 [(0, .inl x), (1, .inl a), (2, .inl b)] [.inl x] dM_127_0 (fun _ => rfl) (Or.inr rfl) ?_
  refine gs0 2 [(0, .inl x), (1, .inl a), (2, .inl b)] [.inl a, .inl x] dM_127_1 (fun _ => rfl) (Or.inr rfl) ?_
  refine gsIf (t := 10) (C := a ≤ x) (r := []) dM_127_2 (fun _ => rfl) (Or.inr rfl) (rTest_iff .ge x a) (fun h1 => ?_) (fun h1 => ?_)
  · skip
    refine gs0 11 [(0, .inl x), (1, .inl a), (2, .inl b)] [.inl x] dM_127_10 (fun _ => rfl) (Or.inr rfl) ?_
    refine gs0 12 [(0, .inl x), (1, .inl a), (2, .inl b)] [.inl b, .inl x] dM_127_11 (fun _ => rfl) (Or.inr rfl) ?_
    refine gsIf (t := 20) (C := x ≤ b) (r := []) dM_127_12 (fun _ => rfl) (Or.inr rfl) (rTest_iff .le x b) (fun h2 => ?_) (fun h2 => ?_)
    · skip
      refine gs0 21 [(0, .inl x), (1, .inl a), (2, .inl b)] [.inl 0] dM_127_20 (fun _ => rfl) (Or.inr rfl) ?_
      refine gsRet (r := some (.inl 0)) dM_127_21 (fun _ => rfl) (Or.inr rfl) ?_
      exact ⟨by simp [*], rfl⟩
    · skip
      refine gs0 17 [(0, .inl x), (1, .inl a), (2, .inl b)] [.inl ((-6))] dM_127_15 (fun _ => rfl) (Or.inr rfl) ?_
      refine gs0 21 [(0, .inl x), (1, .inl a), (2, .inl b)] [.inl ((-6))] dM_127_17 (fun _ => rfl) (Or.inr rfl) ?_
      refine gsRet (r := some (.inl ((-6)))) dM_127_21 (fun _ => rfl) (Or.inr rfl) ?_
      exact ⟨by simp [*], rfl⟩
  · skip
    refine gs0 7 [(0, .inl x), (1, .inl a), (2, .inl b)] [.inl ((-4))] dM_127_5 (fun _ => rfl) (Or.inr rfl) ?_
    refine gs0 21 [(0, .inl x), (1, .inl a), (2, .inl b)] [.inl ((-4))] dM_127_7 (fun _ => rfl) (Or.inr rfl) ?_
    refine gsRet (r := some (.inl ((-4)))) dM_127_21 (fun _ => rfl) (Or.inr rfl) ?_
    exact ⟨by simp [*], rfl⟩
set_option maxRecDepth 100000 in
theorem ev_m_isOpen (d : Nat) (sg : rSg) (x : Int32) : EvS rSkel (d + 1) 147 [.inl x] sg (fun v s2 => v = some (.inl (if 64 ≤ x / 2 then 0 else 1)) ∧ s2 = sg) := by
  refine EvS.of (ini := false) rfl ⟨rfl, Nat.le_of_ble_eq_true rfl⟩ rfl ?_
  show GoS rSkel d 9 1 (some .boolean) false prog_11_method_10_code 0 [(0, .inl x)] [] sg _
  refine gs0 1 [(0, .inl x)] [.inl x] dM_147_0 (fun _ => rfl) (Or.inr rfl) ?_
  refine gs0 2 [(0, .inl x)] [.inl 2, .inl x] dM_147_1 (fun _ => rfl) (Or.inr rfl) ?_
  refine gs0 3 [(0, .inl x)] [.inl (x / 2)] dM_147_2 (fun _ => rfl) (Or.inr rfl) ?_
  refine gs0 5 [(0, .inl x)] [.inl 64, .inl (x / 2)] dM_147_3 (fun _ => rfl) (Or.inr rfl) ?_
  refine gsIf (t := 12) (C := 64 ≤ (x / 2)) (r := []) dM_147_5 (fun _ => rfl) (Or.inr rfl) (rTest_iff .ge (x / 2) 64) (fun h1 => ?_) (fun h1 => ?_)
  · skip
    refine gs0 13 [(0, .inl x)] [.inl 0] dM_147_12 (fun _ => rfl) (Or.inr rfl) ?_
    refine gsRet (r := some (.inl 0)) dM_147_13 (fun _ => rfl) (Or.inr rfl) ?_
    exact ⟨by simp [*], rfl⟩
  · skip
    refine gs0 9 [(0, .inl x)] [.inl 1] dM_147_8 (fun _ => rfl) (Or.inr rfl) ?_
    refine gs0 13 [(0, .inl x)] [.inl 1] dM_147_9 (fun _ => rfl) (Or.inr rfl) ?_
    refine gsRet (r := some (.inl 1)) dM_147_13 (fun _ => rfl) (Or.inr rfl) ?_
    exact ⟨by simp [*], rfl⟩
set_option maxRecDepth 100000 in
theorem ev_m_openOf (d : Nat) (sg : rSg) (x : Int32) : EvS rSkel (d + 1) 148 [.inl x] sg (fun v s2 => v = some (.inl (x / 2 + 64 * (x - x / 2 * 2))) ∧ s2 = sg) := by
  refine EvS.of (ini := false) rfl ⟨rfl, Nat.le_of_ble_eq_true rfl⟩ rfl ?_
  show GoS rSkel d 9 1 (some .int) false prog_11_method_11_code 0 [(0, .inl x)] [] sg _
  refine gs0 1 [(0, .inl x)] [.inl x] dM_148_0 (fun _ => rfl) (Or.inr rfl) ?_
  refine gs0 2 [(0, .inl x)] [.inl 2, .inl x] dM_148_1 (fun _ => rfl) (Or.inr rfl) ?_
  refine gs0 3 [(0, .inl x)] [.inl (x / 2)] dM_148_2 (fun _ => rfl) (Or.inr rfl) ?_
  refine gs0 5 [(0, .inl x)] [.inl 64, .inl (x / 2)] dM_148_3 (fun _ => rfl) (Or.inr rfl) ?_
  refine gs0 6 [(0, .inl x)] [.inl x, .inl 64, .inl (x / 2)] dM_148_5 (fun _ => rfl) (Or.inr rfl) ?_
  refine gs0 7 [(0, .inl x)] [.inl 2, .inl x, .inl 64, .inl (x / 2)] dM_148_6 (fun _ => rfl) (Or.inr rfl) ?_
  refine gs0 8 [(0, .inl x)] [.inl (x - x / 2 * 2), .inl 64, .inl (x / 2)] dM_148_7 (fun _ => rfl) (Or.inr rfl) ?_
  refine gs0 9 [(0, .inl x)] [.inl (64 * (x - x / 2 * 2)), .inl (x / 2)] dM_148_8 (fun _ => rfl) (Or.inr rfl) ?_
  refine gs0 10 [(0, .inl x)] [.inl ((x / 2) + (64 * (x - x / 2 * 2)))] dM_148_9 (fun _ => rfl) (Or.inr rfl) ?_
  refine gsRet (r := some (.inl ((x / 2) + (64 * (x - x / 2 * 2))))) dM_148_10 (fun _ => rfl) (Or.inr rfl) ?_
  exact ⟨rfl, rfl⟩
set_option maxRecDepth 100000 in
theorem ev_m_piles (d : Nat) (sg : rSg) {p : Nat} (t : Int32) (hp : sg 725 17 = nI p) (hp9 : p < 8000) : EvS rSkel (d + 1) 118 [.inr (.inr (some 725)), .inl t] sg (fun v s2 => v = none ∧ s2 = up2 (up2 sg 738 p t) 725 17 (nI (p + 1))) := by
  refine EvS.of (ini := false) rfl ⟨rfl, Nat.le_of_ble_eq_true rfl⟩ rfl ?_
  show GoS rSkel d 9 2 none false prog_11_method_14_code 0 [(0, .inr (.inr (some 725))), (1, .inl t)] [] sg _
  refine gs0 1 [(0, .inr (.inr (some 725))), (1, .inl t)] [.inr (.inr (some 725))] dM_118_0 (fun _ => rfl) (Or.inr rfl) ?_
  refine gsGetR (some 738) dM_118_1 sk_725 rfl rfl ?_
  refine gs0 5 [(0, .inr (.inr (some 725))), (1, .inl t)] [.inr (.inr (some 725)), .inr (.inr (some 738))] dM_118_4 (fun _ => rfl) (Or.inr rfl) ?_
  refine gsGetE (nI p) dM_118_5 sk_725 rfl rfl hp ?_
  refine gs0 9 [(0, .inr (.inr (some 725))), (1, .inl t)] [.inl t, .inl (nI p), .inr (.inr (some 738))] dM_118_8 (fun _ => rfl) (Or.inr rfl) ?_
  refine gsIastN p dM_118_9 sk_738 (rIn_nI (by omega) (by decide)) (nI_clamp (by omega)) ?_
  refine gs0 11 [(0, .inr (.inr (some 725))), (1, .inl t)] [.inr (.inr (some 725))] dM_118_10 (fun _ => rfl) (Or.inr rfl) ?_
  refine gs0 12 [(0, .inr (.inr (some 725))), (1, .inl t)] [.inr (.inr (some 725)), .inr (.inr (some 725))] dM_118_11 (fun _ => rfl) (Or.inr rfl) ?_
  refine gsGetE (nI p) dM_118_12 sk_725 rfl rfl hp ?_
  refine gs0 16 [(0, .inr (.inr (some 725))), (1, .inl t)] [.inl 1, .inl (nI p), .inr (.inr (some 725))] dM_118_15 (fun _ => rfl) (Or.inr rfl) ?_
  refine gs0 17 [(0, .inr (.inr (some 725))), (1, .inl t)] [.inl ((nI p) + 1), .inr (.inr (some 725))] dM_118_16 (fun _ => rfl) (Or.inr rfl) ?_
  refine gsTop (nI_1 p) ?_
  refine gsPut dM_118_17 sk_725 rfl rfl rfl (by decide) ?_
  refine gsRet (r := none) dM_118_20 (fun _ => rfl) (Or.inr rfl) ?_
  exact ⟨rfl, rfl⟩
set_option maxRecDepth 100000 in
theorem ev_m_pair (d : Nat) (sg : rSg) {t : Nat} (a b : Int32) (ht : sg 725 10 = nI t) (ht9 : t < 6000) : EvS rSkel (d + 1) 117 [.inr (.inr (some 725)), .inl a, .inl b] sg (fun v s2 => v = some (.inl (nI t)) ∧ s2 = up2 (up2 (up2 sg 727 t a) 728 t b) 725 10 (nI (t + 1))) := by
  refine EvS.of (ini := false) rfl ⟨rfl, Nat.le_of_ble_eq_true rfl⟩ rfl ?_
  show GoS rSkel d 9 3 (some .int) false prog_11_method_6_code 0 [(0, .inr (.inr (some 725))), (1, .inl a), (2, .inl b)] [] sg _
  refine gs0 1 [(0, .inr (.inr (some 725))), (1, .inl a), (2, .inl b)] [.inr (.inr (some 725))] dM_117_0 (fun _ => rfl) (Or.inr rfl) ?_
  refine gsGetR (some 727) dM_117_1 sk_725 rfl rfl ?_
  refine gs0 5 [(0, .inr (.inr (some 725))), (1, .inl a), (2, .inl b)] [.inr (.inr (some 725)), .inr (.inr (some 727))] dM_117_4 (fun _ => rfl) (Or.inr rfl) ?_
  refine gsGetE (nI t) dM_117_5 sk_725 rfl rfl ht ?_
  refine gs0 9 [(0, .inr (.inr (some 725))), (1, .inl a), (2, .inl b)] [.inl a, .inl (nI t), .inr (.inr (some 727))] dM_117_8 (fun _ => rfl) (Or.inr rfl) ?_
  refine gsIastN t dM_117_9 sk_727 (rIn_nI (by omega) (by decide)) (nI_clamp (by omega)) ?_
  refine gs0 11 [(0, .inr (.inr (some 725))), (1, .inl a), (2, .inl b)] [.inr (.inr (some 725))] dM_117_10 (fun _ => rfl) (Or.inr rfl) ?_
  refine gsGetR (some 728) dM_117_11 sk_725 rfl rfl ?_
  refine gs0 15 [(0, .inr (.inr (some 725))), (1, .inl a), (2, .inl b)] [.inr (.inr (some 725)), .inr (.inr (some 728))] dM_117_14 (fun _ => rfl) (Or.inr rfl) ?_
  refine gsGetE (nI t) dM_117_15 sk_725 rfl rfl ht ?_
  refine gs0 19 [(0, .inr (.inr (some 725))), (1, .inl a), (2, .inl b)] [.inl b, .inl (nI t), .inr (.inr (some 728))] dM_117_18 (fun _ => rfl) (Or.inr rfl) ?_
  refine gsIastN t dM_117_19 sk_728 (rIn_nI (by omega) (by decide)) (nI_clamp (by omega)) ?_
  refine gs0 21 [(0, .inr (.inr (some 725))), (1, .inl a), (2, .inl b)] [.inr (.inr (some 725))] dM_117_20 (fun _ => rfl) (Or.inr rfl) ?_
  refine gs0 22 [(0, .inr (.inr (some 725))), (1, .inl a), (2, .inl b)] [.inr (.inr (some 725)), .inr (.inr (some 725))] dM_117_21 (fun _ => rfl) (Or.inr rfl) ?_
  refine gsGetE (nI t) dM_117_22 sk_725 rfl rfl ht ?_
  refine gs0 26 [(0, .inr (.inr (some 725))), (1, .inl a), (2, .inl b)] [.inl 1, .inl (nI t), .inr (.inr (some 725))] dM_117_25 (fun _ => rfl) (Or.inr rfl) ?_
  refine gs0 27 [(0, .inr (.inr (some 725))), (1, .inl a), (2, .inl b)] [.inl ((nI t) + 1), .inr (.inr (some 725))] dM_117_26 (fun _ => rfl) (Or.inr rfl) ?_
  refine gsTop (nI_1 t) ?_
  refine gsPut dM_117_27 sk_725 rfl rfl rfl (by decide) ?_
  refine gs0 31 [(0, .inr (.inr (some 725))), (1, .inl a), (2, .inl b)] [.inr (.inr (some 725))] dM_117_30 (fun _ => rfl) (Or.inr rfl) ?_
  refine gsGetE (nI (t + 1)) dM_117_31 sk_725 rfl rfl rfl ?_
  refine gs0 35 [(0, .inr (.inr (some 725))), (1, .inl a), (2, .inl b)] [.inl 1, .inl (nI (t + 1))] dM_117_34 (fun _ => rfl) (Or.inr rfl) ?_
  refine gs0 36 [(0, .inr (.inr (some 725))), (1, .inl a), (2, .inl b)] [.inl ((nI (t + 1)) - 1)] dM_117_35 (fun _ => rfl) (Or.inr rfl) ?_
  refine gsTop (nI_m1 t) ?_
  refine gsRet (r := some (.inl (nI t))) dM_117_36 (fun _ => rfl) (Or.inr rfl) ?_
  exact ⟨rfl, rfl⟩
set_option maxRecDepth 100000 in
theorem ev_m_goalOf (d : Nat) (sg : rSg) {t : Nat} (c a b e : Int32) (ht : sg 725 11 = nI t) (ht9 : t < 3000) : EvS rSkel (d + 1) 120 [.inr (.inr (some 725)), .inl c, .inl a, .inl b, .inl e] sg (fun v s2 => v = some (.inl (nI t)) ∧ s2 = up2 (up2 (up2 (up2 (up2 sg 729 t c) 730 t a) 731 t b) 732 t e) 725 11 (nI (t + 1))) := by
  refine EvS.of (ini := false) rfl ⟨rfl, Nat.le_of_ble_eq_true rfl⟩ rfl ?_
  show GoS rSkel d 9 5 (some .int) false prog_11_method_7_code 0 [(0, .inr (.inr (some 725))), (1, .inl c), (2, .inl a), (3, .inl b), (4, .inl e)] [] sg _
  refine gs0 1 [(0, .inr (.inr (some 725))), (1, .inl c), (2, .inl a), (3, .inl b), (4, .inl e)] [.inr (.inr (some 725))] dM_120_0 (fun _ => rfl) (Or.inr rfl) ?_
  refine gsGetR (some 729) dM_120_1 sk_725 rfl rfl ?_
  refine gs0 5 [(0, .inr (.inr (some 725))), (1, .inl c), (2, .inl a), (3, .inl b), (4, .inl e)] [.inr (.inr (some 725)), .inr (.inr (some 729))] dM_120_4 (fun _ => rfl) (Or.inr rfl) ?_
  refine gsGetE (nI t) dM_120_5 sk_725 rfl rfl ht ?_
  refine gs0 9 [(0, .inr (.inr (some 725))), (1, .inl c), (2, .inl a), (3, .inl b), (4, .inl e)] [.inl c, .inl (nI t), .inr (.inr (some 729))] dM_120_8 (fun _ => rfl) (Or.inr rfl) ?_
  refine gsIastN t dM_120_9 sk_729 (rIn_nI (by omega) (by decide)) (nI_clamp (by omega)) ?_
  refine gs0 11 [(0, .inr (.inr (some 725))), (1, .inl c), (2, .inl a), (3, .inl b), (4, .inl e)] [.inr (.inr (some 725))] dM_120_10 (fun _ => rfl) (Or.inr rfl) ?_
  refine gsGetR (some 730) dM_120_11 sk_725 rfl rfl ?_
  refine gs0 15 [(0, .inr (.inr (some 725))), (1, .inl c), (2, .inl a), (3, .inl b), (4, .inl e)] [.inr (.inr (some 725)), .inr (.inr (some 730))] dM_120_14 (fun _ => rfl) (Or.inr rfl) ?_
  refine gsGetE (nI t) dM_120_15 sk_725 rfl rfl ht ?_
  refine gs0 19 [(0, .inr (.inr (some 725))), (1, .inl c), (2, .inl a), (3, .inl b), (4, .inl e)] [.inl a, .inl (nI t), .inr (.inr (some 730))] dM_120_18 (fun _ => rfl) (Or.inr rfl) ?_
  refine gsIastN t dM_120_19 sk_730 (rIn_nI (by omega) (by decide)) (nI_clamp (by omega)) ?_
  refine gs0 21 [(0, .inr (.inr (some 725))), (1, .inl c), (2, .inl a), (3, .inl b), (4, .inl e)] [.inr (.inr (some 725))] dM_120_20 (fun _ => rfl) (Or.inr rfl) ?_
  refine gsGetR (some 731) dM_120_21 sk_725 rfl rfl ?_
  refine gs0 25 [(0, .inr (.inr (some 725))), (1, .inl c), (2, .inl a), (3, .inl b), (4, .inl e)] [.inr (.inr (some 725)), .inr (.inr (some 731))] dM_120_24 (fun _ => rfl) (Or.inr rfl) ?_
  refine gsGetE (nI t) dM_120_25 sk_725 rfl rfl ht ?_
  refine gs0 29 [(0, .inr (.inr (some 725))), (1, .inl c), (2, .inl a), (3, .inl b), (4, .inl e)] [.inl b, .inl (nI t), .inr (.inr (some 731))] dM_120_28 (fun _ => rfl) (Or.inr rfl) ?_
  refine gsIastN t dM_120_29 sk_731 (rIn_nI (by omega) (by decide)) (nI_clamp (by omega)) ?_
  refine gs0 31 [(0, .inr (.inr (some 725))), (1, .inl c), (2, .inl a), (3, .inl b), (4, .inl e)] [.inr (.inr (some 725))] dM_120_30 (fun _ => rfl) (Or.inr rfl) ?_
  refine gsGetR (some 732) dM_120_31 sk_725 rfl rfl ?_
  refine gs0 35 [(0, .inr (.inr (some 725))), (1, .inl c), (2, .inl a), (3, .inl b), (4, .inl e)] [.inr (.inr (some 725)), .inr (.inr (some 732))] dM_120_34 (fun _ => rfl) (Or.inr rfl) ?_
  refine gsGetE (nI t) dM_120_35 sk_725 rfl rfl ht ?_
  refine gs0 40 [(0, .inr (.inr (some 725))), (1, .inl c), (2, .inl a), (3, .inl b), (4, .inl e)] [.inl e, .inl (nI t), .inr (.inr (some 732))] dM_120_38 (fun _ => rfl) (Or.inr rfl) ?_
  refine gsIastN t dM_120_40 sk_732 (rIn_nI (by omega) (by decide)) (nI_clamp (by omega)) ?_
  refine gs0 42 [(0, .inr (.inr (some 725))), (1, .inl c), (2, .inl a), (3, .inl b), (4, .inl e)] [.inr (.inr (some 725))] dM_120_41 (fun _ => rfl) (Or.inr rfl) ?_
  refine gs0 43 [(0, .inr (.inr (some 725))), (1, .inl c), (2, .inl a), (3, .inl b), (4, .inl e)] [.inr (.inr (some 725)), .inr (.inr (some 725))] dM_120_42 (fun _ => rfl) (Or.inr rfl) ?_
  refine gsGetE (nI t) dM_120_43 sk_725 rfl rfl ht ?_
  refine gs0 47 [(0, .inr (.inr (some 725))), (1, .inl c), (2, .inl a), (3, .inl b), (4, .inl e)] [.inl 1, .inl (nI t), .inr (.inr (some 725))] dM_120_46 (fun _ => rfl) (Or.inr rfl) ?_
  refine gs0 48 [(0, .inr (.inr (some 725))), (1, .inl c), (2, .inl a), (3, .inl b), (4, .inl e)] [.inl ((nI t) + 1), .inr (.inr (some 725))] dM_120_47 (fun _ => rfl) (Or.inr rfl) ?_
  refine gsTop (nI_1 t) ?_
  refine gsPut dM_120_48 sk_725 rfl rfl rfl (by decide) ?_
  refine gs0 52 [(0, .inr (.inr (some 725))), (1, .inl c), (2, .inl a), (3, .inl b), (4, .inl e)] [.inr (.inr (some 725))] dM_120_51 (fun _ => rfl) (Or.inr rfl) ?_
  refine gsGetE (nI (t + 1)) dM_120_52 sk_725 rfl rfl rfl ?_
  refine gs0 56 [(0, .inr (.inr (some 725))), (1, .inl c), (2, .inl a), (3, .inl b), (4, .inl e)] [.inl 1, .inl (nI (t + 1))] dM_120_55 (fun _ => rfl) (Or.inr rfl) ?_
  refine gs0 57 [(0, .inr (.inr (some 725))), (1, .inl c), (2, .inl a), (3, .inl b), (4, .inl e)] [.inl ((nI (t + 1)) - 1)] dM_120_56 (fun _ => rfl) (Or.inr rfl) ?_
  refine gsTop (nI_m1 t) ?_
  refine gsRet (r := some (.inl (nI t))) dM_120_57 (fun _ => rfl) (Or.inr rfl) ?_
  exact ⟨rfl, rfl⟩
set_option maxRecDepth 100000 in
theorem ev_m_list (d : Nat) (sg : rSg) {t : Nat} (a b e : Int32) (ht : sg 725 12 = nI t) (ht9 : t < 20000) : EvS rSkel (d + 1) 123 [.inr (.inr (some 725)), .inl a, .inl b, .inl e] sg (fun v s2 => v = some (.inl (nI t)) ∧ s2 = up2 (up2 (up2 (up2 sg 733 t a) 734 t b) 735 t e) 725 12 (nI (t + 1))) := by
  refine EvS.of (ini := false) rfl ⟨rfl, Nat.le_of_ble_eq_true rfl⟩ rfl ?_
  show GoS rSkel d 9 4 (some .int) false prog_11_method_8_code 0 [(0, .inr (.inr (some 725))), (1, .inl a), (2, .inl b), (3, .inl e)] [] sg _
  refine gs0 1 [(0, .inr (.inr (some 725))), (1, .inl a), (2, .inl b), (3, .inl e)] [.inr (.inr (some 725))] dM_123_0 (fun _ => rfl) (Or.inr rfl) ?_
  refine gsGetR (some 733) dM_123_1 sk_725 rfl rfl ?_
  refine gs0 5 [(0, .inr (.inr (some 725))), (1, .inl a), (2, .inl b), (3, .inl e)] [.inr (.inr (some 725)), .inr (.inr (some 733))] dM_123_4 (fun _ => rfl) (Or.inr rfl) ?_
  refine gsGetE (nI t) dM_123_5 sk_725 rfl rfl ht ?_
  refine gs0 9 [(0, .inr (.inr (some 725))), (1, .inl a), (2, .inl b), (3, .inl e)] [.inl a, .inl (nI t), .inr (.inr (some 733))] dM_123_8 (fun _ => rfl) (Or.inr rfl) ?_
  refine gsIastN t dM_123_9 sk_733 (rIn_nI (by omega) (by decide)) (nI_clamp (by omega)) ?_
  refine gs0 11 [(0, .inr (.inr (some 725))), (1, .inl a), (2, .inl b), (3, .inl e)] [.inr (.inr (some 725))] dM_123_10 (fun _ => rfl) (Or.inr rfl) ?_
  refine gsGetR (some 734) dM_123_11 sk_725 rfl rfl ?_
  refine gs0 15 [(0, .inr (.inr (some 725))), (1, .inl a), (2, .inl b), (3, .inl e)] [.inr (.inr (some 725)), .inr (.inr (some 734))] dM_123_14 (fun _ => rfl) (Or.inr rfl) ?_
  refine gsGetE (nI t) dM_123_15 sk_725 rfl rfl ht ?_
  refine gs0 19 [(0, .inr (.inr (some 725))), (1, .inl a), (2, .inl b), (3, .inl e)] [.inl b, .inl (nI t), .inr (.inr (some 734))] dM_123_18 (fun _ => rfl) (Or.inr rfl) ?_
  refine gsIastN t dM_123_19 sk_734 (rIn_nI (by omega) (by decide)) (nI_clamp (by omega)) ?_
  refine gs0 21 [(0, .inr (.inr (some 725))), (1, .inl a), (2, .inl b), (3, .inl e)] [.inr (.inr (some 725))] dM_123_20 (fun _ => rfl) (Or.inr rfl) ?_
  refine gsGetR (some 735) dM_123_21 sk_725 rfl rfl ?_
  refine gs0 25 [(0, .inr (.inr (some 725))), (1, .inl a), (2, .inl b), (3, .inl e)] [.inr (.inr (some 725)), .inr (.inr (some 735))] dM_123_24 (fun _ => rfl) (Or.inr rfl) ?_
  refine gsGetE (nI t) dM_123_25 sk_725 rfl rfl ht ?_
  refine gs0 29 [(0, .inr (.inr (some 725))), (1, .inl a), (2, .inl b), (3, .inl e)] [.inl e, .inl (nI t), .inr (.inr (some 735))] dM_123_28 (fun _ => rfl) (Or.inr rfl) ?_
  refine gsIastN t dM_123_29 sk_735 (rIn_nI (by omega) (by decide)) (nI_clamp (by omega)) ?_
  refine gs0 31 [(0, .inr (.inr (some 725))), (1, .inl a), (2, .inl b), (3, .inl e)] [.inr (.inr (some 725))] dM_123_30 (fun _ => rfl) (Or.inr rfl) ?_
  refine gs0 32 [(0, .inr (.inr (some 725))), (1, .inl a), (2, .inl b), (3, .inl e)] [.inr (.inr (some 725)), .inr (.inr (some 725))] dM_123_31 (fun _ => rfl) (Or.inr rfl) ?_
  refine gsGetE (nI t) dM_123_32 sk_725 rfl rfl ht ?_
  refine gs0 36 [(0, .inr (.inr (some 725))), (1, .inl a), (2, .inl b), (3, .inl e)] [.inl 1, .inl (nI t), .inr (.inr (some 725))] dM_123_35 (fun _ => rfl) (Or.inr rfl) ?_
  refine gs0 37 [(0, .inr (.inr (some 725))), (1, .inl a), (2, .inl b), (3, .inl e)] [.inl ((nI t) + 1), .inr (.inr (some 725))] dM_123_36 (fun _ => rfl) (Or.inr rfl) ?_
  refine gsTop (nI_1 t) ?_
  refine gsPut dM_123_37 sk_725 rfl rfl rfl (by decide) ?_
  refine gs0 41 [(0, .inr (.inr (some 725))), (1, .inl a), (2, .inl b), (3, .inl e)] [.inr (.inr (some 725))] dM_123_40 (fun _ => rfl) (Or.inr rfl) ?_
  refine gsGetE (nI (t + 1)) dM_123_41 sk_725 rfl rfl rfl ?_
  refine gs0 45 [(0, .inr (.inr (some 725))), (1, .inl a), (2, .inl b), (3, .inl e)] [.inl 1, .inl (nI (t + 1))] dM_123_44 (fun _ => rfl) (Or.inr rfl) ?_
  refine gs0 46 [(0, .inr (.inr (some 725))), (1, .inl a), (2, .inl b), (3, .inl e)] [.inl ((nI (t + 1)) - 1)] dM_123_45 (fun _ => rfl) (Or.inr rfl) ?_
  refine gsTop (nI_m1 t) ?_
  refine gsRet (r := some (.inl (nI t))) dM_123_46 (fun _ => rfl) (Or.inr rfl) ?_
  exact ⟨rfl, rfl⟩
