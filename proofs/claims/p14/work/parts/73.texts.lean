/-! ROWS OF TEXTS: tellUpTo, isAlike -/
set_option maxRecDepth 100000 in
theorem sk_693 : rSkel[693]? = some (.inr (.inl (2, 30, fun i => if i < 30 then some (694 + i) else none))) := rfl
set_option maxRecDepth 100000 in
theorem sk_txt : ∀ i, i < 30 → rSkel[694 + i]? = some (.inl 200)
  | 0, _ => rfl
  | 1, _ => rfl
  | 2, _ => rfl
  | 3, _ => rfl
  | 4, _ => rfl
  | 5, _ => rfl
  | 6, _ => rfl
  | 7, _ => rfl
  | 8, _ => rfl
  | 9, _ => rfl
  | 10, _ => rfl
  | 11, _ => rfl
  | 12, _ => rfl
  | 13, _ => rfl
  | 14, _ => rfl
  | 15, _ => rfl
  | 16, _ => rfl
  | 17, _ => rfl
  | 18, _ => rfl
  | 19, _ => rfl
  | 20, _ => rfl
  | 21, _ => rfl
  | 22, _ => rfl
  | 23, _ => rfl
  | 24, _ => rfl
  | 25, _ => rfl
  | 26, _ => rfl
  | 27, _ => rfl
  | 28, _ => rfl
  | 29, _ => rfl
  | i + 30, h => absurd h (by omega)
theorem arr_txt {i : Nat} (h : i < 30) : isArr (694 + i) 200 := ⟨by omega, sk_txt i h⟩
theorem dM_89_0 : decode prog_1_method_39_code 0 = .ok (.iconst 0, 1) := by decide +kernel
theorem dM_89_1 : decode prog_1_method_39_code 1 = .ok (.istore_n 3, 1) := by decide +kernel
theorem dM_89_2 : decode prog_1_method_39_code 2 = .ok (.iload_n 3, 1) := by decide +kernel
theorem dM_89_3 : decode prog_1_method_39_code 3 = .ok (.iload_n 1, 1) := by decide +kernel
theorem dM_89_4 : decode prog_1_method_39_code 4 = .ok (.if_icmp .ge 98, 3) := by decide +kernel
theorem dM_89_7 : decode prog_1_method_39_code 7 = .ok (.iload_n 3, 1) := by decide +kernel
theorem dM_89_8 : decode prog_1_method_39_code 8 = .ok (.bipush 30, 2) := by decide +kernel
theorem dM_89_10 : decode prog_1_method_39_code 10 = .ok (.if_icmp .ge 92, 3) := by decide +kernel
theorem dM_89_13 : decode prog_1_method_39_code 13 = .ok (.aload_n 0, 1) := by decide +kernel
theorem dM_89_14 : decode prog_1_method_39_code 14 = .ok (.getfield 47, 3) := by decide +kernel
theorem dM_89_17 : decode prog_1_method_39_code 17 = .ok (.aload_n 0, 1) := by decide +kernel
theorem dM_89_18 : decode prog_1_method_39_code 18 = .ok (.getfield 21, 3) := by decide +kernel
theorem dM_89_21 : decode prog_1_method_39_code 21 = .ok (.getfield 33, 3) := by decide +kernel
theorem dM_89_24 : decode prog_1_method_39_code 24 = .ok (.aload_n 0, 1) := by decide +kernel
theorem dM_89_25 : decode prog_1_method_39_code 25 = .ok (.getfield 21, 3) := by decide +kernel
theorem dM_89_28 : decode prog_1_method_39_code 28 = .ok (.iload_n 3, 1) := by decide +kernel
theorem dM_89_29 : decode prog_1_method_39_code 29 = .ok (.invokevirtual 133, 3) := by decide +kernel
theorem dM_89_32 : decode prog_1_method_39_code 32 = .ok (.iload_n 2, 1) := by decide +kernel
theorem dM_89_33 : decode prog_1_method_39_code 33 = .ok (.invokevirtual 137, 3) := by decide +kernel
theorem dM_89_36 : decode prog_1_method_39_code 36 = .ok (.aload_n 0, 1) := by decide +kernel
theorem dM_89_37 : decode prog_1_method_39_code 37 = .ok (.getfield 82, 3) := by decide +kernel
theorem dM_89_40 : decode prog_1_method_39_code 40 = .ok (.iload_n 3, 1) := by decide +kernel
theorem dM_89_41 : decode prog_1_method_39_code 41 = .ok (.aload_n 0, 1) := by decide +kernel
theorem dM_89_42 : decode prog_1_method_39_code 42 = .ok (.getfield 47, 3) := by decide +kernel
theorem dM_89_45 : decode prog_1_method_39_code 45 = .ok (.getfield 141, 3) := by decide +kernel
theorem dM_89_48 : decode prog_1_method_39_code 48 = .ok (.iastore, 1) := by decide +kernel
theorem dM_89_49 : decode prog_1_method_39_code 49 = .ok (.iconst 0, 1) := by decide +kernel
theorem dM_89_50 : decode prog_1_method_39_code 50 = .ok (.istore 4, 2) := by decide +kernel
theorem dM_89_52 : decode prog_1_method_39_code 52 = .ok (.iload 4, 2) := by decide +kernel
theorem dM_89_54 : decode prog_1_method_39_code 54 = .ok (.aload_n 0, 1) := by decide +kernel
theorem dM_89_55 : decode prog_1_method_39_code 55 = .ok (.getfield 47, 3) := by decide +kernel
theorem dM_89_58 : decode prog_1_method_39_code 58 = .ok (.getfield 141, 3) := by decide +kernel
theorem dM_89_61 : decode prog_1_method_39_code 61 = .ok (.if_icmp .ge 35, 3) := by decide +kernel
theorem dM_89_64 : decode prog_1_method_39_code 64 = .ok (.iload 4, 2) := by decide +kernel
theorem dM_89_66 : decode prog_1_method_39_code 66 = .ok (.sipush 200, 3) := by decide +kernel
theorem dM_89_69 : decode prog_1_method_39_code 69 = .ok (.if_icmp .ge 27, 3) := by decide +kernel
theorem dM_89_72 : decode prog_1_method_39_code 72 = .ok (.aload_n 0, 1) := by decide +kernel
theorem dM_89_73 : decode prog_1_method_39_code 73 = .ok (.getfield 79, 3) := by decide +kernel
theorem dM_89_76 : decode prog_1_method_39_code 76 = .ok (.iload_n 3, 1) := by decide +kernel
theorem dM_89_77 : decode prog_1_method_39_code 77 = .ok (.aaload, 1) := by decide +kernel
theorem dM_89_78 : decode prog_1_method_39_code 78 = .ok (.iload 4, 2) := by decide +kernel
theorem dM_89_80 : decode prog_1_method_39_code 80 = .ok (.aload_n 0, 1) := by decide +kernel
theorem dM_89_81 : decode prog_1_method_39_code 81 = .ok (.getfield 47, 3) := by decide +kernel
theorem dM_89_84 : decode prog_1_method_39_code 84 = .ok (.iload 4, 2) := by decide +kernel
theorem dM_89_86 : decode prog_1_method_39_code 86 = .ok (.invokevirtual 144, 3) := by decide +kernel
theorem dM_89_89 : decode prog_1_method_39_code 89 = .ok (.iastore, 1) := by decide +kernel
theorem dM_89_90 : decode prog_1_method_39_code 90 = .ok (.iinc 4 1, 3) := by decide +kernel
theorem dM_89_93 : decode prog_1_method_39_code 93 = .ok (.goto (-41), 3) := by decide +kernel
theorem dM_89_96 : decode prog_1_method_39_code 96 = .ok (.iinc 3 1, 3) := by decide +kernel
theorem dM_89_99 : decode prog_1_method_39_code 99 = .ok (.goto (-97), 3) := by decide +kernel
theorem dM_89_102 : decode prog_1_method_39_code 102 = .ok (.return_, 1) := by decide +kernel
theorem dM_91_0 : decode prog_1_method_41_code 0 = .ok (.iload_n 1, 1) := by decide +kernel
theorem dM_91_1 : decode prog_1_method_41_code 1 = .ok (.ifCond .lt 34, 3) := by decide +kernel
theorem dM_91_4 : decode prog_1_method_41_code 4 = .ok (.iload_n 2, 1) := by decide +kernel
theorem dM_91_5 : decode prog_1_method_41_code 5 = .ok (.ifCond .lt 30, 3) := by decide +kernel
theorem dM_91_8 : decode prog_1_method_41_code 8 = .ok (.iload_n 1, 1) := by decide +kernel
theorem dM_91_9 : decode prog_1_method_41_code 9 = .ok (.bipush 30, 2) := by decide +kernel
theorem dM_91_11 : decode prog_1_method_41_code 11 = .ok (.if_icmp .ge 24, 3) := by decide +kernel
theorem dM_91_14 : decode prog_1_method_41_code 14 = .ok (.iload_n 2, 1) := by decide +kernel
theorem dM_91_15 : decode prog_1_method_41_code 15 = .ok (.bipush 30, 2) := by decide +kernel
theorem dM_91_17 : decode prog_1_method_41_code 17 = .ok (.if_icmp .ge 18, 3) := by decide +kernel
theorem dM_91_20 : decode prog_1_method_41_code 20 = .ok (.aload_n 0, 1) := by decide +kernel
theorem dM_91_21 : decode prog_1_method_41_code 21 = .ok (.getfield 82, 3) := by decide +kernel
theorem dM_91_24 : decode prog_1_method_41_code 24 = .ok (.iload_n 1, 1) := by decide +kernel
theorem dM_91_25 : decode prog_1_method_41_code 25 = .ok (.iaload, 1) := by decide +kernel
theorem dM_91_26 : decode prog_1_method_41_code 26 = .ok (.aload_n 0, 1) := by decide +kernel
theorem dM_91_27 : decode prog_1_method_41_code 27 = .ok (.getfield 82, 3) := by decide +kernel
theorem dM_91_30 : decode prog_1_method_41_code 30 = .ok (.iload_n 2, 1) := by decide +kernel
theorem dM_91_31 : decode prog_1_method_41_code 31 = .ok (.iaload, 1) := by decide +kernel
theorem dM_91_32 : decode prog_1_method_41_code 32 = .ok (.if_icmp .eq 5, 3) := by decide +kernel
theorem dM_91_35 : decode prog_1_method_41_code 35 = .ok (.iconst 0, 1) := by decide +kernel
theorem dM_91_36 : decode prog_1_method_41_code 36 = .ok (.ireturn, 1) := by decide +kernel
theorem dM_91_37 : decode prog_1_method_41_code 37 = .ok (.iconst 0, 1) := by decide +kernel
theorem dM_91_38 : decode prog_1_method_41_code 38 = .ok (.istore_n 3, 1) := by decide +kernel
theorem dM_91_39 : decode prog_1_method_41_code 39 = .ok (.iload_n 3, 1) := by decide +kernel
theorem dM_91_40 : decode prog_1_method_41_code 40 = .ok (.aload_n 0, 1) := by decide +kernel
theorem dM_91_41 : decode prog_1_method_41_code 41 = .ok (.getfield 82, 3) := by decide +kernel
theorem dM_91_44 : decode prog_1_method_41_code 44 = .ok (.iload_n 1, 1) := by decide +kernel
theorem dM_91_45 : decode prog_1_method_41_code 45 = .ok (.iaload, 1) := by decide +kernel
theorem dM_91_46 : decode prog_1_method_41_code 46 = .ok (.if_icmp .ge 37, 3) := by decide +kernel
theorem dM_91_49 : decode prog_1_method_41_code 49 = .ok (.iload_n 3, 1) := by decide +kernel
theorem dM_91_50 : decode prog_1_method_41_code 50 = .ok (.sipush 200, 3) := by decide +kernel
theorem dM_91_53 : decode prog_1_method_41_code 53 = .ok (.if_icmp .ge 30, 3) := by decide +kernel
theorem dM_91_56 : decode prog_1_method_41_code 56 = .ok (.aload_n 0, 1) := by decide +kernel
theorem dM_91_57 : decode prog_1_method_41_code 57 = .ok (.getfield 79, 3) := by decide +kernel
theorem dM_91_60 : decode prog_1_method_41_code 60 = .ok (.iload_n 1, 1) := by decide +kernel
theorem dM_91_61 : decode prog_1_method_41_code 61 = .ok (.aaload, 1) := by decide +kernel
theorem dM_91_62 : decode prog_1_method_41_code 62 = .ok (.iload_n 3, 1) := by decide +kernel
theorem dM_91_63 : decode prog_1_method_41_code 63 = .ok (.iaload, 1) := by decide +kernel
theorem dM_91_64 : decode prog_1_method_41_code 64 = .ok (.aload_n 0, 1) := by decide +kernel
theorem dM_91_65 : decode prog_1_method_41_code 65 = .ok (.getfield 79, 3) := by decide +kernel
theorem dM_91_68 : decode prog_1_method_41_code 68 = .ok (.iload_n 2, 1) := by decide +kernel
theorem dM_91_69 : decode prog_1_method_41_code 69 = .ok (.aaload, 1) := by decide +kernel
theorem dM_91_70 : decode prog_1_method_41_code 70 = .ok (.iload_n 3, 1) := by decide +kernel
theorem dM_91_71 : decode prog_1_method_41_code 71 = .ok (.iaload, 1) := by decide +kernel
theorem dM_91_72 : decode prog_1_method_41_code 72 = .ok (.if_icmp .eq 5, 3) := by decide +kernel
theorem dM_91_75 : decode prog_1_method_41_code 75 = .ok (.iconst 0, 1) := by decide +kernel
theorem dM_91_76 : decode prog_1_method_41_code 76 = .ok (.ireturn, 1) := by decide +kernel
theorem dM_91_77 : decode prog_1_method_41_code 77 = .ok (.iinc 3 1, 3) := by decide +kernel
theorem dM_91_80 : decode prog_1_method_41_code 80 = .ok (.goto (-41), 3) := by decide +kernel
theorem dM_91_83 : decode prog_1_method_41_code 83 = .ok (.iconst 1, 1) := by decide +kernel
theorem dM_91_84 : decode prog_1_method_41_code 84 = .ok (.ireturn, 1) := by decide +kernel
def g_89_2  (y1 : Int32) (y2 : Int32) (y3 : Int32) (sg : rSg) (P : Option rv → rSg → Prop) : Prop := GoS rSkel 4 8 5 none false prog_1_method_39_code 2 [(0, .inr (.inr (some 0))), (1, .inl y1), (2, .inl y2), (3, .inl y3)] [] sg P
def g_89_52  (y1 : Int32) (y2 : Int32) (y3 : Int32) (y4 : Int32) (sg : rSg) (P : Option rv → rSg → Prop) : Prop := GoS rSkel 4 8 5 none false prog_1_method_39_code 52 [(0, .inr (.inr (some 0))), (1, .inl y1), (2, .inl y2), (3, .inl y3), (4, .inl y4)] [] sg P
set_option maxRecDepth 100000 in
theorem w_89_2 (sg : rSg)  (y1 : Int32) (y2 : Int32) (y3 : Int32) {P : Option rv → rSg → Prop} (h :
    (y1 ≤ y3 → 
      P none sg) ∧
    (¬ (y1 ≤ y3) → 
      (30 ≤ y3 → 
        P none sg) ∧
      (¬ (30 ≤ y3) → 
        EvS rSkel 1 40 [.inr (.inr (some 6)), .inl y3] sg (fun v3 t4 => ∃ q6, v3 = some (.inr (.inr (some q6))) ∧ isSt q6 ∧
          EvS rSkel 4 58 [.inr (.inr (some 682)), .inr (.inr (some 7)), .inr (.inr (some q6)), .inl y2] t4 (fun v8 t9 => v8 = none ∧
            (rIn y3 30 = true ∧
            g_89_52 y1 y2 y3 0 (up2 t9 724 y3.toNatClampNeg (t9 682 3)) P)))))) : g_89_2 y1 y2 y3 sg P := by
  show GoS rSkel 4 8 5 none false prog_1_method_39_code 2 [(0, .inr (.inr (some 0))), (1, .inl y1), (2, .inl y2), (3, .inl y3)] [] sg P
  refine gs0 3 [(0, .inr (.inr (some 0))), (1, .inl y1), (2, .inl y2), (3, .inl y3)] [.inl y3] dM_89_2 (fun _ => rfl) (Or.inr rfl) ?_
  refine gs0 4 [(0, .inr (.inr (some 0))), (1, .inl y1), (2, .inl y2), (3, .inl y3)] [.inl y1, .inl y3] dM_89_3 (fun _ => rfl) (Or.inr rfl) ?_
  refine gsIf (t := 102) (C := y1 ≤ y3) (r := []) dM_89_4 (fun _ => rfl) (Or.inr rfl) (rTest_iff .ge y3 y1) (fun c1 => ?_) (fun c1 => ?_)
  · replace h := h.1 c1
    refine gsRet (r := none) dM_89_102 (fun _ => rfl) (Or.inr rfl) ?_
    exact h
  · replace h := h.2 c1
    refine gs0 8 [(0, .inr (.inr (some 0))), (1, .inl y1), (2, .inl y2), (3, .inl y3)] [.inl y3] dM_89_7 (fun _ => rfl) (Or.inr rfl) ?_
    refine gs0 10 [(0, .inr (.inr (some 0))), (1, .inl y1), (2, .inl y2), (3, .inl y3)] [.inl 30, .inl y3] dM_89_8 (fun _ => rfl) (Or.inr rfl) ?_
    refine gsIf (t := 102) (C := 30 ≤ y3) (r := []) dM_89_10 (fun _ => rfl) (Or.inr rfl) (rTest_iff .ge y3 30) (fun c2 => ?_) (fun c2 => ?_)
    · replace h := h.1 c2
      refine gsRet (r := none) dM_89_102 (fun _ => rfl) (Or.inr rfl) ?_
      exact h
    · replace h := h.2 c2
      refine gs0 14 [(0, .inr (.inr (some 0))), (1, .inl y1), (2, .inl y2), (3, .inl y3)] [.inr (.inr (some 0))] dM_89_13 (fun _ => rfl) (Or.inr rfl) ?_
      refine gsGetR (some 682) dM_89_14 sk_0 rfl rfl ?_
      refine gs0 18 [(0, .inr (.inr (some 0))), (1, .inl y1), (2, .inl y2), (3, .inl y3)] [.inr (.inr (some 0)), .inr (.inr (some 682))] dM_89_17 (fun _ => rfl) (Or.inr rfl) ?_
      refine gsGetR (some 6) dM_89_18 sk_0 rfl rfl ?_
      refine gsGetR (some 7) dM_89_21 sk_6 rfl rfl ?_
      refine gs0 25 [(0, .inr (.inr (some 0))), (1, .inl y1), (2, .inl y2), (3, .inl y3)] [.inr (.inr (some 0)), .inr (.inr (some 7)), .inr (.inr (some 682))] dM_89_24 (fun _ => rfl) (Or.inr rfl) ?_
      refine gsGetR (some 6) dM_89_25 sk_0 rfl rfl ?_
      refine gs0 29 [(0, .inr (.inr (some 0))), (1, .inl y1), (2, .inl y2), (3, .inl y3)] [.inl y3, .inr (.inr (some 6)), .inr (.inr (some 7)), .inr (.inr (some 682))] dM_89_28 (fun _ => rfl) (Or.inr rfl) ?_
      refine gsCallV (y := 40) (k := 6) (as := [.inr (.inr (some 6)), .inl y3]) (r := [.inr (.inr (some 7)), .inr (.inr (some 682))]) dM_89_29 rfl rfl rfl (Nat.le_of_ble_eq_true rfl) sk_6 rfl (Nat.le_of_ble_eq_true rfl) (EvS.up h (Nat.le_of_ble_eq_true rfl)) (fun v3 t4 hv5 => ?_)
      obtain ⟨q6, rfl, hq7, hn⟩ := hv5
      have b_q6 := hq7.1
      clear h
      show GoS _ _ _ _ _ _ _ _ [(0, .inr (.inr (some 0))), (1, .inl y1), (2, .inl y2), (3, .inl y3)] [.inr (.inr (some q6)), .inr (.inr (some 7)), .inr (.inr (some 682))] t4 _
      refine gs0 33 [(0, .inr (.inr (some 0))), (1, .inl y1), (2, .inl y2), (3, .inl y3)] [.inl y2, .inr (.inr (some q6)), .inr (.inr (some 7)), .inr (.inr (some 682))] dM_89_32 (fun _ => rfl) (Or.inr rfl) ?_
      refine gsCallV (y := 58) (k := 682) (as := [.inr (.inr (some 682)), .inr (.inr (some 7)), .inr (.inr (some q6)), .inl y2]) (r := []) dM_89_33 rfl rfl rfl (Nat.le_of_ble_eq_true rfl) sk_682 rfl (Nat.le_of_ble_eq_true rfl) (EvS.up hn (Nat.le_of_ble_eq_true rfl)) (fun v8 t9 hv10 => ?_)
      obtain ⟨rfl, hnn⟩ := hv10
      clear hn
      show GoS _ _ _ _ _ _ _ _ [(0, .inr (.inr (some 0))), (1, .inl y1), (2, .inl y2), (3, .inl y3)] [] t9 _
      refine gs0 37 [(0, .inr (.inr (some 0))), (1, .inl y1), (2, .inl y2), (3, .inl y3)] [.inr (.inr (some 0))] dM_89_36 (fun _ => rfl) (Or.inr rfl) ?_
      refine gsGetR (some 724) dM_89_37 sk_0 rfl rfl ?_
      refine gs0 41 [(0, .inr (.inr (some 0))), (1, .inl y1), (2, .inl y2), (3, .inl y3)] [.inl y3, .inr (.inr (some 724))] dM_89_40 (fun _ => rfl) (Or.inr rfl) ?_
      refine gs0 42 [(0, .inr (.inr (some 0))), (1, .inl y1), (2, .inl y2), (3, .inl y3)] [.inr (.inr (some 0)), .inl y3, .inr (.inr (some 724))] dM_89_41 (fun _ => rfl) (Or.inr rfl) ?_
      refine gsGetR (some 682) dM_89_42 sk_0 rfl rfl ?_
      refine gsGetE (t9 682 3) dM_89_45 sk_682 rfl rfl rfl ?_
      refine gsIastN y3.toNatClampNeg dM_89_48 sk_724 hnn.1 rfl ?_
      replace hnn := hnn.2
      refine gs0 50 [(0, .inr (.inr (some 0))), (1, .inl y1), (2, .inl y2), (3, .inl y3)] [.inl 0] dM_89_49 (fun _ => rfl) (Or.inr rfl) ?_
      refine gs0 52 [(4, .inl 0), (0, .inr (.inr (some 0))), (1, .inl y1), (2, .inl y2), (3, .inl y3)] [] dM_89_50 (fun _ => rfl) (Or.inr rfl) ?_
      exact GoS.sub (Lnd_keys (ks := [0, 1, 2, 3, 4]) rfl (by decide)) (Lsub_cons rfl (Lsub_cons rfl (Lsub_cons rfl (Lsub_cons rfl (Lsub_cons rfl Lsub_nil))))) hnn
set_option maxRecDepth 100000 in
theorem w_89_52 (sg : rSg)  (y1 : Int32) (y2 : Int32) (y3 : Int32) (y4 : Int32) {P : Option rv → rSg → Prop} (h :
    ((sg 682 3) ≤ y4 → 
      g_89_2 y1 y2 (y3 + 1) sg P) ∧
    (¬ ((sg 682 3) ≤ y4) → 
      (200 ≤ y4 → 
        g_89_2 y1 y2 (y3 + 1) sg P) ∧
      (¬ (200 ≤ y4) → 
        (rIn y3 30 = true ∧
        ∃ q13, (fun i => if i < 30 then some (694 + i) else none) y3.toNatClampNeg = some q13 ∧ isArr q13 200 ∧
          EvS rSkel 1 63 [.inr (.inr (some 682)), .inl y4] sg (fun v15 t16 => ∃ n18, v15 = some (.inl n18) ∧
            (rIn y4 200 = true ∧
            g_89_52 y1 y2 y3 (y4 + 1) (up2 t16 q13 y4.toNatClampNeg n18) P)))))) : g_89_52 y1 y2 y3 y4 sg P := by
  show GoS rSkel 4 8 5 none false prog_1_method_39_code 52 [(0, .inr (.inr (some 0))), (1, .inl y1), (2, .inl y2), (3, .inl y3), (4, .inl y4)] [] sg P
  refine gs0 54 [(0, .inr (.inr (some 0))), (1, .inl y1), (2, .inl y2), (3, .inl y3), (4, .inl y4)] [.inl y4] dM_89_52 (fun _ => rfl) (Or.inr rfl) ?_
  refine gs0 55 [(0, .inr (.inr (some 0))), (1, .inl y1), (2, .inl y2), (3, .inl y3), (4, .inl y4)] [.inr (.inr (some 0)), .inl y4] dM_89_54 (fun _ => rfl) (Or.inr rfl) ?_
  refine gsGetR (some 682) dM_89_55 sk_0 rfl rfl ?_
  refine gsGetE (sg 682 3) dM_89_58 sk_682 rfl rfl rfl ?_
  refine gsIf (t := 96) (C := (sg 682 3) ≤ y4) (r := []) dM_89_61 (fun _ => rfl) (Or.inr rfl) (rTest_iff .ge y4 (sg 682 3)) (fun c11 => ?_) (fun c11 => ?_)
  · replace h := h.1 c11
    refine gs0 99 [(3, .inl (y3 + 1)), (0, .inr (.inr (some 0))), (1, .inl y1), (2, .inl y2), (4, .inl y4)] [] dM_89_96 (fun _ => rfl) (Or.inr rfl) ?_
    refine gs0 2 [(3, .inl (y3 + 1)), (0, .inr (.inr (some 0))), (1, .inl y1), (2, .inl y2), (4, .inl y4)] [] dM_89_99 (fun _ => rfl) (Or.inr rfl) ?_
    exact GoS.sub (Lnd_keys (ks := [0, 1, 2, 3]) rfl (by decide)) (Lsub_cons rfl (Lsub_cons rfl (Lsub_cons rfl (Lsub_cons rfl Lsub_nil)))) h
  · replace h := h.2 c11
    refine gs0 66 [(0, .inr (.inr (some 0))), (1, .inl y1), (2, .inl y2), (3, .inl y3), (4, .inl y4)] [.inl y4] dM_89_64 (fun _ => rfl) (Or.inr rfl) ?_
    refine gs0 69 [(0, .inr (.inr (some 0))), (1, .inl y1), (2, .inl y2), (3, .inl y3), (4, .inl y4)] [.inl 200, .inl y4] dM_89_66 (fun _ => rfl) (Or.inr rfl) ?_
    refine gsIf (t := 96) (C := 200 ≤ y4) (r := []) dM_89_69 (fun _ => rfl) (Or.inr rfl) (rTest_iff .ge y4 200) (fun c12 => ?_) (fun c12 => ?_)
    · replace h := h.1 c12
      refine gs0 99 [(3, .inl (y3 + 1)), (0, .inr (.inr (some 0))), (1, .inl y1), (2, .inl y2), (4, .inl y4)] [] dM_89_96 (fun _ => rfl) (Or.inr rfl) ?_
      refine gs0 2 [(3, .inl (y3 + 1)), (0, .inr (.inr (some 0))), (1, .inl y1), (2, .inl y2), (4, .inl y4)] [] dM_89_99 (fun _ => rfl) (Or.inr rfl) ?_
      exact GoS.sub (Lnd_keys (ks := [0, 1, 2, 3]) rfl (by decide)) (Lsub_cons rfl (Lsub_cons rfl (Lsub_cons rfl (Lsub_cons rfl Lsub_nil)))) h
    · replace h := h.2 c12
      refine gs0 73 [(0, .inr (.inr (some 0))), (1, .inl y1), (2, .inl y2), (3, .inl y3), (4, .inl y4)] [.inr (.inr (some 0))] dM_89_72 (fun _ => rfl) (Or.inr rfl) ?_
      refine gsGetR (some 693) dM_89_73 sk_0 rfl rfl ?_
      refine gs0 77 [(0, .inr (.inr (some 0))), (1, .inl y1), (2, .inl y2), (3, .inl y3), (4, .inl y4)] [.inl y3, .inr (.inr (some 693))] dM_89_76 (fun _ => rfl) (Or.inr rfl) ?_
      obtain ⟨hinhq14, q13, hehq14, hq14, h⟩ := h
      refine gsAaldN2 q13 dM_89_77 sk_693 hinhq14 hehq14 ?_
      have b_q13 := hq14.1
      refine gs0 80 [(0, .inr (.inr (some 0))), (1, .inl y1), (2, .inl y2), (3, .inl y3), (4, .inl y4)] [.inl y4, .inr (.inr (some q13))] dM_89_78 (fun _ => rfl) (Or.inr rfl) ?_
      refine gs0 81 [(0, .inr (.inr (some 0))), (1, .inl y1), (2, .inl y2), (3, .inl y3), (4, .inl y4)] [.inr (.inr (some 0)), .inl y4, .inr (.inr (some q13))] dM_89_80 (fun _ => rfl) (Or.inr rfl) ?_
      refine gsGetR (some 682) dM_89_81 sk_0 rfl rfl ?_
      refine gs0 86 [(0, .inr (.inr (some 0))), (1, .inl y1), (2, .inl y2), (3, .inl y3), (4, .inl y4)] [.inl y4, .inr (.inr (some 682)), .inl y4, .inr (.inr (some q13))] dM_89_84 (fun _ => rfl) (Or.inr rfl) ?_
      refine gsCallV (y := 63) (k := 682) (as := [.inr (.inr (some 682)), .inl y4]) (r := [.inl y4, .inr (.inr (some q13))]) dM_89_86 rfl rfl rfl (Nat.le_of_ble_eq_true rfl) sk_682 rfl (Nat.le_of_ble_eq_true rfl) (EvS.up h (Nat.le_of_ble_eq_true rfl)) (fun v15 t16 hv17 => ?_)
      obtain ⟨n18, rfl, hn⟩ := hv17
      clear h
      show GoS _ _ _ _ _ _ _ _ [(0, .inr (.inr (some 0))), (1, .inl y1), (2, .inl y2), (3, .inl y3), (4, .inl y4)] [.inl n18, .inl y4, .inr (.inr (some q13))] t16 _
      refine gsIastN y4.toNatClampNeg dM_89_89 hq14.2 hn.1 rfl ?_
      replace hn := hn.2
      refine gs0 93 [(4, .inl (y4 + 1)), (0, .inr (.inr (some 0))), (1, .inl y1), (2, .inl y2), (3, .inl y3)] [] dM_89_90 (fun _ => rfl) (Or.inr rfl) ?_
      refine gs0 52 [(4, .inl (y4 + 1)), (0, .inr (.inr (some 0))), (1, .inl y1), (2, .inl y2), (3, .inl y3)] [] dM_89_93 (fun _ => rfl) (Or.inr rfl) ?_
      exact GoS.sub (Lnd_keys (ks := [0, 1, 2, 3, 4]) rfl (by decide)) (Lsub_cons rfl (Lsub_cons rfl (Lsub_cons rfl (Lsub_cons rfl (Lsub_cons rfl Lsub_nil))))) hn
set_option maxRecDepth 100000 in
/-- GoalsInAQueue.tellUpTo -/
theorem w_89 (sg : rSg) (x1 : Int32) (x2 : Int32) {P : Option rv → rSg → Prop} (h :
    g_89_2 x1 x2 0 sg P) : EvS rSkel 5 89 [.inr (.inr (some 0)), .inl x1, .inl x2] sg P := by
  refine EvS.of (ini := false) rfl ⟨rfl, Nat.le_of_ble_eq_true rfl⟩ rfl ?_
  show GoS rSkel 4 8 5 none false prog_1_method_39_code 0 [(0, .inr (.inr (some 0))), (1, .inl x1), (2, .inl x2)] [] sg _
  refine gs0 1 [(0, .inr (.inr (some 0))), (1, .inl x1), (2, .inl x2)] [.inl 0] dM_89_0 (fun _ => rfl) (Or.inr rfl) ?_
  refine gs0 2 [(3, .inl 0), (0, .inr (.inr (some 0))), (1, .inl x1), (2, .inl x2)] [] dM_89_1 (fun _ => rfl) (Or.inr rfl) ?_
  exact GoS.sub (Lnd_keys (ks := [0, 1, 2, 3]) rfl (by decide)) (Lsub_cons rfl (Lsub_cons rfl (Lsub_cons rfl (Lsub_cons rfl Lsub_nil)))) h
def g_91_39  (y1 : Int32) (y2 : Int32) (y3 : Int32) (sg : rSg) (P : Option rv → rSg → Prop) : Prop := GoS rSkel 0 8 4 (some .boolean) false prog_1_method_41_code 39 [(0, .inr (.inr (some 0))), (1, .inl y1), (2, .inl y2), (3, .inl y3)] [] sg P
set_option maxRecDepth 100000 in
theorem w_91_39 (sg : rSg)  (y1 : Int32) (y2 : Int32) (y3 : Int32) {P : Option rv → rSg → Prop} (h :
    (rIn y1 30 = true ∧
    ((sg 724 y1.toNatClampNeg) ≤ y3 → 
      P (some (.inl 1)) sg) ∧
    (¬ ((sg 724 y1.toNatClampNeg) ≤ y3) → 
      (200 ≤ y3 → 
        P (some (.inl 1)) sg) ∧
      (¬ (200 ≤ y3) → 
        (rIn y1 30 = true ∧
        ∃ q8, (fun i => if i < 30 then some (694 + i) else none) y1.toNatClampNeg = some q8 ∧ isArr q8 200 ∧
          rIn y3 200 = true ∧
          rIn y2 30 = true ∧
          ∃ q10, (fun i => if i < 30 then some (694 + i) else none) y2.toNatClampNeg = some q10 ∧ isArr q10 200 ∧
            rIn y3 200 = true ∧
            ((sg q8 y3.toNatClampNeg) = (sg q10 y3.toNatClampNeg) → 
              g_91_39 y1 y2 (y3 + 1) sg P) ∧
            (¬ ((sg q8 y3.toNatClampNeg) = (sg q10 y3.toNatClampNeg)) → 
              P (some (.inl 0)) sg)))))) : g_91_39 y1 y2 y3 sg P := by
  show GoS rSkel 0 8 4 (some .boolean) false prog_1_method_41_code 39 [(0, .inr (.inr (some 0))), (1, .inl y1), (2, .inl y2), (3, .inl y3)] [] sg P
  refine gs0 40 [(0, .inr (.inr (some 0))), (1, .inl y1), (2, .inl y2), (3, .inl y3)] [.inl y3] dM_91_39 (fun _ => rfl) (Or.inr rfl) ?_
  refine gs0 41 [(0, .inr (.inr (some 0))), (1, .inl y1), (2, .inl y2), (3, .inl y3)] [.inr (.inr (some 0)), .inl y3] dM_91_40 (fun _ => rfl) (Or.inr rfl) ?_
  refine gsGetR (some 724) dM_91_41 sk_0 rfl rfl ?_
  refine gs0 45 [(0, .inr (.inr (some 0))), (1, .inl y1), (2, .inl y2), (3, .inl y3)] [.inl y1, .inr (.inr (some 724)), .inl y3] dM_91_44 (fun _ => rfl) (Or.inr rfl) ?_
  refine gsIaldN y1.toNatClampNeg (sg 724 y1.toNatClampNeg) dM_91_45 sk_724 h.1 rfl rfl ?_
  replace h := h.2
  refine gsIf (t := 83) (C := (sg 724 y1.toNatClampNeg) ≤ y3) (r := []) dM_91_46 (fun _ => rfl) (Or.inr rfl) (rTest_iff .ge y3 (sg 724 y1.toNatClampNeg)) (fun c6 => ?_) (fun c6 => ?_)
  · replace h := h.1 c6
    refine gs0 84 [(0, .inr (.inr (some 0))), (1, .inl y1), (2, .inl y2), (3, .inl y3)] [.inl 1] dM_91_83 (fun _ => rfl) (Or.inr rfl) ?_
    refine gsRet (r := some (.inl 1)) dM_91_84 (fun _ => rfl) (Or.inr rfl) ?_
    exact h
  · replace h := h.2 c6
    refine gs0 50 [(0, .inr (.inr (some 0))), (1, .inl y1), (2, .inl y2), (3, .inl y3)] [.inl y3] dM_91_49 (fun _ => rfl) (Or.inr rfl) ?_
    refine gs0 53 [(0, .inr (.inr (some 0))), (1, .inl y1), (2, .inl y2), (3, .inl y3)] [.inl 200, .inl y3] dM_91_50 (fun _ => rfl) (Or.inr rfl) ?_
    refine gsIf (t := 83) (C := 200 ≤ y3) (r := []) dM_91_53 (fun _ => rfl) (Or.inr rfl) (rTest_iff .ge y3 200) (fun c7 => ?_) (fun c7 => ?_)
    · replace h := h.1 c7
      refine gs0 84 [(0, .inr (.inr (some 0))), (1, .inl y1), (2, .inl y2), (3, .inl y3)] [.inl 1] dM_91_83 (fun _ => rfl) (Or.inr rfl) ?_
      refine gsRet (r := some (.inl 1)) dM_91_84 (fun _ => rfl) (Or.inr rfl) ?_
      exact h
    · replace h := h.2 c7
      refine gs0 57 [(0, .inr (.inr (some 0))), (1, .inl y1), (2, .inl y2), (3, .inl y3)] [.inr (.inr (some 0))] dM_91_56 (fun _ => rfl) (Or.inr rfl) ?_
      refine gsGetR (some 693) dM_91_57 sk_0 rfl rfl ?_
      refine gs0 61 [(0, .inr (.inr (some 0))), (1, .inl y1), (2, .inl y2), (3, .inl y3)] [.inl y1, .inr (.inr (some 693))] dM_91_60 (fun _ => rfl) (Or.inr rfl) ?_
      obtain ⟨hinhq9, q8, hehq9, hq9, h⟩ := h
      refine gsAaldN2 q8 dM_91_61 sk_693 hinhq9 hehq9 ?_
      have b_q8 := hq9.1
      refine gs0 63 [(0, .inr (.inr (some 0))), (1, .inl y1), (2, .inl y2), (3, .inl y3)] [.inl y3, .inr (.inr (some q8))] dM_91_62 (fun _ => rfl) (Or.inr rfl) ?_
      refine gsIaldN y3.toNatClampNeg (sg q8 y3.toNatClampNeg) dM_91_63 hq9.2 h.1 rfl rfl ?_
      replace h := h.2
      refine gs0 65 [(0, .inr (.inr (some 0))), (1, .inl y1), (2, .inl y2), (3, .inl y3)] [.inr (.inr (some 0)), .inl (sg q8 y3.toNatClampNeg)] dM_91_64 (fun _ => rfl) (Or.inr rfl) ?_
      refine gsGetR (some 693) dM_91_65 sk_0 rfl rfl ?_
      refine gs0 69 [(0, .inr (.inr (some 0))), (1, .inl y1), (2, .inl y2), (3, .inl y3)] [.inl y2, .inr (.inr (some 693)), .inl (sg q8 y3.toNatClampNeg)] dM_91_68 (fun _ => rfl) (Or.inr rfl) ?_
      obtain ⟨hinhq11, q10, hehq11, hq11, h⟩ := h
      refine gsAaldN2 q10 dM_91_69 sk_693 hinhq11 hehq11 ?_
      have b_q10 := hq11.1
      refine gs0 71 [(0, .inr (.inr (some 0))), (1, .inl y1), (2, .inl y2), (3, .inl y3)] [.inl y3, .inr (.inr (some q10)), .inl (sg q8 y3.toNatClampNeg)] dM_91_70 (fun _ => rfl) (Or.inr rfl) ?_
      refine gsIaldN y3.toNatClampNeg (sg q10 y3.toNatClampNeg) dM_91_71 hq11.2 h.1 rfl rfl ?_
      replace h := h.2
      refine gsIf (t := 77) (C := (sg q8 y3.toNatClampNeg) = (sg q10 y3.toNatClampNeg)) (r := []) dM_91_72 (fun _ => rfl) (Or.inr rfl) (rTest_iff .eq (sg q8 y3.toNatClampNeg) (sg q10 y3.toNatClampNeg)) (fun c12 => ?_) (fun c12 => ?_)
      · replace h := h.1 c12
        refine gs0 80 [(3, .inl (y3 + 1)), (0, .inr (.inr (some 0))), (1, .inl y1), (2, .inl y2)] [] dM_91_77 (fun _ => rfl) (Or.inr rfl) ?_
        refine gs0 39 [(3, .inl (y3 + 1)), (0, .inr (.inr (some 0))), (1, .inl y1), (2, .inl y2)] [] dM_91_80 (fun _ => rfl) (Or.inr rfl) ?_
        exact GoS.sub (Lnd_keys (ks := [0, 1, 2, 3]) rfl (by decide)) (Lsub_cons rfl (Lsub_cons rfl (Lsub_cons rfl (Lsub_cons rfl Lsub_nil)))) h
      · replace h := h.2 c12
        refine gs0 76 [(0, .inr (.inr (some 0))), (1, .inl y1), (2, .inl y2), (3, .inl y3)] [.inl 0] dM_91_75 (fun _ => rfl) (Or.inr rfl) ?_
        refine gsRet (r := some (.inl 0)) dM_91_76 (fun _ => rfl) (Or.inr rfl) ?_
        exact h
set_option maxRecDepth 100000 in
/-- GoalsInAQueue.isAlike -/
theorem w_91 (sg : rSg) (x1 : Int32) (x2 : Int32) {P : Option rv → rSg → Prop} (h :
    (x1 < 0 → 
      P (some (.inl 0)) sg) ∧
    (¬ (x1 < 0) → 
      (x2 < 0 → 
        P (some (.inl 0)) sg) ∧
      (¬ (x2 < 0) → 
        (30 ≤ x1 → 
          P (some (.inl 0)) sg) ∧
        (¬ (30 ≤ x1) → 
          (30 ≤ x2 → 
            P (some (.inl 0)) sg) ∧
          (¬ (30 ≤ x2) → 
            (rIn x1 30 = true ∧
            rIn x2 30 = true ∧
            ((sg 724 x1.toNatClampNeg) = (sg 724 x2.toNatClampNeg) → 
              g_91_39 x1 x2 0 sg P) ∧
            (¬ ((sg 724 x1.toNatClampNeg) = (sg 724 x2.toNatClampNeg)) → 
              P (some (.inl 0)) sg))))))) : EvS rSkel 1 91 [.inr (.inr (some 0)), .inl x1, .inl x2] sg P := by
  refine EvS.of (ini := false) rfl ⟨rfl, Nat.le_of_ble_eq_true rfl⟩ rfl ?_
  show GoS rSkel 0 8 4 (some .boolean) false prog_1_method_41_code 0 [(0, .inr (.inr (some 0))), (1, .inl x1), (2, .inl x2)] [] sg _
  refine gs0 1 [(0, .inr (.inr (some 0))), (1, .inl x1), (2, .inl x2)] [.inl x1] dM_91_0 (fun _ => rfl) (Or.inr rfl) ?_
  refine gsIf (t := 35) (C := x1 < 0) (r := []) dM_91_1 (fun _ => rfl) (Or.inr rfl) (rTest_iff .lt x1 0) (fun c1 => ?_) (fun c1 => ?_)
  · replace h := h.1 c1
    refine gs0 36 [(0, .inr (.inr (some 0))), (1, .inl x1), (2, .inl x2)] [.inl 0] dM_91_35 (fun _ => rfl) (Or.inr rfl) ?_
    refine gsRet (r := some (.inl 0)) dM_91_36 (fun _ => rfl) (Or.inr rfl) ?_
    exact h
  · replace h := h.2 c1
    refine gs0 5 [(0, .inr (.inr (some 0))), (1, .inl x1), (2, .inl x2)] [.inl x2] dM_91_4 (fun _ => rfl) (Or.inr rfl) ?_
    refine gsIf (t := 35) (C := x2 < 0) (r := []) dM_91_5 (fun _ => rfl) (Or.inr rfl) (rTest_iff .lt x2 0) (fun c2 => ?_) (fun c2 => ?_)
    · replace h := h.1 c2
      refine gs0 36 [(0, .inr (.inr (some 0))), (1, .inl x1), (2, .inl x2)] [.inl 0] dM_91_35 (fun _ => rfl) (Or.inr rfl) ?_
      refine gsRet (r := some (.inl 0)) dM_91_36 (fun _ => rfl) (Or.inr rfl) ?_
      exact h
    · replace h := h.2 c2
      refine gs0 9 [(0, .inr (.inr (some 0))), (1, .inl x1), (2, .inl x2)] [.inl x1] dM_91_8 (fun _ => rfl) (Or.inr rfl) ?_
      refine gs0 11 [(0, .inr (.inr (some 0))), (1, .inl x1), (2, .inl x2)] [.inl 30, .inl x1] dM_91_9 (fun _ => rfl) (Or.inr rfl) ?_
      refine gsIf (t := 35) (C := 30 ≤ x1) (r := []) dM_91_11 (fun _ => rfl) (Or.inr rfl) (rTest_iff .ge x1 30) (fun c3 => ?_) (fun c3 => ?_)
      · replace h := h.1 c3
        refine gs0 36 [(0, .inr (.inr (some 0))), (1, .inl x1), (2, .inl x2)] [.inl 0] dM_91_35 (fun _ => rfl) (Or.inr rfl) ?_
        refine gsRet (r := some (.inl 0)) dM_91_36 (fun _ => rfl) (Or.inr rfl) ?_
        exact h
      · replace h := h.2 c3
        refine gs0 15 [(0, .inr (.inr (some 0))), (1, .inl x1), (2, .inl x2)] [.inl x2] dM_91_14 (fun _ => rfl) (Or.inr rfl) ?_
        refine gs0 17 [(0, .inr (.inr (some 0))), (1, .inl x1), (2, .inl x2)] [.inl 30, .inl x2] dM_91_15 (fun _ => rfl) (Or.inr rfl) ?_
        refine gsIf (t := 35) (C := 30 ≤ x2) (r := []) dM_91_17 (fun _ => rfl) (Or.inr rfl) (rTest_iff .ge x2 30) (fun c4 => ?_) (fun c4 => ?_)
        · replace h := h.1 c4
          refine gs0 36 [(0, .inr (.inr (some 0))), (1, .inl x1), (2, .inl x2)] [.inl 0] dM_91_35 (fun _ => rfl) (Or.inr rfl) ?_
          refine gsRet (r := some (.inl 0)) dM_91_36 (fun _ => rfl) (Or.inr rfl) ?_
          exact h
        · replace h := h.2 c4
          refine gs0 21 [(0, .inr (.inr (some 0))), (1, .inl x1), (2, .inl x2)] [.inr (.inr (some 0))] dM_91_20 (fun _ => rfl) (Or.inr rfl) ?_
          refine gsGetR (some 724) dM_91_21 sk_0 rfl rfl ?_
          refine gs0 25 [(0, .inr (.inr (some 0))), (1, .inl x1), (2, .inl x2)] [.inl x1, .inr (.inr (some 724))] dM_91_24 (fun _ => rfl) (Or.inr rfl) ?_
          refine gsIaldN x1.toNatClampNeg (sg 724 x1.toNatClampNeg) dM_91_25 sk_724 h.1 rfl rfl ?_
          replace h := h.2
          refine gs0 27 [(0, .inr (.inr (some 0))), (1, .inl x1), (2, .inl x2)] [.inr (.inr (some 0)), .inl (sg 724 x1.toNatClampNeg)] dM_91_26 (fun _ => rfl) (Or.inr rfl) ?_
          refine gsGetR (some 724) dM_91_27 sk_0 rfl rfl ?_
          refine gs0 31 [(0, .inr (.inr (some 0))), (1, .inl x1), (2, .inl x2)] [.inl x2, .inr (.inr (some 724)), .inl (sg 724 x1.toNatClampNeg)] dM_91_30 (fun _ => rfl) (Or.inr rfl) ?_
          refine gsIaldN x2.toNatClampNeg (sg 724 x2.toNatClampNeg) dM_91_31 sk_724 h.1 rfl rfl ?_
          replace h := h.2
          refine gsIf (t := 37) (C := (sg 724 x1.toNatClampNeg) = (sg 724 x2.toNatClampNeg)) (r := []) dM_91_32 (fun _ => rfl) (Or.inr rfl) (rTest_iff .eq (sg 724 x1.toNatClampNeg) (sg 724 x2.toNatClampNeg)) (fun c5 => ?_) (fun c5 => ?_)
          · replace h := h.1 c5
            refine gs0 38 [(0, .inr (.inr (some 0))), (1, .inl x1), (2, .inl x2)] [.inl 0] dM_91_37 (fun _ => rfl) (Or.inr rfl) ?_
            refine gs0 39 [(3, .inl 0), (0, .inr (.inr (some 0))), (1, .inl x1), (2, .inl x2)] [] dM_91_38 (fun _ => rfl) (Or.inr rfl) ?_
            exact GoS.sub (Lnd_keys (ks := [0, 1, 2, 3]) rfl (by decide)) (Lsub_cons rfl (Lsub_cons rfl (Lsub_cons rfl (Lsub_cons rfl Lsub_nil)))) h
          · replace h := h.2 c5
            refine gs0 36 [(0, .inr (.inr (some 0))), (1, .inl x1), (2, .inl x2)] [.inl 0] dM_91_35 (fun _ => rfl) (Or.inr rfl) ?_
            refine gsRet (r := some (.inl 0)) dM_91_36 (fun _ => rfl) (Or.inr rfl) ?_
            exact h
