/-! CONSTRUCTORS without calls of their own (by program: wip/whole/gen_cons.py) -/
theorem len_r {Sk T : List rSk} {b k : Nat} (hb : Sk.length = b) (h : b + T.length = k) : (Sk ++ T).length = k := by rw [List.length_append, hb, h]
theorem app_r {Sk T T2 : List rSk} {s : rSk} (h : T ++ [s] = T2) : (Sk ++ T) ++ [s] = Sk ++ T2 := by rw [List.append_assoc, h]
theorem dM_64_0 : decode prog_9_method_1_code 0 = .ok (.aload_n 0, 1) := by decide +kernel
theorem dM_64_1 : decode prog_9_method_1_code 1 = .ok (.invokespecial 3, 3) := by decide +kernel
theorem dM_64_4 : decode prog_9_method_1_code 4 = .ok (.aload_n 0, 1) := by decide +kernel
theorem dM_64_5 : decode prog_9_method_1_code 5 = .ok (.sipush 1024, 3) := by decide +kernel
theorem dM_64_8 : decode prog_9_method_1_code 8 = .ok (.newarray .int, 2) := by decide +kernel
theorem dM_64_10 : decode prog_9_method_1_code 10 = .ok (.putfield 9, 3) := by decide +kernel
theorem dM_64_13 : decode prog_9_method_1_code 13 = .ok (.aload_n 0, 1) := by decide +kernel
theorem dM_64_14 : decode prog_9_method_1_code 14 = .ok (.sipush 1024, 3) := by decide +kernel
theorem dM_64_17 : decode prog_9_method_1_code 17 = .ok (.newarray .int, 2) := by decide +kernel
theorem dM_64_19 : decode prog_9_method_1_code 19 = .ok (.putfield 15, 3) := by decide +kernel
theorem dM_64_22 : decode prog_9_method_1_code 22 = .ok (.aload_n 0, 1) := by decide +kernel
theorem dM_64_23 : decode prog_9_method_1_code 23 = .ok (.sipush 128, 3) := by decide +kernel
theorem dM_64_26 : decode prog_9_method_1_code 26 = .ok (.newarray .int, 2) := by decide +kernel
theorem dM_64_28 : decode prog_9_method_1_code 28 = .ok (.putfield 18, 3) := by decide +kernel
theorem dM_64_31 : decode prog_9_method_1_code 31 = .ok (.aload_n 0, 1) := by decide +kernel
theorem dM_64_32 : decode prog_9_method_1_code 32 = .ok (.sipush 128, 3) := by decide +kernel
theorem dM_64_35 : decode prog_9_method_1_code 35 = .ok (.newarray .int, 2) := by decide +kernel
theorem dM_64_37 : decode prog_9_method_1_code 37 = .ok (.putfield 21, 3) := by decide +kernel
theorem dM_64_40 : decode prog_9_method_1_code 40 = .ok (.aload_n 0, 1) := by decide +kernel
theorem dM_64_41 : decode prog_9_method_1_code 41 = .ok (.iconst 0, 1) := by decide +kernel
theorem dM_64_42 : decode prog_9_method_1_code 42 = .ok (.putfield 24, 3) := by decide +kernel
theorem dM_64_45 : decode prog_9_method_1_code 45 = .ok (.aload_n 0, 1) := by decide +kernel
theorem dM_64_46 : decode prog_9_method_1_code 46 = .ok (.iconst 0, 1) := by decide +kernel
theorem dM_64_47 : decode prog_9_method_1_code 47 = .ok (.putfield 28, 3) := by decide +kernel
theorem dM_64_50 : decode prog_9_method_1_code 50 = .ok (.aload_n 0, 1) := by decide +kernel
theorem dM_64_51 : decode prog_9_method_1_code 51 = .ok (.iconst 0, 1) := by decide +kernel
theorem dM_64_52 : decode prog_9_method_1_code 52 = .ok (.putfield 31, 3) := by decide +kernel
theorem dM_64_55 : decode prog_9_method_1_code 55 = .ok (.return_, 1) := by decide +kernel
/-- GoalsInAQueue$Unifier -/
theorem k_64 {Sk : List rSk} {b : Nat} (hb : Sk.length = b) (sg : rSg)  {P : Option rv → List rSk → rSg → Nat → Nat → Prop} (h : P none (Sk ++ [.inr (.inr (7, [some (some (b + 1)), some (some (b + 2)), some (some (b + 3)), some (some (b + 4)), none, none, none])), .inl 1024, .inl 1024, .inl 128, .inl 128]) (up2 (up2 (up2 (upC (upC (upC (upC sg (b + 1) (fun _ => 0)) (b + 2) (fun _ => 0)) (b + 3) (fun _ => 0)) (b + 4) (fun _ => 0)) b 4 0) b 5 0) b 6 0) 4 2304) : EvK 1 64 [.inr (.inr (some b))] (Sk ++ [.inr (.inr (7, [some none, some none, some none, some none, none, none, none]))]) sg P := by
  refine EvK.of (ini := true) rfl ⟨rfl, Nat.le_of_ble_eq_true rfl⟩ rfl ?_
  show GoK 0 7 1 none true prog_9_method_1_code 0 [(0, .inr (.inr (some b)))] [] (Sk ++ [.inr (.inr (7, [some none, some none, some none, some none, none, none, none]))]) sg 0 0 P
  refine gk0 1 [(0, .inr (.inr (some b)))] [.inr (.inr (some b))] dM_64_0 (fun _ => rfl) (Or.inr rfl) ?_
  refine gk0 4 [(0, .inr (.inr (some b)))] [] dM_64_1 (fun _ => rfl) (Or.inr rfl) ?_
  refine gk0 5 [(0, .inr (.inr (some b)))] [.inr (.inr (some b))] dM_64_4 (fun _ => rfl) (Or.inr rfl) ?_
  refine gk0 8 [(0, .inr (.inr (some b)))] [.inl 1024, .inr (.inr (some b))] dM_64_5 (fun _ => rfl) (Or.inr rfl) ?_
  refine gkNewA (nn := 1024) (k := b + 1) (Sk2 := Sk ++ [.inr (.inr (7, [some none, some none, some none, some none, none, none, none])), .inl 1024]) dM_64_8 (by decide) rfl (by decide) (len_r hb rfl) (app_r rfl) ?_
  refine gkPutR (Sk2 := Sk ++ [.inr (.inr (7, [some (some (b + 1)), some none, some none, some none, none, none, none])), .inl 1024]) dM_64_10 (at_r hb (j := 0) rfl rfl) rfl rfl rfl (fun _ => ⟨rfl, rfl⟩) (set_r hb (j := 0) rfl rfl) ?_
  refine gk0 14 [(0, .inr (.inr (some b)))] [.inr (.inr (some b))] dM_64_13 (fun _ => rfl) (Or.inr rfl) ?_
  refine gk0 17 [(0, .inr (.inr (some b)))] [.inl 1024, .inr (.inr (some b))] dM_64_14 (fun _ => rfl) (Or.inr rfl) ?_
  refine gkNewA (nn := 1024) (k := b + 2) (Sk2 := Sk ++ [.inr (.inr (7, [some (some (b + 1)), some none, some none, some none, none, none, none])), .inl 1024, .inl 1024]) dM_64_17 (by decide) rfl (by decide) (len_r hb rfl) (app_r rfl) ?_
  refine gkPutR (Sk2 := Sk ++ [.inr (.inr (7, [some (some (b + 1)), some (some (b + 2)), some none, some none, none, none, none])), .inl 1024, .inl 1024]) dM_64_19 (at_r hb (j := 0) rfl rfl) rfl rfl rfl (fun _ => ⟨rfl, rfl⟩) (set_r hb (j := 0) rfl rfl) ?_
  refine gk0 23 [(0, .inr (.inr (some b)))] [.inr (.inr (some b))] dM_64_22 (fun _ => rfl) (Or.inr rfl) ?_
  refine gk0 26 [(0, .inr (.inr (some b)))] [.inl 128, .inr (.inr (some b))] dM_64_23 (fun _ => rfl) (Or.inr rfl) ?_
  refine gkNewA (nn := 128) (k := b + 3) (Sk2 := Sk ++ [.inr (.inr (7, [some (some (b + 1)), some (some (b + 2)), some none, some none, none, none, none])), .inl 1024, .inl 1024, .inl 128]) dM_64_26 (by decide) rfl (by decide) (len_r hb rfl) (app_r rfl) ?_
  refine gkPutR (Sk2 := Sk ++ [.inr (.inr (7, [some (some (b + 1)), some (some (b + 2)), some (some (b + 3)), some none, none, none, none])), .inl 1024, .inl 1024, .inl 128]) dM_64_28 (at_r hb (j := 0) rfl rfl) rfl rfl rfl (fun _ => ⟨rfl, rfl⟩) (set_r hb (j := 0) rfl rfl) ?_
  refine gk0 32 [(0, .inr (.inr (some b)))] [.inr (.inr (some b))] dM_64_31 (fun _ => rfl) (Or.inr rfl) ?_
  refine gk0 35 [(0, .inr (.inr (some b)))] [.inl 128, .inr (.inr (some b))] dM_64_32 (fun _ => rfl) (Or.inr rfl) ?_
  refine gkNewA (nn := 128) (k := b + 4) (Sk2 := Sk ++ [.inr (.inr (7, [some (some (b + 1)), some (some (b + 2)), some (some (b + 3)), some none, none, none, none])), .inl 1024, .inl 1024, .inl 128, .inl 128]) dM_64_35 (by decide) rfl (by decide) (len_r hb rfl) (app_r rfl) ?_
  refine gkPutR (Sk2 := Sk ++ [.inr (.inr (7, [some (some (b + 1)), some (some (b + 2)), some (some (b + 3)), some (some (b + 4)), none, none, none])), .inl 1024, .inl 1024, .inl 128, .inl 128]) dM_64_37 (at_r hb (j := 0) rfl rfl) rfl rfl rfl (fun _ => ⟨rfl, rfl⟩) (set_r hb (j := 0) rfl rfl) ?_
  refine gk0 41 [(0, .inr (.inr (some b)))] [.inr (.inr (some b))] dM_64_40 (fun _ => rfl) (Or.inr rfl) ?_
  refine gk0 42 [(0, .inr (.inr (some b)))] [.inl 0, .inr (.inr (some b))] dM_64_41 (fun _ => rfl) (Or.inr rfl) ?_
  refine gkPut dM_64_42 (at_r hb (j := 0) rfl rfl) rfl rfl rfl (fun q => by cases q) ?_
  refine gk0 46 [(0, .inr (.inr (some b)))] [.inr (.inr (some b))] dM_64_45 (fun _ => rfl) (Or.inr rfl) ?_
  refine gk0 47 [(0, .inr (.inr (some b)))] [.inl 0, .inr (.inr (some b))] dM_64_46 (fun _ => rfl) (Or.inr rfl) ?_
  refine gkPut dM_64_47 (at_r hb (j := 0) rfl rfl) rfl rfl rfl (fun q => by cases q) ?_
  refine gk0 51 [(0, .inr (.inr (some b)))] [.inr (.inr (some b))] dM_64_50 (fun _ => rfl) (Or.inr rfl) ?_
  refine gk0 52 [(0, .inr (.inr (some b)))] [.inl 0, .inr (.inr (some b))] dM_64_51 (fun _ => rfl) (Or.inr rfl) ?_
  refine gkPut dM_64_52 (at_r hb (j := 0) rfl rfl) rfl rfl rfl (fun q => by cases q) ?_
  exact gkRet (r := none) dM_64_55 (fun _ => rfl) (Or.inr rfl) h
theorem dM_19_0 : decode prog_5_method_1_code 0 = .ok (.aload_n 0, 1) := by decide +kernel
theorem dM_19_1 : decode prog_5_method_1_code 1 = .ok (.invokespecial 3, 3) := by decide +kernel
theorem dM_19_4 : decode prog_5_method_1_code 4 = .ok (.aload_n 0, 1) := by decide +kernel
theorem dM_19_5 : decode prog_5_method_1_code 5 = .ok (.sipush 326, 3) := by decide +kernel
theorem dM_19_8 : decode prog_5_method_1_code 8 = .ok (.newarray .int, 2) := by decide +kernel
theorem dM_19_10 : decode prog_5_method_1_code 10 = .ok (.putfield 9, 3) := by decide +kernel
theorem dM_19_13 : decode prog_5_method_1_code 13 = .ok (.aload_n 0, 1) := by decide +kernel
theorem dM_19_14 : decode prog_5_method_1_code 14 = .ok (.sipush 978, 3) := by decide +kernel
theorem dM_19_17 : decode prog_5_method_1_code 17 = .ok (.newarray .int, 2) := by decide +kernel
theorem dM_19_19 : decode prog_5_method_1_code 19 = .ok (.putfield 15, 3) := by decide +kernel
theorem dM_19_22 : decode prog_5_method_1_code 22 = .ok (.aload_n 0, 1) := by decide +kernel
theorem dM_19_23 : decode prog_5_method_1_code 23 = .ok (.sipush 1280, 3) := by decide +kernel
theorem dM_19_26 : decode prog_5_method_1_code 26 = .ok (.newarray .int, 2) := by decide +kernel
theorem dM_19_28 : decode prog_5_method_1_code 28 = .ok (.putfield 18, 3) := by decide +kernel
theorem dM_19_31 : decode prog_5_method_1_code 31 = .ok (.aload_n 0, 1) := by decide +kernel
theorem dM_19_32 : decode prog_5_method_1_code 32 = .ok (.getfield 9, 3) := by decide +kernel
theorem dM_19_35 : decode prog_5_method_1_code 35 = .ok (.iconst 0, 1) := by decide +kernel
theorem dM_19_36 : decode prog_5_method_1_code 36 = .ok (.bipush 42, 2) := by decide +kernel
theorem dM_19_38 : decode prog_5_method_1_code 38 = .ok (.iastore, 1) := by decide +kernel
theorem dM_19_39 : decode prog_5_method_1_code 39 = .ok (.aload_n 0, 1) := by decide +kernel
theorem dM_19_40 : decode prog_5_method_1_code 40 = .ok (.iconst 1, 1) := by decide +kernel
theorem dM_19_41 : decode prog_5_method_1_code 41 = .ok (.putfield 21, 3) := by decide +kernel
theorem dM_19_44 : decode prog_5_method_1_code 44 = .ok (.aload_n 0, 1) := by decide +kernel
theorem dM_19_45 : decode prog_5_method_1_code 45 = .ok (.iconst 0, 1) := by decide +kernel
theorem dM_19_46 : decode prog_5_method_1_code 46 = .ok (.putfield 25, 3) := by decide +kernel
theorem dM_19_49 : decode prog_5_method_1_code 49 = .ok (.aload_n 0, 1) := by decide +kernel
theorem dM_19_50 : decode prog_5_method_1_code 50 = .ok (.iconst 0, 1) := by decide +kernel
theorem dM_19_51 : decode prog_5_method_1_code 51 = .ok (.putfield 28, 3) := by decide +kernel
theorem dM_19_54 : decode prog_5_method_1_code 54 = .ok (.aload_n 0, 1) := by decide +kernel
theorem dM_19_55 : decode prog_5_method_1_code 55 = .ok (.iconst 1, 1) := by decide +kernel
theorem dM_19_56 : decode prog_5_method_1_code 56 = .ok (.putfield 31, 3) := by decide +kernel
theorem dM_19_59 : decode prog_5_method_1_code 59 = .ok (.aload_n 0, 1) := by decide +kernel
theorem dM_19_60 : decode prog_5_method_1_code 60 = .ok (.iconst 0, 1) := by decide +kernel
theorem dM_19_61 : decode prog_5_method_1_code 61 = .ok (.putfield 34, 3) := by decide +kernel
theorem dM_19_64 : decode prog_5_method_1_code 64 = .ok (.aload_n 0, 1) := by decide +kernel
theorem dM_19_65 : decode prog_5_method_1_code 65 = .ok (.iconst 0, 1) := by decide +kernel
theorem dM_19_66 : decode prog_5_method_1_code 66 = .ok (.putfield 37, 3) := by decide +kernel
theorem dM_19_69 : decode prog_5_method_1_code 69 = .ok (.return_, 1) := by decide +kernel
/-- GoalsInAQueue$Script -/
theorem k_19 {Sk : List rSk} {b : Nat} (hb : Sk.length = b) (sg : rSg)  {P : Option rv → List rSk → rSg → Nat → Nat → Prop} (h : P none (Sk ++ [.inr (.inr (3, [some (some (b + 1)), some (some (b + 2)), some (some (b + 3)), none, none, none, none, none, none])), .inl 326, .inl 978, .inl 1280]) (up2 (up2 (up2 (up2 (up2 (up2 (up2 (upC (upC (upC sg (b + 1) (fun _ => 0)) (b + 2) (fun _ => 0)) (b + 3) (fun _ => 0)) (b + 1) 0 42) b 3 1) b 4 0) b 5 0) b 6 1) b 7 0) b 8 0) 3 2584) : EvK 1 19 [.inr (.inr (some b))] (Sk ++ [.inr (.inr (3, [some none, some none, some none, none, none, none, none, none, none]))]) sg P := by
  refine EvK.of (ini := true) rfl ⟨rfl, Nat.le_of_ble_eq_true rfl⟩ rfl ?_
  show GoK 0 3 1 none true prog_5_method_1_code 0 [(0, .inr (.inr (some b)))] [] (Sk ++ [.inr (.inr (3, [some none, some none, some none, none, none, none, none, none, none]))]) sg 0 0 P
  refine gk0 1 [(0, .inr (.inr (some b)))] [.inr (.inr (some b))] dM_19_0 (fun _ => rfl) (Or.inr rfl) ?_
  refine gk0 4 [(0, .inr (.inr (some b)))] [] dM_19_1 (fun _ => rfl) (Or.inr rfl) ?_
  refine gk0 5 [(0, .inr (.inr (some b)))] [.inr (.inr (some b))] dM_19_4 (fun _ => rfl) (Or.inr rfl) ?_
  refine gk0 8 [(0, .inr (.inr (some b)))] [.inl 326, .inr (.inr (some b))] dM_19_5 (fun _ => rfl) (Or.inr rfl) ?_
  refine gkNewA (nn := 326) (k := b + 1) (Sk2 := Sk ++ [.inr (.inr (3, [some none, some none, some none, none, none, none, none, none, none])), .inl 326]) dM_19_8 (by decide) rfl (by decide) (len_r hb rfl) (app_r rfl) ?_
  refine gkPutR (Sk2 := Sk ++ [.inr (.inr (3, [some (some (b + 1)), some none, some none, none, none, none, none, none, none])), .inl 326]) dM_19_10 (at_r hb (j := 0) rfl rfl) rfl rfl rfl (fun _ => ⟨rfl, rfl⟩) (set_r hb (j := 0) rfl rfl) ?_
  refine gk0 14 [(0, .inr (.inr (some b)))] [.inr (.inr (some b))] dM_19_13 (fun _ => rfl) (Or.inr rfl) ?_
  refine gk0 17 [(0, .inr (.inr (some b)))] [.inl 978, .inr (.inr (some b))] dM_19_14 (fun _ => rfl) (Or.inr rfl) ?_
  refine gkNewA (nn := 978) (k := b + 2) (Sk2 := Sk ++ [.inr (.inr (3, [some (some (b + 1)), some none, some none, none, none, none, none, none, none])), .inl 326, .inl 978]) dM_19_17 (by decide) rfl (by decide) (len_r hb rfl) (app_r rfl) ?_
  refine gkPutR (Sk2 := Sk ++ [.inr (.inr (3, [some (some (b + 1)), some (some (b + 2)), some none, none, none, none, none, none, none])), .inl 326, .inl 978]) dM_19_19 (at_r hb (j := 0) rfl rfl) rfl rfl rfl (fun _ => ⟨rfl, rfl⟩) (set_r hb (j := 0) rfl rfl) ?_
  refine gk0 23 [(0, .inr (.inr (some b)))] [.inr (.inr (some b))] dM_19_22 (fun _ => rfl) (Or.inr rfl) ?_
  refine gk0 26 [(0, .inr (.inr (some b)))] [.inl 1280, .inr (.inr (some b))] dM_19_23 (fun _ => rfl) (Or.inr rfl) ?_
  refine gkNewA (nn := 1280) (k := b + 3) (Sk2 := Sk ++ [.inr (.inr (3, [some (some (b + 1)), some (some (b + 2)), some none, none, none, none, none, none, none])), .inl 326, .inl 978, .inl 1280]) dM_19_26 (by decide) rfl (by decide) (len_r hb rfl) (app_r rfl) ?_
  refine gkPutR (Sk2 := Sk ++ [.inr (.inr (3, [some (some (b + 1)), some (some (b + 2)), some (some (b + 3)), none, none, none, none, none, none])), .inl 326, .inl 978, .inl 1280]) dM_19_28 (at_r hb (j := 0) rfl rfl) rfl rfl rfl (fun _ => ⟨rfl, rfl⟩) (set_r hb (j := 0) rfl rfl) ?_
  refine gk0 32 [(0, .inr (.inr (some b)))] [.inr (.inr (some b))] dM_19_31 (fun _ => rfl) (Or.inr rfl) ?_
  refine gkGetR (some (b + 1)) dM_19_32 (at_r hb (j := 0) rfl rfl) rfl rfl ?_
  refine gk0 36 [(0, .inr (.inr (some b)))] [.inl 0, .inr (.inr (some (b + 1)))] dM_19_35 (fun _ => rfl) (Or.inr rfl) ?_
  refine gk0 38 [(0, .inr (.inr (some b)))] [.inl 42, .inl 0, .inr (.inr (some (b + 1)))] dM_19_36 (fun _ => rfl) (Or.inr rfl) ?_
  refine gkIastN 0 dM_19_38 (at_r hb (j := 1) rfl rfl) (by decide) rfl ?_
  refine gk0 40 [(0, .inr (.inr (some b)))] [.inr (.inr (some b))] dM_19_39 (fun _ => rfl) (Or.inr rfl) ?_
  refine gk0 41 [(0, .inr (.inr (some b)))] [.inl 1, .inr (.inr (some b))] dM_19_40 (fun _ => rfl) (Or.inr rfl) ?_
  refine gkPut dM_19_41 (at_r hb (j := 0) rfl rfl) rfl rfl rfl (fun q => by cases q) ?_
  refine gk0 45 [(0, .inr (.inr (some b)))] [.inr (.inr (some b))] dM_19_44 (fun _ => rfl) (Or.inr rfl) ?_
  refine gk0 46 [(0, .inr (.inr (some b)))] [.inl 0, .inr (.inr (some b))] dM_19_45 (fun _ => rfl) (Or.inr rfl) ?_
  refine gkPut dM_19_46 (at_r hb (j := 0) rfl rfl) rfl rfl rfl (fun q => by cases q) ?_
  refine gk0 50 [(0, .inr (.inr (some b)))] [.inr (.inr (some b))] dM_19_49 (fun _ => rfl) (Or.inr rfl) ?_
  refine gk0 51 [(0, .inr (.inr (some b)))] [.inl 0, .inr (.inr (some b))] dM_19_50 (fun _ => rfl) (Or.inr rfl) ?_
  refine gkPut dM_19_51 (at_r hb (j := 0) rfl rfl) rfl rfl rfl (fun q => by cases q) ?_
  refine gk0 55 [(0, .inr (.inr (some b)))] [.inr (.inr (some b))] dM_19_54 (fun _ => rfl) (Or.inr rfl) ?_
  refine gk0 56 [(0, .inr (.inr (some b)))] [.inl 1, .inr (.inr (some b))] dM_19_55 (fun _ => rfl) (Or.inr rfl) ?_
  refine gkPut dM_19_56 (at_r hb (j := 0) rfl rfl) rfl rfl rfl (fun q => by cases q) ?_
  refine gk0 60 [(0, .inr (.inr (some b)))] [.inr (.inr (some b))] dM_19_59 (fun _ => rfl) (Or.inr rfl) ?_
  refine gk0 61 [(0, .inr (.inr (some b)))] [.inl 0, .inr (.inr (some b))] dM_19_60 (fun _ => rfl) (Or.inr rfl) ?_
  refine gkPut dM_19_61 (at_r hb (j := 0) rfl rfl) rfl rfl rfl (fun q => by cases q) ?_
  refine gk0 65 [(0, .inr (.inr (some b)))] [.inr (.inr (some b))] dM_19_64 (fun _ => rfl) (Or.inr rfl) ?_
  refine gk0 66 [(0, .inr (.inr (some b)))] [.inl 0, .inr (.inr (some b))] dM_19_65 (fun _ => rfl) (Or.inr rfl) ?_
  refine gkPut dM_19_66 (at_r hb (j := 0) rfl rfl) rfl rfl rfl (fun q => by cases q) ?_
  exact gkRet (r := none) dM_19_69 (fun _ => rfl) (Or.inr rfl) h
theorem dM_4_0 : decode prog_3_method_1_code 0 = .ok (.aload_n 0, 1) := by decide +kernel
theorem dM_4_1 : decode prog_3_method_1_code 1 = .ok (.invokespecial 3, 3) := by decide +kernel
theorem dM_4_4 : decode prog_3_method_1_code 4 = .ok (.aload_n 0, 1) := by decide +kernel
theorem dM_4_5 : decode prog_3_method_1_code 5 = .ok (.aload_n 1, 1) := by decide +kernel
theorem dM_4_6 : decode prog_3_method_1_code 6 = .ok (.putfield 9, 3) := by decide +kernel
theorem dM_4_9 : decode prog_3_method_1_code 9 = .ok (.aload_n 0, 1) := by decide +kernel
theorem dM_4_10 : decode prog_3_method_1_code 10 = .ok (.sipush 196, 3) := by decide +kernel
theorem dM_4_13 : decode prog_3_method_1_code 13 = .ok (.newarray .int, 2) := by decide +kernel
theorem dM_4_15 : decode prog_3_method_1_code 15 = .ok (.putfield 15, 3) := by decide +kernel
theorem dM_4_18 : decode prog_3_method_1_code 18 = .ok (.aload_n 0, 1) := by decide +kernel
theorem dM_4_19 : decode prog_3_method_1_code 19 = .ok (.sipush 196, 3) := by decide +kernel
theorem dM_4_22 : decode prog_3_method_1_code 22 = .ok (.newarray .int, 2) := by decide +kernel
theorem dM_4_24 : decode prog_3_method_1_code 24 = .ok (.putfield 19, 3) := by decide +kernel
theorem dM_4_27 : decode prog_3_method_1_code 27 = .ok (.aload_n 0, 1) := by decide +kernel
theorem dM_4_28 : decode prog_3_method_1_code 28 = .ok (.sipush 196, 3) := by decide +kernel
theorem dM_4_31 : decode prog_3_method_1_code 31 = .ok (.newarray .int, 2) := by decide +kernel
theorem dM_4_33 : decode prog_3_method_1_code 33 = .ok (.putfield 22, 3) := by decide +kernel
theorem dM_4_36 : decode prog_3_method_1_code 36 = .ok (.aload_n 0, 1) := by decide +kernel
theorem dM_4_37 : decode prog_3_method_1_code 37 = .ok (.iconst 0, 1) := by decide +kernel
theorem dM_4_38 : decode prog_3_method_1_code 38 = .ok (.putfield 25, 3) := by decide +kernel
theorem dM_4_41 : decode prog_3_method_1_code 41 = .ok (.aload_n 0, 1) := by decide +kernel
theorem dM_4_42 : decode prog_3_method_1_code 42 = .ok (.iconst 0, 1) := by decide +kernel
theorem dM_4_43 : decode prog_3_method_1_code 43 = .ok (.putfield 29, 3) := by decide +kernel
theorem dM_4_46 : decode prog_3_method_1_code 46 = .ok (.aload_n 0, 1) := by decide +kernel
theorem dM_4_47 : decode prog_3_method_1_code 47 = .ok (.iconst 0, 1) := by decide +kernel
theorem dM_4_48 : decode prog_3_method_1_code 48 = .ok (.putfield 32, 3) := by decide +kernel
theorem dM_4_51 : decode prog_3_method_1_code 51 = .ok (.aload_n 0, 1) := by decide +kernel
theorem dM_4_52 : decode prog_3_method_1_code 52 = .ok (.iconst (-1), 1) := by decide +kernel
theorem dM_4_53 : decode prog_3_method_1_code 53 = .ok (.putfield 35, 3) := by decide +kernel
theorem dM_4_56 : decode prog_3_method_1_code 56 = .ok (.return_, 1) := by decide +kernel
/-- GoalsInAQueue$Reader -/
theorem k_4 {Sk : List rSk} {b : Nat} (hb : Sk.length = b) (sg : rSg) (r1 : Nat) {P : Option rv → List rSk → rSg → Nat → Nat → Prop} (h : P none (Sk ++ [.inr (.inr (1, [some (some r1), some (some (b + 1)), some (some (b + 2)), some (some (b + 3)), none, none, none, none])), .inl 196, .inl 196, .inl 196]) (up2 (up2 (up2 (up2 (upC (upC (upC sg (b + 1) (fun _ => 0)) (b + 2) (fun _ => 0)) (b + 3) (fun _ => 0)) b 4 0) b 5 0) b 6 0) b 7 (-1)) 3 588) : EvK 1 4 [.inr (.inr (some b)), .inr (.inr (some r1))] (Sk ++ [.inr (.inr (1, [some none, some none, some none, some none, none, none, none, none]))]) sg P := by
  refine EvK.of (ini := true) rfl ⟨rfl, Nat.le_of_ble_eq_true rfl⟩ rfl ?_
  show GoK 0 1 2 none true prog_3_method_1_code 0 [(0, .inr (.inr (some b))), (1, .inr (.inr (some r1)))] [] (Sk ++ [.inr (.inr (1, [some none, some none, some none, some none, none, none, none, none]))]) sg 0 0 P
  refine gk0 1 [(0, .inr (.inr (some b))), (1, .inr (.inr (some r1)))] [.inr (.inr (some b))] dM_4_0 (fun _ => rfl) (Or.inr rfl) ?_
  refine gk0 4 [(0, .inr (.inr (some b))), (1, .inr (.inr (some r1)))] [] dM_4_1 (fun _ => rfl) (Or.inr rfl) ?_
  refine gk0 5 [(0, .inr (.inr (some b))), (1, .inr (.inr (some r1)))] [.inr (.inr (some b))] dM_4_4 (fun _ => rfl) (Or.inr rfl) ?_
  refine gk0 6 [(0, .inr (.inr (some b))), (1, .inr (.inr (some r1)))] [.inr (.inr (some r1)), .inr (.inr (some b))] dM_4_5 (fun _ => rfl) (Or.inr rfl) ?_
  refine gkPutR (Sk2 := Sk ++ [.inr (.inr (1, [some (some r1), some none, some none, some none, none, none, none, none]))]) dM_4_6 (at_r hb (j := 0) rfl rfl) rfl rfl rfl (fun _ => ⟨rfl, rfl⟩) (set_r hb (j := 0) rfl rfl) ?_
  refine gk0 10 [(0, .inr (.inr (some b))), (1, .inr (.inr (some r1)))] [.inr (.inr (some b))] dM_4_9 (fun _ => rfl) (Or.inr rfl) ?_
  refine gk0 13 [(0, .inr (.inr (some b))), (1, .inr (.inr (some r1)))] [.inl 196, .inr (.inr (some b))] dM_4_10 (fun _ => rfl) (Or.inr rfl) ?_
  refine gkNewA (nn := 196) (k := b + 1) (Sk2 := Sk ++ [.inr (.inr (1, [some (some r1), some none, some none, some none, none, none, none, none])), .inl 196]) dM_4_13 (by decide) rfl (by decide) (len_r hb rfl) (app_r rfl) ?_
  refine gkPutR (Sk2 := Sk ++ [.inr (.inr (1, [some (some r1), some (some (b + 1)), some none, some none, none, none, none, none])), .inl 196]) dM_4_15 (at_r hb (j := 0) rfl rfl) rfl rfl rfl (fun _ => ⟨rfl, rfl⟩) (set_r hb (j := 0) rfl rfl) ?_
  refine gk0 19 [(0, .inr (.inr (some b))), (1, .inr (.inr (some r1)))] [.inr (.inr (some b))] dM_4_18 (fun _ => rfl) (Or.inr rfl) ?_
  refine gk0 22 [(0, .inr (.inr (some b))), (1, .inr (.inr (some r1)))] [.inl 196, .inr (.inr (some b))] dM_4_19 (fun _ => rfl) (Or.inr rfl) ?_
  refine gkNewA (nn := 196) (k := b + 2) (Sk2 := Sk ++ [.inr (.inr (1, [some (some r1), some (some (b + 1)), some none, some none, none, none, none, none])), .inl 196, .inl 196]) dM_4_22 (by decide) rfl (by decide) (len_r hb rfl) (app_r rfl) ?_
  refine gkPutR (Sk2 := Sk ++ [.inr (.inr (1, [some (some r1), some (some (b + 1)), some (some (b + 2)), some none, none, none, none, none])), .inl 196, .inl 196]) dM_4_24 (at_r hb (j := 0) rfl rfl) rfl rfl rfl (fun _ => ⟨rfl, rfl⟩) (set_r hb (j := 0) rfl rfl) ?_
  refine gk0 28 [(0, .inr (.inr (some b))), (1, .inr (.inr (some r1)))] [.inr (.inr (some b))] dM_4_27 (fun _ => rfl) (Or.inr rfl) ?_
  refine gk0 31 [(0, .inr (.inr (some b))), (1, .inr (.inr (some r1)))] [.inl 196, .inr (.inr (some b))] dM_4_28 (fun _ => rfl) (Or.inr rfl) ?_
  refine gkNewA (nn := 196) (k := b + 3) (Sk2 := Sk ++ [.inr (.inr (1, [some (some r1), some (some (b + 1)), some (some (b + 2)), some none, none, none, none, none])), .inl 196, .inl 196, .inl 196]) dM_4_31 (by decide) rfl (by decide) (len_r hb rfl) (app_r rfl) ?_
  refine gkPutR (Sk2 := Sk ++ [.inr (.inr (1, [some (some r1), some (some (b + 1)), some (some (b + 2)), some (some (b + 3)), none, none, none, none])), .inl 196, .inl 196, .inl 196]) dM_4_33 (at_r hb (j := 0) rfl rfl) rfl rfl rfl (fun _ => ⟨rfl, rfl⟩) (set_r hb (j := 0) rfl rfl) ?_
  refine gk0 37 [(0, .inr (.inr (some b))), (1, .inr (.inr (some r1)))] [.inr (.inr (some b))] dM_4_36 (fun _ => rfl) (Or.inr rfl) ?_
  refine gk0 38 [(0, .inr (.inr (some b))), (1, .inr (.inr (some r1)))] [.inl 0, .inr (.inr (some b))] dM_4_37 (fun _ => rfl) (Or.inr rfl) ?_
  refine gkPut dM_4_38 (at_r hb (j := 0) rfl rfl) rfl rfl rfl (fun q => by cases q) ?_
  refine gk0 42 [(0, .inr (.inr (some b))), (1, .inr (.inr (some r1)))] [.inr (.inr (some b))] dM_4_41 (fun _ => rfl) (Or.inr rfl) ?_
  refine gk0 43 [(0, .inr (.inr (some b))), (1, .inr (.inr (some r1)))] [.inl 0, .inr (.inr (some b))] dM_4_42 (fun _ => rfl) (Or.inr rfl) ?_
  refine gkPut dM_4_43 (at_r hb (j := 0) rfl rfl) rfl rfl rfl (fun q => by cases q) ?_
  refine gk0 47 [(0, .inr (.inr (some b))), (1, .inr (.inr (some r1)))] [.inr (.inr (some b))] dM_4_46 (fun _ => rfl) (Or.inr rfl) ?_
  refine gk0 48 [(0, .inr (.inr (some b))), (1, .inr (.inr (some r1)))] [.inl 0, .inr (.inr (some b))] dM_4_47 (fun _ => rfl) (Or.inr rfl) ?_
  refine gkPut dM_4_48 (at_r hb (j := 0) rfl rfl) rfl rfl rfl (fun q => by cases q) ?_
  refine gk0 52 [(0, .inr (.inr (some b))), (1, .inr (.inr (some r1)))] [.inr (.inr (some b))] dM_4_51 (fun _ => rfl) (Or.inr rfl) ?_
  refine gk0 53 [(0, .inr (.inr (some b))), (1, .inr (.inr (some r1)))] [.inl ((-1)), .inr (.inr (some b))] dM_4_52 (fun _ => rfl) (Or.inr rfl) ?_
  refine gkPut dM_4_53 (at_r hb (j := 0) rfl rfl) rfl rfl rfl (fun q => by cases q) ?_
  exact gkRet (r := none) dM_4_56 (fun _ => rfl) (Or.inr rfl) h
theorem dM_57_0 : decode prog_8_method_1_code 0 = .ok (.aload_n 0, 1) := by decide +kernel
theorem dM_57_1 : decode prog_8_method_1_code 1 = .ok (.invokespecial 3, 3) := by decide +kernel
theorem dM_57_4 : decode prog_8_method_1_code 4 = .ok (.aload_n 0, 1) := by decide +kernel
theorem dM_57_5 : decode prog_8_method_1_code 5 = .ok (.sipush 200, 3) := by decide +kernel
theorem dM_57_8 : decode prog_8_method_1_code 8 = .ok (.newarray .int, 2) := by decide +kernel
theorem dM_57_10 : decode prog_8_method_1_code 10 = .ok (.putfield 9, 3) := by decide +kernel
theorem dM_57_13 : decode prog_8_method_1_code 13 = .ok (.aload_n 0, 1) := by decide +kernel
theorem dM_57_14 : decode prog_8_method_1_code 14 = .ok (.sipush 604, 3) := by decide +kernel
theorem dM_57_17 : decode prog_8_method_1_code 17 = .ok (.newarray .int, 2) := by decide +kernel
theorem dM_57_19 : decode prog_8_method_1_code 19 = .ok (.putfield 15, 3) := by decide +kernel
theorem dM_57_22 : decode prog_8_method_1_code 22 = .ok (.aload_n 0, 1) := by decide +kernel
theorem dM_57_23 : decode prog_8_method_1_code 23 = .ok (.bipush 64, 2) := by decide +kernel
theorem dM_57_25 : decode prog_8_method_1_code 25 = .ok (.newarray .int, 2) := by decide +kernel
theorem dM_57_27 : decode prog_8_method_1_code 27 = .ok (.putfield 18, 3) := by decide +kernel
theorem dM_57_30 : decode prog_8_method_1_code 30 = .ok (.aload_n 0, 1) := by decide +kernel
theorem dM_57_31 : decode prog_8_method_1_code 31 = .ok (.iconst 0, 1) := by decide +kernel
theorem dM_57_32 : decode prog_8_method_1_code 32 = .ok (.putfield 21, 3) := by decide +kernel
theorem dM_57_35 : decode prog_8_method_1_code 35 = .ok (.aload_n 0, 1) := by decide +kernel
theorem dM_57_36 : decode prog_8_method_1_code 36 = .ok (.iconst 0, 1) := by decide +kernel
theorem dM_57_37 : decode prog_8_method_1_code 37 = .ok (.putfield 25, 3) := by decide +kernel
theorem dM_57_40 : decode prog_8_method_1_code 40 = .ok (.aload_n 0, 1) := by decide +kernel
theorem dM_57_41 : decode prog_8_method_1_code 41 = .ok (.iconst 0, 1) := by decide +kernel
theorem dM_57_42 : decode prog_8_method_1_code 42 = .ok (.putfield 28, 3) := by decide +kernel
theorem dM_57_45 : decode prog_8_method_1_code 45 = .ok (.return_, 1) := by decide +kernel
/-- GoalsInAQueue$Teller -/
theorem k_57 {Sk : List rSk} {b : Nat} (hb : Sk.length = b) (sg : rSg)  {P : Option rv → List rSk → rSg → Nat → Nat → Prop} (h : P none (Sk ++ [.inr (.inr (6, [some (some (b + 1)), some (some (b + 2)), some (some (b + 3)), none, none, none])), .inl 200, .inl 604, .inl 64]) (up2 (up2 (up2 (upC (upC (upC sg (b + 1) (fun _ => 0)) (b + 2) (fun _ => 0)) (b + 3) (fun _ => 0)) b 3 0) b 4 0) b 5 0) 3 868) : EvK 1 57 [.inr (.inr (some b))] (Sk ++ [.inr (.inr (6, [some none, some none, some none, none, none, none]))]) sg P := by
  refine EvK.of (ini := true) rfl ⟨rfl, Nat.le_of_ble_eq_true rfl⟩ rfl ?_
  show GoK 0 6 1 none true prog_8_method_1_code 0 [(0, .inr (.inr (some b)))] [] (Sk ++ [.inr (.inr (6, [some none, some none, some none, none, none, none]))]) sg 0 0 P
  refine gk0 1 [(0, .inr (.inr (some b)))] [.inr (.inr (some b))] dM_57_0 (fun _ => rfl) (Or.inr rfl) ?_
  refine gk0 4 [(0, .inr (.inr (some b)))] [] dM_57_1 (fun _ => rfl) (Or.inr rfl) ?_
  refine gk0 5 [(0, .inr (.inr (some b)))] [.inr (.inr (some b))] dM_57_4 (fun _ => rfl) (Or.inr rfl) ?_
  refine gk0 8 [(0, .inr (.inr (some b)))] [.inl 200, .inr (.inr (some b))] dM_57_5 (fun _ => rfl) (Or.inr rfl) ?_
  refine gkNewA (nn := 200) (k := b + 1) (Sk2 := Sk ++ [.inr (.inr (6, [some none, some none, some none, none, none, none])), .inl 200]) dM_57_8 (by decide) rfl (by decide) (len_r hb rfl) (app_r rfl) ?_
  refine gkPutR (Sk2 := Sk ++ [.inr (.inr (6, [some (some (b + 1)), some none, some none, none, none, none])), .inl 200]) dM_57_10 (at_r hb (j := 0) rfl rfl) rfl rfl rfl (fun _ => ⟨rfl, rfl⟩) (set_r hb (j := 0) rfl rfl) ?_
  refine gk0 14 [(0, .inr (.inr (some b)))] [.inr (.inr (some b))] dM_57_13 (fun _ => rfl) (Or.inr rfl) ?_
  refine gk0 17 [(0, .inr (.inr (some b)))] [.inl 604, .inr (.inr (some b))] dM_57_14 (fun _ => rfl) (Or.inr rfl) ?_
  refine gkNewA (nn := 604) (k := b + 2) (Sk2 := Sk ++ [.inr (.inr (6, [some (some (b + 1)), some none, some none, none, none, none])), .inl 200, .inl 604]) dM_57_17 (by decide) rfl (by decide) (len_r hb rfl) (app_r rfl) ?_
  refine gkPutR (Sk2 := Sk ++ [.inr (.inr (6, [some (some (b + 1)), some (some (b + 2)), some none, none, none, none])), .inl 200, .inl 604]) dM_57_19 (at_r hb (j := 0) rfl rfl) rfl rfl rfl (fun _ => ⟨rfl, rfl⟩) (set_r hb (j := 0) rfl rfl) ?_
  refine gk0 23 [(0, .inr (.inr (some b)))] [.inr (.inr (some b))] dM_57_22 (fun _ => rfl) (Or.inr rfl) ?_
  refine gk0 25 [(0, .inr (.inr (some b)))] [.inl 64, .inr (.inr (some b))] dM_57_23 (fun _ => rfl) (Or.inr rfl) ?_
  refine gkNewA (nn := 64) (k := b + 3) (Sk2 := Sk ++ [.inr (.inr (6, [some (some (b + 1)), some (some (b + 2)), some none, none, none, none])), .inl 200, .inl 604, .inl 64]) dM_57_25 (by decide) rfl (by decide) (len_r hb rfl) (app_r rfl) ?_
  refine gkPutR (Sk2 := Sk ++ [.inr (.inr (6, [some (some (b + 1)), some (some (b + 2)), some (some (b + 3)), none, none, none])), .inl 200, .inl 604, .inl 64]) dM_57_27 (at_r hb (j := 0) rfl rfl) rfl rfl rfl (fun _ => ⟨rfl, rfl⟩) (set_r hb (j := 0) rfl rfl) ?_
  refine gk0 31 [(0, .inr (.inr (some b)))] [.inr (.inr (some b))] dM_57_30 (fun _ => rfl) (Or.inr rfl) ?_
  refine gk0 32 [(0, .inr (.inr (some b)))] [.inl 0, .inr (.inr (some b))] dM_57_31 (fun _ => rfl) (Or.inr rfl) ?_
  refine gkPut dM_57_32 (at_r hb (j := 0) rfl rfl) rfl rfl rfl (fun q => by cases q) ?_
  refine gk0 36 [(0, .inr (.inr (some b)))] [.inr (.inr (some b))] dM_57_35 (fun _ => rfl) (Or.inr rfl) ?_
  refine gk0 37 [(0, .inr (.inr (some b)))] [.inl 0, .inr (.inr (some b))] dM_57_36 (fun _ => rfl) (Or.inr rfl) ?_
  refine gkPut dM_57_37 (at_r hb (j := 0) rfl rfl) rfl rfl rfl (fun q => by cases q) ?_
  refine gk0 41 [(0, .inr (.inr (some b)))] [.inr (.inr (some b))] dM_57_40 (fun _ => rfl) (Or.inr rfl) ?_
  refine gk0 42 [(0, .inr (.inr (some b)))] [.inl 0, .inr (.inr (some b))] dM_57_41 (fun _ => rfl) (Or.inr rfl) ?_
  refine gkPut dM_57_42 (at_r hb (j := 0) rfl rfl) rfl rfl rfl (fun q => by cases q) ?_
  exact gkRet (r := none) dM_57_45 (fun _ => rfl) (Or.inr rfl) h
theorem dM_0_0 : decode prog_2_method_1_code 0 = .ok (.aload_n 0, 1) := by decide +kernel
theorem dM_0_1 : decode prog_2_method_1_code 1 = .ok (.invokespecial 3, 3) := by decide +kernel
theorem dM_0_4 : decode prog_2_method_1_code 4 = .ok (.aload_n 0, 1) := by decide +kernel
theorem dM_0_5 : decode prog_2_method_1_code 5 = .ok (.iconst 0, 1) := by decide +kernel
theorem dM_0_6 : decode prog_2_method_1_code 6 = .ok (.putfield 9, 3) := by decide +kernel
theorem dM_0_9 : decode prog_2_method_1_code 9 = .ok (.return_, 1) := by decide +kernel
/-- GoalsInAQueue$Draws -/
theorem k_0 {Sk : List rSk} {b : Nat} (hb : Sk.length = b) (sg : rSg)  {P : Option rv → List rSk → rSg → Nat → Nat → Prop} (h : P none (Sk ++ [.inr (.inr (0, [none]))]) (up2 sg b 0 0) 0 0) : EvK 1 0 [.inr (.inr (some b))] (Sk ++ [.inr (.inr (0, [none]))]) sg P := by
  refine EvK.of (ini := true) rfl ⟨rfl, Nat.le_of_ble_eq_true rfl⟩ rfl ?_
  show GoK 0 0 1 none true prog_2_method_1_code 0 [(0, .inr (.inr (some b)))] [] (Sk ++ [.inr (.inr (0, [none]))]) sg 0 0 P
  refine gk0 1 [(0, .inr (.inr (some b)))] [.inr (.inr (some b))] dM_0_0 (fun _ => rfl) (Or.inr rfl) ?_
  refine gk0 4 [(0, .inr (.inr (some b)))] [] dM_0_1 (fun _ => rfl) (Or.inr rfl) ?_
  refine gk0 5 [(0, .inr (.inr (some b)))] [.inr (.inr (some b))] dM_0_4 (fun _ => rfl) (Or.inr rfl) ?_
  refine gk0 6 [(0, .inr (.inr (some b)))] [.inl 0, .inr (.inr (some b))] dM_0_5 (fun _ => rfl) (Or.inr rfl) ?_
  refine gkPut dM_0_6 (at_r hb (j := 0) rfl rfl) rfl rfl rfl (fun q => by cases q) ?_
  exact gkRet (r := none) dM_0_9 (fun _ => rfl) (Or.inr rfl) h
