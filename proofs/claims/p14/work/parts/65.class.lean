/-! CONSTRUCTOR of the class (by program: wip/whole/gen_class.py) -/
theorem skM_zeros {s : rSg} {m : Nat} : ∀ (n k : Nat), (∀ i, i < n → s (k + i) = fun _ => 0) → skM s k (List.replicate n (.inl m)) = rZeros n m
  | 0, k, _ => rfl
  | n + 1, k, h => by
    have h0 := h 0 (by omega)
    rw [Nat.add_zero] at h0
    rw [List.replicate_succ]
    simp only [skM, skEnt, h0]
    rw [skM_zeros n (k + 1) (fun i hi => by have := h (i + 1) (by omega); rwa [show k + (i + 1) = k + 1 + i by omega] at this)]
    rfl
theorem gkMulti {d own nL : Nat} {ret : Option FieldType} {ini : Bool} {cc : ByteArray} {pc : Nat} {L : List (Nat × rv)} {Sk : List rSk} {sg : rSg} {c z : Nat} {P : Option rv → List rSk → rSg → Nat → Nat → Prop} {i k nn mm : Nat} {n m : Int32} {r : List rv} {Sk2 : List rSk} (hd : decode cc pc = .ok (.multianewarray i 2, 4)) (hi : rG.2.2.1 own i = some (7, 0)) (h0 : ¬ n < 0) (h1 : ¬ m < 0) (hn : n.toNatClampNeg = nn) (hm : m.toNatClampNeg = mm) (h9 : nn ≤ 100000) (h8 : mm ≤ 100000) (hk : Sk.length = k) (h2 : (Sk ++ [.inr (.inl (2, nn, fun j => if j < nn then some (k + 1 + j) else none))]) ++ List.replicate nn (.inl mm) = Sk2)
    (kk : ∀ s2 : rSg, (∀ q, q < k → s2 q = sg q) → GoK d own nL ret ini cc (pc + 4) L (.inr (.inr (some k)) :: r) Sk2 s2 (c + (1 + nn)) (z + (nn + nn * mm)) P) : GoK d own nL ret ini cc pc L (.inl m :: .inl n :: r) Sk sg c z P := by
  subst h2
  subst hk
  subst hn
  subst hm
  obtain ⟨w, Sk2, s2, c2, z2, g1, g2⟩ := kk (fun q => if q < Sk.length then sg q else fun _ => 0) (fun q hq => if_pos hq)
  refine ⟨w, Sk2, s2, c2, z2, go1 hd (Or.inr rfl) (L' := L) (S' := .inr (.inr (some Sk.length)) :: r) (M' := (skM sg 0 Sk ++ [.inr (.inl (2, n.toNatClampNeg, fun j => if j < n.toNatClampNeg then some (Sk.length + 1 + j) else none))]) ++ rZeros n.toNatClampNeg m.toNatClampNeg) (pc' := pc + 4) (dc := 1 + n.toNatClampNeg) (dz := n.toNatClampNeg + n.toNatClampNeg * m.toNatClampNeg) ?_ ?_, g2⟩
  · simp only [rIns, skM_len]
    rw [if_pos ⟨hi, h0, h1, h9, h8⟩]
  · rw [skM_app, skM_app, skM_congr (sg2 := sg) 0 Sk (fun i hi => if_pos (by omega)), skM_zeros _ _ (fun i _ => if_neg (by simp; omega))] at g1
    exact g1
theorem unSk_len (b : Nat) : (unSk b).length = 5 := rfl
theorem rdSk_len (b r : Nat) : (rdSk b r).length = 4 := rfl
theorem teSk_len (b : Nat) : (teSk b).length = 4 := rfl
theorem seF_ext {s s2 : rSg} {b : Nat} (h : ∀ q, b ≤ q → q < b + 224 → s2 q = s q) (hs : seF s b) : seF s2 b := by
  unfold seF scF at *
  obtain ⟨⟨a1, a2, a3, a4, a5, a6, a7⟩, b1, b2, b3, b4, c1, c2, c3, c4, c5, c6, c7, c8, c9, c10⟩ := hs
  refine ⟨⟨?_, ?_, ?_, ?_, ?_, ?_, ?_⟩, fun i hi j hj => ?_, fun i hi j hj => ?_, fun j hj => ?_, fun j hj => ?_, ?_, ?_, ?_, ?_, ?_, ?_, ?_, ?_, ?_, ?_⟩
  all_goals rw [h _ (by omega) (by omega)]
  · exact a1
  · exact a2
  · exact a3
  · exact a4
  · exact a5
  · exact a6
  · exact a7
  · exact b1 i hi j hj
  · exact b2 i hi j hj
  · exact b3 j hj
  · exact b4 j hj
  · exact c1
  · exact c2
  · exact c3
  · exact c4
  · exact c5
  · exact c6
  · exact c7
  · exact c8
  · exact c9
  · exact c10
theorem dM_70_0 : decode prog_1_method_1_code 0 = .ok (.aload_n 0, 1) := by decide +kernel
theorem dM_70_1 : decode prog_1_method_1_code 1 = .ok (.invokespecial 3, 3) := by decide +kernel
theorem dM_70_4 : decode prog_1_method_1_code 4 = .ok (.aload_n 0, 1) := by decide +kernel
theorem dM_70_5 : decode prog_1_method_1_code 5 = .ok (.new 9, 3) := by decide +kernel
theorem dM_70_8 : decode prog_1_method_1_code 8 = .ok (.dup, 1) := by decide +kernel
theorem dM_70_9 : decode prog_1_method_1_code 9 = .ok (.invokespecial 11, 3) := by decide +kernel
theorem dM_70_12 : decode prog_1_method_1_code 12 = .ok (.putfield 12, 3) := by decide +kernel
theorem dM_70_15 : decode prog_1_method_1_code 15 = .ok (.aload_n 0, 1) := by decide +kernel
theorem dM_70_16 : decode prog_1_method_1_code 16 = .ok (.new 16, 3) := by decide +kernel
theorem dM_70_19 : decode prog_1_method_1_code 19 = .ok (.dup, 1) := by decide +kernel
theorem dM_70_20 : decode prog_1_method_1_code 20 = .ok (.aload_n 0, 1) := by decide +kernel
theorem dM_70_21 : decode prog_1_method_1_code 21 = .ok (.getfield 12, 3) := by decide +kernel
theorem dM_70_24 : decode prog_1_method_1_code 24 = .ok (.invokespecial 18, 3) := by decide +kernel
theorem dM_70_27 : decode prog_1_method_1_code 27 = .ok (.putfield 21, 3) := by decide +kernel
theorem dM_70_30 : decode prog_1_method_1_code 30 = .ok (.aload_n 0, 1) := by decide +kernel
theorem dM_70_31 : decode prog_1_method_1_code 31 = .ok (.new 16, 3) := by decide +kernel
theorem dM_70_34 : decode prog_1_method_1_code 34 = .ok (.dup, 1) := by decide +kernel
theorem dM_70_35 : decode prog_1_method_1_code 35 = .ok (.aload_n 0, 1) := by decide +kernel
theorem dM_70_36 : decode prog_1_method_1_code 36 = .ok (.getfield 12, 3) := by decide +kernel
theorem dM_70_39 : decode prog_1_method_1_code 39 = .ok (.invokespecial 18, 3) := by decide +kernel
theorem dM_70_42 : decode prog_1_method_1_code 42 = .ok (.putfield 25, 3) := by decide +kernel
theorem dM_70_45 : decode prog_1_method_1_code 45 = .ok (.aload_n 0, 1) := by decide +kernel
theorem dM_70_46 : decode prog_1_method_1_code 46 = .ok (.new 16, 3) := by decide +kernel
theorem dM_70_49 : decode prog_1_method_1_code 49 = .ok (.dup, 1) := by decide +kernel
theorem dM_70_50 : decode prog_1_method_1_code 50 = .ok (.aload_n 0, 1) := by decide +kernel
theorem dM_70_51 : decode prog_1_method_1_code 51 = .ok (.getfield 12, 3) := by decide +kernel
theorem dM_70_54 : decode prog_1_method_1_code 54 = .ok (.invokespecial 18, 3) := by decide +kernel
theorem dM_70_57 : decode prog_1_method_1_code 57 = .ok (.putfield 28, 3) := by decide +kernel
theorem dM_70_60 : decode prog_1_method_1_code 60 = .ok (.aload_n 0, 1) := by decide +kernel
theorem dM_70_61 : decode prog_1_method_1_code 61 = .ok (.new 31, 3) := by decide +kernel
theorem dM_70_64 : decode prog_1_method_1_code 64 = .ok (.dup, 1) := by decide +kernel
theorem dM_70_65 : decode prog_1_method_1_code 65 = .ok (.aload_n 0, 1) := by decide +kernel
theorem dM_70_66 : decode prog_1_method_1_code 66 = .ok (.getfield 25, 3) := by decide +kernel
theorem dM_70_69 : decode prog_1_method_1_code 69 = .ok (.getfield 33, 3) := by decide +kernel
theorem dM_70_72 : decode prog_1_method_1_code 72 = .ok (.invokespecial 37, 3) := by decide +kernel
theorem dM_70_75 : decode prog_1_method_1_code 75 = .ok (.putfield 40, 3) := by decide +kernel
theorem dM_70_78 : decode prog_1_method_1_code 78 = .ok (.aload_n 0, 1) := by decide +kernel
theorem dM_70_79 : decode prog_1_method_1_code 79 = .ok (.new 44, 3) := by decide +kernel
theorem dM_70_82 : decode prog_1_method_1_code 82 = .ok (.dup, 1) := by decide +kernel
theorem dM_70_83 : decode prog_1_method_1_code 83 = .ok (.invokespecial 46, 3) := by decide +kernel
theorem dM_70_86 : decode prog_1_method_1_code 86 = .ok (.putfield 47, 3) := by decide +kernel
theorem dM_70_89 : decode prog_1_method_1_code 89 = .ok (.aload_n 0, 1) := by decide +kernel
theorem dM_70_90 : decode prog_1_method_1_code 90 = .ok (.new 51, 3) := by decide +kernel
theorem dM_70_93 : decode prog_1_method_1_code 93 = .ok (.dup, 1) := by decide +kernel
theorem dM_70_94 : decode prog_1_method_1_code 94 = .ok (.invokespecial 53, 3) := by decide +kernel
theorem dM_70_97 : decode prog_1_method_1_code 97 = .ok (.putfield 54, 3) := by decide +kernel
theorem dM_70_100 : decode prog_1_method_1_code 100 = .ok (.aload_n 0, 1) := by decide +kernel
theorem dM_70_101 : decode prog_1_method_1_code 101 = .ok (.new 58, 3) := by decide +kernel
theorem dM_70_104 : decode prog_1_method_1_code 104 = .ok (.dup, 1) := by decide +kernel
theorem dM_70_105 : decode prog_1_method_1_code 105 = .ok (.bipush 96, 2) := by decide +kernel
theorem dM_70_107 : decode prog_1_method_1_code 107 = .ok (.invokespecial 60, 3) := by decide +kernel
theorem dM_70_110 : decode prog_1_method_1_code 110 = .ok (.putfield 63, 3) := by decide +kernel
theorem dM_70_113 : decode prog_1_method_1_code 113 = .ok (.aload_n 0, 1) := by decide +kernel
theorem dM_70_114 : decode prog_1_method_1_code 114 = .ok (.new 58, 3) := by decide +kernel
theorem dM_70_117 : decode prog_1_method_1_code 117 = .ok (.dup, 1) := by decide +kernel
theorem dM_70_118 : decode prog_1_method_1_code 118 = .ok (.bipush 32, 2) := by decide +kernel
theorem dM_70_120 : decode prog_1_method_1_code 120 = .ok (.invokespecial 60, 3) := by decide +kernel
theorem dM_70_123 : decode prog_1_method_1_code 123 = .ok (.putfield 67, 3) := by decide +kernel
theorem dM_70_126 : decode prog_1_method_1_code 126 = .ok (.aload_n 0, 1) := by decide +kernel
theorem dM_70_127 : decode prog_1_method_1_code 127 = .ok (.bipush 7, 2) := by decide +kernel
theorem dM_70_129 : decode prog_1_method_1_code 129 = .ok (.newarray .int, 2) := by decide +kernel
theorem dM_70_131 : decode prog_1_method_1_code 131 = .ok (.putfield 70, 3) := by decide +kernel
theorem dM_70_134 : decode prog_1_method_1_code 134 = .ok (.aload_n 0, 1) := by decide +kernel
theorem dM_70_135 : decode prog_1_method_1_code 135 = .ok (.sipush 128, 3) := by decide +kernel
theorem dM_70_138 : decode prog_1_method_1_code 138 = .ok (.newarray .int, 2) := by decide +kernel
theorem dM_70_140 : decode prog_1_method_1_code 140 = .ok (.putfield 74, 3) := by decide +kernel
theorem dM_70_143 : decode prog_1_method_1_code 143 = .ok (.aload_n 0, 1) := by decide +kernel
theorem dM_70_144 : decode prog_1_method_1_code 144 = .ok (.bipush 30, 2) := by decide +kernel
theorem dM_70_146 : decode prog_1_method_1_code 146 = .ok (.sipush 200, 3) := by decide +kernel
theorem dM_70_149 : decode prog_1_method_1_code 149 = .ok (.multianewarray 77 2, 4) := by decide +kernel
theorem dM_70_153 : decode prog_1_method_1_code 153 = .ok (.putfield 79, 3) := by decide +kernel
theorem dM_70_156 : decode prog_1_method_1_code 156 = .ok (.aload_n 0, 1) := by decide +kernel
theorem dM_70_157 : decode prog_1_method_1_code 157 = .ok (.bipush 30, 2) := by decide +kernel
theorem dM_70_159 : decode prog_1_method_1_code 159 = .ok (.newarray .int, 2) := by decide +kernel
theorem dM_70_161 : decode prog_1_method_1_code 161 = .ok (.putfield 82, 3) := by decide +kernel
theorem dM_70_164 : decode prog_1_method_1_code 164 = .ok (.aload_n 0, 1) := by decide +kernel
theorem dM_70_165 : decode prog_1_method_1_code 165 = .ok (.iconst 0, 1) := by decide +kernel
theorem dM_70_166 : decode prog_1_method_1_code 166 = .ok (.putfield 85, 3) := by decide +kernel
theorem dM_70_169 : decode prog_1_method_1_code 169 = .ok (.return_, 1) := by decide +kernel
def clR : List rSk := (((((((((((((([] : List rSk) ++ unSk 1) ++ seSk 6) ++ seSk 230) ++ seSk 454) ++ rdSk 678 231) ++ teSk 682) ++ [.inr (.inr (0, [none]))]) ++ [.inr (.inr (2, [some (some 688), none])), .inl 96]) ++ [.inr (.inr (2, [some (some 690), none])), .inl 32]) ++ [.inl 7]) ++ [.inl 128]) ++ ([.inr (.inl (2, 30, fun j => if j < 30 then some (693 + 1 + j) else none))] ++ List.replicate 30 (.inl 200))) ++ [.inl 30])
def clSk : List rSk := (.inr (.inr (8, [some (some 6), some (some 230), some (some 454), some (some 1), some (some 678), some (some 682), some (some 686), some (some 687), some (some 689), some (some 691), some (some 692), some (some 693), some (some 724), none])) : rSk) :: clR
/-- a new object -/
def clF (s : rSg) : Prop := seF s 6 ∧ seF s 230 ∧ seF s 454 ∧ s 1 4 = 0 ∧ (∀ j, s 5 j = 0) ∧ s 687 1 = 0 ∧ s 689 1 = 0 ∧ (∀ j, s 691 j = 0) ∧ s 0 13 = 0
theorem k_70 (sg : rSg) : EvK 5 70 [.inr (.inr (some 0))] [(.inr (.inr (8, [some none, some none, some none, some none, some none, some none, some none, some none, some none, some none, some none, some none, some none, none])) : rSk)] sg (fun v Sk2 s2 c z => v = none ∧ Sk2 = clSk ∧ c = 724 ∧ z = 40043 ∧ clF s2) := by
  refine EvK.of (ini := true) rfl ⟨rfl, Nat.le_of_ble_eq_true rfl⟩ rfl ?_
  show GoK 4 8 1 none true prog_1_method_1_code 0 [(0, .inr (.inr (some 0)))] [] [(.inr (.inr (8, [some none, some none, some none, some none, some none, some none, some none, some none, some none, some none, some none, some none, some none, none])) : rSk)] sg 0 0 _
  refine gk0 1 [(0, .inr (.inr (some 0)))] [.inr (.inr (some 0))] dM_70_0 (fun _ => rfl) (Or.inr rfl) ?_
  refine gk0 4 [(0, .inr (.inr (some 0)))] [] dM_70_1 (fun _ => rfl) (Or.inr rfl) ?_
  have hl0 : ((.inr (.inr (8, [some none, some none, some none, some none, some none, some none, some none, some none, some none, some none, some none, some none, some none, none])) : rSk) :: ([] : List rSk)).length = 1 := by simp [seSk_len, unSk_len, rdSk_len, teSk_len]
  refine gk0 5 [(0, .inr (.inr (some 0)))] [.inr (.inr (some 0))] dM_70_4 (fun _ => rfl) (Or.inr rfl) ?_
  refine gkNew (sh := [some none, some none, some none, some none, none, none, none]) (k := 1) (Sk2 := ((.inr (.inr (8, [some none, some none, some none, some none, some none, some none, some none, some none, some none, some none, some none, some none, some none, none])) : rSk) :: ([] : List rSk)) ++ [.inr (.inr (7, [some none, some none, some none, some none, none, none, none]))]) dM_70_5 rfl rfl hl0 rfl ?_
  refine gk0 9 [(0, .inr (.inr (some 0)))] [.inr (.inr (some 1)), .inr (.inr (some 1)), .inr (.inr (some 0))] dM_70_8 (fun _ => rfl) (Or.inr rfl) ?_
  refine gkCallI dM_70_9 rfl rfl rfl (by decide) (at_r hl0 (j := 0) rfl rfl) rfl (Nat.le_of_ble_eq_true rfl) ((k_un hl0 _).up (by decide)) ?_
  rintro _ _ s0 _ _ ⟨rfl, rfl, rfl, rfl, e0, a1, a2, a3, a4⟩
  refine gkPutR (k := 0) (Sk2 := (.inr (.inr (8, [some none, some none, some none, some (some 1), some none, some none, some none, some none, some none, some none, some none, some none, some none, none])) : rSk) :: (([] : List rSk) ++ unSk 1)) dM_70_12 rfl rfl rfl rfl (fun _ => ⟨rfl, rfl⟩) ?_ ?_
  · rw [List.cons_append, List.set_cons_zero]
    rfl
  have hl1 : ((.inr (.inr (8, [some none, some none, some none, some (some 1), some none, some none, some none, some none, some none, some none, some none, some none, some none, none])) : rSk) :: (([] : List rSk) ++ unSk 1)).length = 6 := by simp [seSk_len, unSk_len, rdSk_len, teSk_len]
  refine gk0 16 [(0, .inr (.inr (some 0)))] [.inr (.inr (some 0))] dM_70_15 (fun _ => rfl) (Or.inr rfl) ?_
  refine gkNew (sh := [some none, some none, some none, some none, some none, some none, some none, none, none, none, none, none, none]) (k := 6) (Sk2 := ((.inr (.inr (8, [some none, some none, some none, some (some 1), some none, some none, some none, some none, some none, some none, some none, some none, some none, none])) : rSk) :: (([] : List rSk) ++ unSk 1)) ++ [.inr (.inr (4, [some none, some none, some none, some none, some none, some none, some none, none, none, none, none, none, none]))]) dM_70_16 rfl rfl hl1 rfl ?_
  refine gk0 20 [(0, .inr (.inr (some 0)))] [.inr (.inr (some 6)), .inr (.inr (some 6)), .inr (.inr (some 0))] dM_70_19 (fun _ => rfl) (Or.inr rfl) ?_
  refine gk0 21 [(0, .inr (.inr (some 0)))] [.inr (.inr (some 0)), .inr (.inr (some 6)), .inr (.inr (some 6)), .inr (.inr (some 0))] dM_70_20 (fun _ => rfl) (Or.inr rfl) ?_
  refine gkGetR (some 1) dM_70_21 (k := 0) rfl rfl rfl ?_
  refine gkCallI dM_70_24 rfl rfl rfl (by decide) (at_r hl1 (j := 0) rfl rfl) rfl (Nat.le_of_ble_eq_true rfl) (k_32 hl1 (by decide) _) ?_
  rintro _ _ s1 _ _ ⟨rfl, rfl, rfl, rfl, e1, c1⟩
  refine gkPutR (k := 0) (Sk2 := (.inr (.inr (8, [some (some 6), some none, some none, some (some 1), some none, some none, some none, some none, some none, some none, some none, some none, some none, none])) : rSk) :: ((([] : List rSk) ++ unSk 1) ++ seSk 6)) dM_70_27 rfl rfl rfl rfl (fun _ => ⟨rfl, rfl⟩) ?_ ?_
  · rw [List.cons_append, List.set_cons_zero]
    rfl
  have hl2 : ((.inr (.inr (8, [some (some 6), some none, some none, some (some 1), some none, some none, some none, some none, some none, some none, some none, some none, some none, none])) : rSk) :: ((([] : List rSk) ++ unSk 1) ++ seSk 6)).length = 230 := by simp [seSk_len, unSk_len, rdSk_len, teSk_len]
  refine gk0 31 [(0, .inr (.inr (some 0)))] [.inr (.inr (some 0))] dM_70_30 (fun _ => rfl) (Or.inr rfl) ?_
  refine gkNew (sh := [some none, some none, some none, some none, some none, some none, some none, none, none, none, none, none, none]) (k := 230) (Sk2 := ((.inr (.inr (8, [some (some 6), some none, some none, some (some 1), some none, some none, some none, some none, some none, some none, some none, some none, some none, none])) : rSk) :: ((([] : List rSk) ++ unSk 1) ++ seSk 6)) ++ [.inr (.inr (4, [some none, some none, some none, some none, some none, some none, some none, none, none, none, none, none, none]))]) dM_70_31 rfl rfl hl2 rfl ?_
  refine gk0 35 [(0, .inr (.inr (some 0)))] [.inr (.inr (some 230)), .inr (.inr (some 230)), .inr (.inr (some 0))] dM_70_34 (fun _ => rfl) (Or.inr rfl) ?_
  refine gk0 36 [(0, .inr (.inr (some 0)))] [.inr (.inr (some 0)), .inr (.inr (some 230)), .inr (.inr (some 230)), .inr (.inr (some 0))] dM_70_35 (fun _ => rfl) (Or.inr rfl) ?_
  refine gkGetR (some 1) dM_70_36 (k := 0) rfl rfl rfl ?_
  refine gkCallI dM_70_39 rfl rfl rfl (by decide) (at_r hl2 (j := 0) rfl rfl) rfl (Nat.le_of_ble_eq_true rfl) (k_32 hl2 (by decide) _) ?_
  rintro _ _ s2 _ _ ⟨rfl, rfl, rfl, rfl, e2, c2⟩
  refine gkPutR (k := 0) (Sk2 := (.inr (.inr (8, [some (some 6), some (some 230), some none, some (some 1), some none, some none, some none, some none, some none, some none, some none, some none, some none, none])) : rSk) :: (((([] : List rSk) ++ unSk 1) ++ seSk 6) ++ seSk 230)) dM_70_42 rfl rfl rfl rfl (fun _ => ⟨rfl, rfl⟩) ?_ ?_
  · rw [List.cons_append, List.set_cons_zero]
    rfl
  have hl3 : ((.inr (.inr (8, [some (some 6), some (some 230), some none, some (some 1), some none, some none, some none, some none, some none, some none, some none, some none, some none, none])) : rSk) :: (((([] : List rSk) ++ unSk 1) ++ seSk 6) ++ seSk 230)).length = 454 := by simp [seSk_len, unSk_len, rdSk_len, teSk_len]
  refine gk0 46 [(0, .inr (.inr (some 0)))] [.inr (.inr (some 0))] dM_70_45 (fun _ => rfl) (Or.inr rfl) ?_
  refine gkNew (sh := [some none, some none, some none, some none, some none, some none, some none, none, none, none, none, none, none]) (k := 454) (Sk2 := ((.inr (.inr (8, [some (some 6), some (some 230), some none, some (some 1), some none, some none, some none, some none, some none, some none, some none, some none, some none, none])) : rSk) :: (((([] : List rSk) ++ unSk 1) ++ seSk 6) ++ seSk 230)) ++ [.inr (.inr (4, [some none, some none, some none, some none, some none, some none, some none, none, none, none, none, none, none]))]) dM_70_46 rfl rfl hl3 rfl ?_
  refine gk0 50 [(0, .inr (.inr (some 0)))] [.inr (.inr (some 454)), .inr (.inr (some 454)), .inr (.inr (some 0))] dM_70_49 (fun _ => rfl) (Or.inr rfl) ?_
  refine gk0 51 [(0, .inr (.inr (some 0)))] [.inr (.inr (some 0)), .inr (.inr (some 454)), .inr (.inr (some 454)), .inr (.inr (some 0))] dM_70_50 (fun _ => rfl) (Or.inr rfl) ?_
  refine gkGetR (some 1) dM_70_51 (k := 0) rfl rfl rfl ?_
  refine gkCallI dM_70_54 rfl rfl rfl (by decide) (at_r hl3 (j := 0) rfl rfl) rfl (Nat.le_of_ble_eq_true rfl) (k_32 hl3 (by decide) _) ?_
  rintro _ _ s3 _ _ ⟨rfl, rfl, rfl, rfl, e3, c3⟩
  refine gkPutR (k := 0) (Sk2 := (.inr (.inr (8, [some (some 6), some (some 230), some (some 454), some (some 1), some none, some none, some none, some none, some none, some none, some none, some none, some none, none])) : rSk) :: ((((([] : List rSk) ++ unSk 1) ++ seSk 6) ++ seSk 230) ++ seSk 454)) dM_70_57 rfl rfl rfl rfl (fun _ => ⟨rfl, rfl⟩) ?_ ?_
  · rw [List.cons_append, List.set_cons_zero]
    rfl
  have hl4 : ((.inr (.inr (8, [some (some 6), some (some 230), some (some 454), some (some 1), some none, some none, some none, some none, some none, some none, some none, some none, some none, none])) : rSk) :: ((((([] : List rSk) ++ unSk 1) ++ seSk 6) ++ seSk 230) ++ seSk 454)).length = 678 := by simp [seSk_len, unSk_len, rdSk_len, teSk_len]
  refine gk0 61 [(0, .inr (.inr (some 0)))] [.inr (.inr (some 0))] dM_70_60 (fun _ => rfl) (Or.inr rfl) ?_
  refine gkNew (sh := [some none, some none, some none, some none, none, none, none, none]) (k := 678) (Sk2 := ((.inr (.inr (8, [some (some 6), some (some 230), some (some 454), some (some 1), some none, some none, some none, some none, some none, some none, some none, some none, some none, none])) : rSk) :: ((((([] : List rSk) ++ unSk 1) ++ seSk 6) ++ seSk 230) ++ seSk 454)) ++ [.inr (.inr (1, [some none, some none, some none, some none, none, none, none, none]))]) dM_70_61 rfl rfl hl4 rfl ?_
  refine gk0 65 [(0, .inr (.inr (some 0)))] [.inr (.inr (some 678)), .inr (.inr (some 678)), .inr (.inr (some 0))] dM_70_64 (fun _ => rfl) (Or.inr rfl) ?_
  refine gk0 66 [(0, .inr (.inr (some 0)))] [.inr (.inr (some 0)), .inr (.inr (some 678)), .inr (.inr (some 678)), .inr (.inr (some 0))] dM_70_65 (fun _ => rfl) (Or.inr rfl) ?_
  refine gkGetR (some 230) dM_70_66 (k := 0) rfl rfl rfl ?_
  have hm : ((.inr (.inr (8, [some (some 6), some (some 230), some (some 454), some (some 1), some none, some none, some none, some none, some none, some none, some none, some none, some none, none])) : rSk) :: ((((([] : List rSk) ++ unSk 1) ++ seSk 6) ++ seSk 230) ++ seSk 454))[230]? = some (.inr (.inr (4, [some (some (230 + 1)), some (some 1), some (some (230 + 5)), some (some (230 + 126)), some (some (230 + 217)), some (some (230 + 218)), some (some (230 + 221)), none, none, none, none, none, none]))) := at_cons (at_l (at_r (show (((([] : List rSk) ++ unSk 1) ++ seSk 6)).length = 229 by simp [seSk_len, unSk_len, rdSk_len, teSk_len]) (j := 0) rfl rfl))
  refine gkGetR (some 231) dM_70_69 (k := 230) (at_l hm) rfl rfl ?_
  refine gkCallI dM_70_72 rfl rfl rfl (by decide) (at_r hl4 (j := 0) rfl rfl) rfl (Nat.le_of_ble_eq_true rfl) ((k_rd hl4 _ 231).up (by decide)) ?_
  rintro _ _ s4 _ _ ⟨rfl, rfl, rfl, rfl, e4⟩
  refine gkPutR (k := 0) (Sk2 := (.inr (.inr (8, [some (some 6), some (some 230), some (some 454), some (some 1), some (some 678), some none, some none, some none, some none, some none, some none, some none, some none, none])) : rSk) :: (((((([] : List rSk) ++ unSk 1) ++ seSk 6) ++ seSk 230) ++ seSk 454) ++ rdSk 678 231)) dM_70_75 rfl rfl rfl rfl (fun _ => ⟨rfl, rfl⟩) ?_ ?_
  · rw [List.cons_append, List.set_cons_zero]
    rfl
  have hl5 : ((.inr (.inr (8, [some (some 6), some (some 230), some (some 454), some (some 1), some (some 678), some none, some none, some none, some none, some none, some none, some none, some none, none])) : rSk) :: (((((([] : List rSk) ++ unSk 1) ++ seSk 6) ++ seSk 230) ++ seSk 454) ++ rdSk 678 231)).length = 682 := by simp [seSk_len, unSk_len, rdSk_len, teSk_len]
  refine gk0 79 [(0, .inr (.inr (some 0)))] [.inr (.inr (some 0))] dM_70_78 (fun _ => rfl) (Or.inr rfl) ?_
  refine gkNew (sh := [some none, some none, some none, none, none, none]) (k := 682) (Sk2 := ((.inr (.inr (8, [some (some 6), some (some 230), some (some 454), some (some 1), some (some 678), some none, some none, some none, some none, some none, some none, some none, some none, none])) : rSk) :: (((((([] : List rSk) ++ unSk 1) ++ seSk 6) ++ seSk 230) ++ seSk 454) ++ rdSk 678 231)) ++ [.inr (.inr (6, [some none, some none, some none, none, none, none]))]) dM_70_79 rfl rfl hl5 rfl ?_
  refine gk0 83 [(0, .inr (.inr (some 0)))] [.inr (.inr (some 682)), .inr (.inr (some 682)), .inr (.inr (some 0))] dM_70_82 (fun _ => rfl) (Or.inr rfl) ?_
  refine gkCallI dM_70_83 rfl rfl rfl (by decide) (at_r hl5 (j := 0) rfl rfl) rfl (Nat.le_of_ble_eq_true rfl) ((k_te hl5 _).up (by decide)) ?_
  rintro _ _ s5 _ _ ⟨rfl, rfl, rfl, rfl, e5⟩
  refine gkPutR (k := 0) (Sk2 := (.inr (.inr (8, [some (some 6), some (some 230), some (some 454), some (some 1), some (some 678), some (some 682), some none, some none, some none, some none, some none, some none, some none, none])) : rSk) :: ((((((([] : List rSk) ++ unSk 1) ++ seSk 6) ++ seSk 230) ++ seSk 454) ++ rdSk 678 231) ++ teSk 682)) dM_70_86 rfl rfl rfl rfl (fun _ => ⟨rfl, rfl⟩) ?_ ?_
  · rw [List.cons_append, List.set_cons_zero]
    rfl
  have hl6 : ((.inr (.inr (8, [some (some 6), some (some 230), some (some 454), some (some 1), some (some 678), some (some 682), some none, some none, some none, some none, some none, some none, some none, none])) : rSk) :: ((((((([] : List rSk) ++ unSk 1) ++ seSk 6) ++ seSk 230) ++ seSk 454) ++ rdSk 678 231) ++ teSk 682)).length = 686 := by simp [seSk_len, unSk_len, rdSk_len, teSk_len]
  refine gk0 90 [(0, .inr (.inr (some 0)))] [.inr (.inr (some 0))] dM_70_89 (fun _ => rfl) (Or.inr rfl) ?_
  refine gkNew (sh := [none]) (k := 686) (Sk2 := ((.inr (.inr (8, [some (some 6), some (some 230), some (some 454), some (some 1), some (some 678), some (some 682), some none, some none, some none, some none, some none, some none, some none, none])) : rSk) :: ((((((([] : List rSk) ++ unSk 1) ++ seSk 6) ++ seSk 230) ++ seSk 454) ++ rdSk 678 231) ++ teSk 682)) ++ [.inr (.inr (0, [none]))]) dM_70_90 rfl rfl hl6 rfl ?_
  refine gk0 94 [(0, .inr (.inr (some 0)))] [.inr (.inr (some 686)), .inr (.inr (some 686)), .inr (.inr (some 0))] dM_70_93 (fun _ => rfl) (Or.inr rfl) ?_
  refine gkCallI dM_70_94 rfl rfl rfl (by decide) (at_r hl6 (j := 0) rfl rfl) rfl (Nat.le_of_ble_eq_true rfl) (((k_0 (P := fun v Sk2 s2 c z => v = none ∧ Sk2 = _ ∧ c = 0 ∧ z = 0 ∧ ∀ q, q < 686 → s2 q = upC s5 686 (fun _ => 0) q) hl6 _ ⟨rfl, rfl, rfl, rfl, fun q hq => by rw [up2_nk _ _ _ (by omega)]⟩)).up (by decide)) ?_
  rintro _ _ s6 _ _ ⟨rfl, rfl, rfl, rfl, e6⟩
  refine gkPutR (k := 0) (Sk2 := (.inr (.inr (8, [some (some 6), some (some 230), some (some 454), some (some 1), some (some 678), some (some 682), some (some 686), some none, some none, some none, some none, some none, some none, none])) : rSk) :: (((((((([] : List rSk) ++ unSk 1) ++ seSk 6) ++ seSk 230) ++ seSk 454) ++ rdSk 678 231) ++ teSk 682) ++ [.inr (.inr (0, [none]))])) dM_70_97 rfl rfl rfl rfl (fun _ => ⟨rfl, rfl⟩) ?_ ?_
  · rw [List.cons_append, List.set_cons_zero]
    rfl
  have hl7 : ((.inr (.inr (8, [some (some 6), some (some 230), some (some 454), some (some 1), some (some 678), some (some 682), some (some 686), some none, some none, some none, some none, some none, some none, none])) : rSk) :: (((((((([] : List rSk) ++ unSk 1) ++ seSk 6) ++ seSk 230) ++ seSk 454) ++ rdSk 678 231) ++ teSk 682) ++ [.inr (.inr (0, [none]))])).length = 687 := by simp [seSk_len, unSk_len, rdSk_len, teSk_len]
  refine gk0 101 [(0, .inr (.inr (some 0)))] [.inr (.inr (some 0))] dM_70_100 (fun _ => rfl) (Or.inr rfl) ?_
  refine gkNew (sh := [some none, none]) (k := 687) (Sk2 := ((.inr (.inr (8, [some (some 6), some (some 230), some (some 454), some (some 1), some (some 678), some (some 682), some (some 686), some none, some none, some none, some none, some none, some none, none])) : rSk) :: (((((((([] : List rSk) ++ unSk 1) ++ seSk 6) ++ seSk 230) ++ seSk 454) ++ rdSk 678 231) ++ teSk 682) ++ [.inr (.inr (0, [none]))])) ++ [.inr (.inr (2, [some none, none]))]) dM_70_101 rfl rfl hl7 rfl ?_
  refine gk0 105 [(0, .inr (.inr (some 0)))] [.inr (.inr (some 687)), .inr (.inr (some 687)), .inr (.inr (some 0))] dM_70_104 (fun _ => rfl) (Or.inr rfl) ?_
  refine gk0 107 [(0, .inr (.inr (some 0)))] [.inl 96, .inr (.inr (some 687)), .inr (.inr (some 687)), .inr (.inr (some 0))] dM_70_105 (fun _ => rfl) (Or.inr rfl) ?_
  refine gkCallI dM_70_107 rfl rfl rfl (by decide) (at_r hl7 (j := 0) rfl rfl) rfl (Nat.le_of_ble_eq_true rfl) ((k_row96 hl7 _).up (by decide)) ?_
  rintro _ _ s7 _ _ ⟨rfl, rfl, rfl, rfl, e7, r1⟩
  refine gkPutR (k := 0) (Sk2 := (.inr (.inr (8, [some (some 6), some (some 230), some (some 454), some (some 1), some (some 678), some (some 682), some (some 686), some (some 687), some none, some none, some none, some none, some none, none])) : rSk) :: ((((((((([] : List rSk) ++ unSk 1) ++ seSk 6) ++ seSk 230) ++ seSk 454) ++ rdSk 678 231) ++ teSk 682) ++ [.inr (.inr (0, [none]))]) ++ [.inr (.inr (2, [some (some 688), none])), .inl 96])) dM_70_110 rfl rfl rfl rfl (fun _ => ⟨rfl, rfl⟩) ?_ ?_
  · rw [List.cons_append, List.set_cons_zero]
    rfl
  have hl8 : ((.inr (.inr (8, [some (some 6), some (some 230), some (some 454), some (some 1), some (some 678), some (some 682), some (some 686), some (some 687), some none, some none, some none, some none, some none, none])) : rSk) :: ((((((((([] : List rSk) ++ unSk 1) ++ seSk 6) ++ seSk 230) ++ seSk 454) ++ rdSk 678 231) ++ teSk 682) ++ [.inr (.inr (0, [none]))]) ++ [.inr (.inr (2, [some (some 688), none])), .inl 96])).length = 689 := by simp [seSk_len, unSk_len, rdSk_len, teSk_len]
  refine gk0 114 [(0, .inr (.inr (some 0)))] [.inr (.inr (some 0))] dM_70_113 (fun _ => rfl) (Or.inr rfl) ?_
  refine gkNew (sh := [some none, none]) (k := 689) (Sk2 := ((.inr (.inr (8, [some (some 6), some (some 230), some (some 454), some (some 1), some (some 678), some (some 682), some (some 686), some (some 687), some none, some none, some none, some none, some none, none])) : rSk) :: ((((((((([] : List rSk) ++ unSk 1) ++ seSk 6) ++ seSk 230) ++ seSk 454) ++ rdSk 678 231) ++ teSk 682) ++ [.inr (.inr (0, [none]))]) ++ [.inr (.inr (2, [some (some 688), none])), .inl 96])) ++ [.inr (.inr (2, [some none, none]))]) dM_70_114 rfl rfl hl8 rfl ?_
  refine gk0 118 [(0, .inr (.inr (some 0)))] [.inr (.inr (some 689)), .inr (.inr (some 689)), .inr (.inr (some 0))] dM_70_117 (fun _ => rfl) (Or.inr rfl) ?_
  refine gk0 120 [(0, .inr (.inr (some 0)))] [.inl 32, .inr (.inr (some 689)), .inr (.inr (some 689)), .inr (.inr (some 0))] dM_70_118 (fun _ => rfl) (Or.inr rfl) ?_
  refine gkCallI dM_70_120 rfl rfl rfl (by decide) (at_r hl8 (j := 0) rfl rfl) rfl (Nat.le_of_ble_eq_true rfl) ((k_row32 hl8 _).up (by decide)) ?_
  rintro _ _ s8 _ _ ⟨rfl, rfl, rfl, rfl, e8, r2⟩
  refine gkPutR (k := 0) (Sk2 := (.inr (.inr (8, [some (some 6), some (some 230), some (some 454), some (some 1), some (some 678), some (some 682), some (some 686), some (some 687), some (some 689), some none, some none, some none, some none, none])) : rSk) :: (((((((((([] : List rSk) ++ unSk 1) ++ seSk 6) ++ seSk 230) ++ seSk 454) ++ rdSk 678 231) ++ teSk 682) ++ [.inr (.inr (0, [none]))]) ++ [.inr (.inr (2, [some (some 688), none])), .inl 96]) ++ [.inr (.inr (2, [some (some 690), none])), .inl 32])) dM_70_123 rfl rfl rfl rfl (fun _ => ⟨rfl, rfl⟩) ?_ ?_
  · rw [List.cons_append, List.set_cons_zero]
    rfl
  have hl9 : ((.inr (.inr (8, [some (some 6), some (some 230), some (some 454), some (some 1), some (some 678), some (some 682), some (some 686), some (some 687), some (some 689), some none, some none, some none, some none, none])) : rSk) :: (((((((((([] : List rSk) ++ unSk 1) ++ seSk 6) ++ seSk 230) ++ seSk 454) ++ rdSk 678 231) ++ teSk 682) ++ [.inr (.inr (0, [none]))]) ++ [.inr (.inr (2, [some (some 688), none])), .inl 96]) ++ [.inr (.inr (2, [some (some 690), none])), .inl 32])).length = 691 := by simp [seSk_len, unSk_len, rdSk_len, teSk_len]
  refine gk0 127 [(0, .inr (.inr (some 0)))] [.inr (.inr (some 0))] dM_70_126 (fun _ => rfl) (Or.inr rfl) ?_
  refine gk0 129 [(0, .inr (.inr (some 0)))] [.inl 7, .inr (.inr (some 0))] dM_70_127 (fun _ => rfl) (Or.inr rfl) ?_
  refine gkNewA (nn := 7) (k := 691) (Sk2 := (.inr (.inr (8, [some (some 6), some (some 230), some (some 454), some (some 1), some (some 678), some (some 682), some (some 686), some (some 687), some (some 689), some none, some none, some none, some none, none])) : rSk) :: ((((((((((([] : List rSk) ++ unSk 1) ++ seSk 6) ++ seSk 230) ++ seSk 454) ++ rdSk 678 231) ++ teSk 682) ++ [.inr (.inr (0, [none]))]) ++ [.inr (.inr (2, [some (some 688), none])), .inl 96]) ++ [.inr (.inr (2, [some (some 690), none])), .inl 32]) ++ [.inl 7])) dM_70_129 (by decide) rfl (by decide) hl9 rfl ?_
  refine gkPutR (k := 0) (Sk2 := (.inr (.inr (8, [some (some 6), some (some 230), some (some 454), some (some 1), some (some 678), some (some 682), some (some 686), some (some 687), some (some 689), some (some 691), some none, some none, some none, none])) : rSk) :: ((((((((((([] : List rSk) ++ unSk 1) ++ seSk 6) ++ seSk 230) ++ seSk 454) ++ rdSk 678 231) ++ teSk 682) ++ [.inr (.inr (0, [none]))]) ++ [.inr (.inr (2, [some (some 688), none])), .inl 96]) ++ [.inr (.inr (2, [some (some 690), none])), .inl 32]) ++ [.inl 7])) dM_70_131 rfl rfl rfl rfl (fun _ => ⟨rfl, rfl⟩) rfl ?_
  have hl10 : ((.inr (.inr (8, [some (some 6), some (some 230), some (some 454), some (some 1), some (some 678), some (some 682), some (some 686), some (some 687), some (some 689), some (some 691), some none, some none, some none, none])) : rSk) :: ((((((((((([] : List rSk) ++ unSk 1) ++ seSk 6) ++ seSk 230) ++ seSk 454) ++ rdSk 678 231) ++ teSk 682) ++ [.inr (.inr (0, [none]))]) ++ [.inr (.inr (2, [some (some 688), none])), .inl 96]) ++ [.inr (.inr (2, [some (some 690), none])), .inl 32]) ++ [.inl 7])).length = 692 := by simp [seSk_len, unSk_len, rdSk_len, teSk_len]
  refine gk0 135 [(0, .inr (.inr (some 0)))] [.inr (.inr (some 0))] dM_70_134 (fun _ => rfl) (Or.inr rfl) ?_
  refine gk0 138 [(0, .inr (.inr (some 0)))] [.inl 128, .inr (.inr (some 0))] dM_70_135 (fun _ => rfl) (Or.inr rfl) ?_
  refine gkNewA (nn := 128) (k := 692) (Sk2 := (.inr (.inr (8, [some (some 6), some (some 230), some (some 454), some (some 1), some (some 678), some (some 682), some (some 686), some (some 687), some (some 689), some (some 691), some none, some none, some none, none])) : rSk) :: (((((((((((([] : List rSk) ++ unSk 1) ++ seSk 6) ++ seSk 230) ++ seSk 454) ++ rdSk 678 231) ++ teSk 682) ++ [.inr (.inr (0, [none]))]) ++ [.inr (.inr (2, [some (some 688), none])), .inl 96]) ++ [.inr (.inr (2, [some (some 690), none])), .inl 32]) ++ [.inl 7]) ++ [.inl 128])) dM_70_138 (by decide) rfl (by decide) hl10 rfl ?_
  refine gkPutR (k := 0) (Sk2 := (.inr (.inr (8, [some (some 6), some (some 230), some (some 454), some (some 1), some (some 678), some (some 682), some (some 686), some (some 687), some (some 689), some (some 691), some (some 692), some none, some none, none])) : rSk) :: (((((((((((([] : List rSk) ++ unSk 1) ++ seSk 6) ++ seSk 230) ++ seSk 454) ++ rdSk 678 231) ++ teSk 682) ++ [.inr (.inr (0, [none]))]) ++ [.inr (.inr (2, [some (some 688), none])), .inl 96]) ++ [.inr (.inr (2, [some (some 690), none])), .inl 32]) ++ [.inl 7]) ++ [.inl 128])) dM_70_140 rfl rfl rfl rfl (fun _ => ⟨rfl, rfl⟩) rfl ?_
  have hl11 : ((.inr (.inr (8, [some (some 6), some (some 230), some (some 454), some (some 1), some (some 678), some (some 682), some (some 686), some (some 687), some (some 689), some (some 691), some (some 692), some none, some none, none])) : rSk) :: (((((((((((([] : List rSk) ++ unSk 1) ++ seSk 6) ++ seSk 230) ++ seSk 454) ++ rdSk 678 231) ++ teSk 682) ++ [.inr (.inr (0, [none]))]) ++ [.inr (.inr (2, [some (some 688), none])), .inl 96]) ++ [.inr (.inr (2, [some (some 690), none])), .inl 32]) ++ [.inl 7]) ++ [.inl 128])).length = 693 := by simp [seSk_len, unSk_len, rdSk_len, teSk_len]
  refine gk0 144 [(0, .inr (.inr (some 0)))] [.inr (.inr (some 0))] dM_70_143 (fun _ => rfl) (Or.inr rfl) ?_
  refine gk0 146 [(0, .inr (.inr (some 0)))] [.inl 30, .inr (.inr (some 0))] dM_70_144 (fun _ => rfl) (Or.inr rfl) ?_
  refine gk0 149 [(0, .inr (.inr (some 0)))] [.inl 200, .inl 30, .inr (.inr (some 0))] dM_70_146 (fun _ => rfl) (Or.inr rfl) ?_
  refine gkMulti (nn := 30) (mm := 200) (k := 693) (Sk2 := (.inr (.inr (8, [some (some 6), some (some 230), some (some 454), some (some 1), some (some 678), some (some 682), some (some 686), some (some 687), some (some 689), some (some 691), some (some 692), some none, some none, none])) : rSk) :: ((((((((((((([] : List rSk) ++ unSk 1) ++ seSk 6) ++ seSk 230) ++ seSk 454) ++ rdSk 678 231) ++ teSk 682) ++ [.inr (.inr (0, [none]))]) ++ [.inr (.inr (2, [some (some 688), none])), .inl 96]) ++ [.inr (.inr (2, [some (some 690), none])), .inl 32]) ++ [.inl 7]) ++ [.inl 128]) ++ ([.inr (.inl (2, 30, fun j => if j < 30 then some (693 + 1 + j) else none))] ++ List.replicate 30 (.inl 200)))) dM_70_149 rfl (by decide) (by decide) rfl rfl (by decide) (by decide) hl11 (by simp only [List.cons_append, List.append_assoc]) (fun s11 e11 => ?_)
  refine gkPutR (k := 0) (Sk2 := (.inr (.inr (8, [some (some 6), some (some 230), some (some 454), some (some 1), some (some 678), some (some 682), some (some 686), some (some 687), some (some 689), some (some 691), some (some 692), some (some 693), some none, none])) : rSk) :: ((((((((((((([] : List rSk) ++ unSk 1) ++ seSk 6) ++ seSk 230) ++ seSk 454) ++ rdSk 678 231) ++ teSk 682) ++ [.inr (.inr (0, [none]))]) ++ [.inr (.inr (2, [some (some 688), none])), .inl 96]) ++ [.inr (.inr (2, [some (some 690), none])), .inl 32]) ++ [.inl 7]) ++ [.inl 128]) ++ ([.inr (.inl (2, 30, fun j => if j < 30 then some (693 + 1 + j) else none))] ++ List.replicate 30 (.inl 200)))) dM_70_153 rfl rfl rfl rfl (fun _ => ⟨rfl, rfl⟩) rfl ?_
  have hl12 : ((.inr (.inr (8, [some (some 6), some (some 230), some (some 454), some (some 1), some (some 678), some (some 682), some (some 686), some (some 687), some (some 689), some (some 691), some (some 692), some (some 693), some none, none])) : rSk) :: ((((((((((((([] : List rSk) ++ unSk 1) ++ seSk 6) ++ seSk 230) ++ seSk 454) ++ rdSk 678 231) ++ teSk 682) ++ [.inr (.inr (0, [none]))]) ++ [.inr (.inr (2, [some (some 688), none])), .inl 96]) ++ [.inr (.inr (2, [some (some 690), none])), .inl 32]) ++ [.inl 7]) ++ [.inl 128]) ++ ([.inr (.inl (2, 30, fun j => if j < 30 then some (693 + 1 + j) else none))] ++ List.replicate 30 (.inl 200)))).length = 724 := by simp [seSk_len, unSk_len, rdSk_len, teSk_len]
  refine gk0 157 [(0, .inr (.inr (some 0)))] [.inr (.inr (some 0))] dM_70_156 (fun _ => rfl) (Or.inr rfl) ?_
  refine gk0 159 [(0, .inr (.inr (some 0)))] [.inl 30, .inr (.inr (some 0))] dM_70_157 (fun _ => rfl) (Or.inr rfl) ?_
  refine gkNewA (nn := 30) (k := 724) (Sk2 := (.inr (.inr (8, [some (some 6), some (some 230), some (some 454), some (some 1), some (some 678), some (some 682), some (some 686), some (some 687), some (some 689), some (some 691), some (some 692), some (some 693), some none, none])) : rSk) :: (((((((((((((([] : List rSk) ++ unSk 1) ++ seSk 6) ++ seSk 230) ++ seSk 454) ++ rdSk 678 231) ++ teSk 682) ++ [.inr (.inr (0, [none]))]) ++ [.inr (.inr (2, [some (some 688), none])), .inl 96]) ++ [.inr (.inr (2, [some (some 690), none])), .inl 32]) ++ [.inl 7]) ++ [.inl 128]) ++ ([.inr (.inl (2, 30, fun j => if j < 30 then some (693 + 1 + j) else none))] ++ List.replicate 30 (.inl 200))) ++ [.inl 30])) dM_70_159 (by decide) rfl (by decide) hl12 rfl ?_
  refine gkPutR (k := 0) (Sk2 := (.inr (.inr (8, [some (some 6), some (some 230), some (some 454), some (some 1), some (some 678), some (some 682), some (some 686), some (some 687), some (some 689), some (some 691), some (some 692), some (some 693), some (some 724), none])) : rSk) :: (((((((((((((([] : List rSk) ++ unSk 1) ++ seSk 6) ++ seSk 230) ++ seSk 454) ++ rdSk 678 231) ++ teSk 682) ++ [.inr (.inr (0, [none]))]) ++ [.inr (.inr (2, [some (some 688), none])), .inl 96]) ++ [.inr (.inr (2, [some (some 690), none])), .inl 32]) ++ [.inl 7]) ++ [.inl 128]) ++ ([.inr (.inl (2, 30, fun j => if j < 30 then some (693 + 1 + j) else none))] ++ List.replicate 30 (.inl 200))) ++ [.inl 30])) dM_70_161 rfl rfl rfl rfl (fun _ => ⟨rfl, rfl⟩) rfl ?_
  refine gk0 165 [(0, .inr (.inr (some 0)))] [.inr (.inr (some 0))] dM_70_164 (fun _ => rfl) (Or.inr rfl) ?_
  refine gk0 166 [(0, .inr (.inr (some 0)))] [.inl 0, .inr (.inr (some 0))] dM_70_165 (fun _ => rfl) (Or.inr rfl) ?_
  refine gkPut (k := 0) dM_70_166 rfl rfl rfl rfl (fun q => by cases q) ?_
  have z8 : ∀ q, 0 < q → q < 691 → up2 (upC s11 724 (fun _ => 0)) 0 13 0 q = s8 q := fun q h0 h => by
    rw [up2_nk _ _ _ (by omega), upC_ne _ _ (by omega), e11 q (by omega), upC_ne _ _ (by omega), upC_ne _ _ (by omega)]
  have z7 : ∀ q, q < 689 → s8 q = s7 q := fun q h => by rw [e8 q h, upC_ne _ _ (by omega)]
  have z6 : ∀ q, q < 687 → s7 q = s6 q := fun q h => by rw [e7 q h, upC_ne _ _ (by omega)]
  have z5 : ∀ q, q < 686 → s6 q = s5 q := fun q h => by rw [e6 q h, upC_ne _ _ (by omega)]
  have z4 : ∀ q, q < 682 → s5 q = s4 q := fun q h => by rw [e5 q h, upC_ne _ _ (by omega)]
  have z3 : ∀ q, q < 678 → s4 q = s3 q := fun q h => by rw [e4 q h, upC_ne _ _ (by omega)]
  have z2 : ∀ q, q < 454 → s3 q = s2 q := fun q h => by rw [e3 q h, upC_ne _ _ (by omega)]
  have z1 : ∀ q, q < 230 → s2 q = s1 q := fun q h => by rw [e2 q h, upC_ne _ _ (by omega)]
  have z0 : ∀ q, q < 6 → s1 q = s0 q := fun q h => by rw [e1 q h, upC_ne _ _ (by omega)]
  have y3 : ∀ q, 0 < q → q < 678 → up2 (upC s11 724 (fun _ => 0)) 0 13 0 q = s3 q := fun q h0 h => by rw [z8 q h0 (by omega), z7 q (by omega), z6 q (by omega), z5 q (by omega), z4 q (by omega), z3 q h]
  refine gkRet (r := none) dM_70_169 (fun _ => rfl) (Or.inr rfl) ⟨rfl, rfl, rfl, rfl, seF_ext (fun q g1 g2 => ?_) c1, seF_ext (fun q g1 g2 => ?_) c2, seF_ext (fun q g1 g2 => ?_) c3, ?_, fun j => ?_, ?_, ?_, fun j => ?_, up2_same _ _ _ _⟩
  · rw [y3 q (by omega) (by omega), z2 q (by omega), z1 q (by omega)]
  · rw [y3 q (by omega) (by omega), z2 q (by omega)]
  · rw [y3 q (by omega) (by omega)]
  · rw [y3 1 (by omega) (by omega), z2 1 (by omega), z1 1 (by omega), z0 1 (by omega)]; exact a1
  · rw [y3 5 (by omega) (by omega), z2 5 (by omega), z1 5 (by omega), z0 5 (by omega)]; exact a4 j
  · rw [z8 687 (by omega) (by omega), z7 687 (by omega)]; exact r1
  · rw [z8 689 (by omega) (by omega)]; exact r2
  · rw [up2_nk _ _ _ (by omega), upC_ne _ _ (by omega), e11 691 (by omega), upC_ne _ _ (by omega), upC_same]
