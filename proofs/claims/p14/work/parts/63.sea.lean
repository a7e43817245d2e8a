/-! CONSTRUCTOR of Search (by program: wip/whole/gen_sea.py) -/
def cBegun2 (sg s2 : rSg) (b : Nat) : Prop := (∀ j, 6 ≤ j → s2 (b + 7) j = sg (b + 7) j) ∧ (∀ j, j < 64 → s2 (b + 219) j = -1) ∧ cBegun sg s2 b
theorem c_begin2 {Sk : List rSk} {b : Nat} (hb : isSeaA Sk b) (sg : rSg) : EvS Sk 3 33 [.inr (.inr (some b))] sg (fun r s2 => r = none ∧ cBegun2 sg s2 b) := by
  refine wS_33 sg b hb.1 ?_
  generalize eA : up2 (up2 (up2 (up2 (up2 (up2 sg b 7 0) b 8 0) b 9 0) b 10 0) b 11 0) b 12 1 = A
  have a1 : ∀ q, q ≠ b → A q = sg q := fun q h => by rw [← eA, up2_nk _ _ _ h, up2_nk _ _ _ h, up2_nk _ _ _ h, up2_nk _ _ _ h, up2_nk _ _ _ h, up2_nk _ _ _ h]
  have a2 : ∀ j, j < 7 → A b j = sg b j := fun j h => by rw [← eA, up2_nj _ _ _ (by omega), up2_nj _ _ _ (by omega), up2_nj _ _ _ (by omega), up2_nj _ _ _ (by omega), up2_nj _ _ _ (by omega), up2_nj _ _ _ (by omega)]
  have a7 : A b 7 = 0 := by rw [← eA, up2_nj _ _ _ (by decide), up2_nj _ _ _ (by decide), up2_nj _ _ _ (by decide), up2_nj _ _ _ (by decide), up2_nj _ _ _ (by decide), up2_same]
  have a8 : A b 8 = 0 := by rw [← eA, up2_nj _ _ _ (by decide), up2_nj _ _ _ (by decide), up2_nj _ _ _ (by decide), up2_nj _ _ _ (by decide), up2_same]
  have a9 : A b 9 = 0 := by rw [← eA, up2_nj _ _ _ (by decide), up2_nj _ _ _ (by decide), up2_nj _ _ _ (by decide), up2_same]
  have a10 : A b 10 = 0 := by rw [← eA, up2_nj _ _ _ (by decide), up2_nj _ _ _ (by decide), up2_same]
  have a11 : A b 11 = 0 := by rw [← eA, up2_nj _ _ _ (by decide), up2_same]
  have a12 : A b 12 = 1 := by rw [← eA, up2_same]
  have hst := hb.1.2.2.2.2.2.2.1
  refine (c_reset hst A).imp ?_
  rintro _ B ⟨rfl, b1, b2, b3, b4, b5⟩
  refine ⟨rfl, (c_stpush hst B (t := 0) b4 (by decide) _).imp ?_⟩
  rintro _ C ⟨rfl, c1, c2, c3, c4, c5⟩
  have cb : C b = A b := by rw [c1 b (by omega) (by omega), b1 b (by omega) (by omega)]
  refine ⟨rfl, (c_enqueue_in hb hst C (h := 0) (n := 0) (v := 6) (t := 1) (by rw [cb]; exact a7) (by decide) (by rw [cb]; exact a8) (by decide) (by rw [c2 2 (by decide)]; exact b3) (by decide) c3 (by decide) (fun i hi => by omega) (by omega)).imp ?_⟩
  rintro _ s2 ⟨rfl, q, hq, d1, d2, d3, d4, d5, d6, d7, d8, d9⟩
  have hq : q = b + 6 := by simpa using hq
  subst hq
  have old : ∀ j, j ≠ b → j ≠ b + 6 → j ≠ b + 7 → j ≠ b + 8 → j ≠ b + 218 → j ≠ b + 219 → j ≠ b + 220 → s2 j = sg j := fun j g1 g2 g3 g4 g5 g6 g7 => by rw [d1 j g1 g2 g3 g4, c1 j g5 g7, b1 j g5 g6, a1 j g1]
  refine ⟨rfl, rfl, fun j hj => by rw [d8 j hj, c1 (b + 6 + 1) (by omega) (by omega), b1 (b + 6 + 1) (by omega) (by omega), a1 (b + 6 + 1) (by omega)], fun j hj => by rw [d1 (b + 218 + 1) (by omega) (by omega) (by omega) (by omega), c1 (b + 218 + 1) (by omega) (by omega), b2 j hj], fun j hj => old j (by omega) (by omega) (by omega) (by omega) (by omega) (by omega) (by omega), fun j hj => by rw [d2 j (by omega), cb, a2 j hj], by rw [d2 7 (by decide), cb, a7], d3, by rw [d2 9 (by decide), cb, a9], by rw [d2 10 (by decide), cb, a10], by rw [d2 11 (by decide), cb, a11], by rw [d2 12 (by decide), cb, a12], d4, d5, by rw [d6, c2 4 (by decide), b5], fun j hj => ?_, ?_, fun j hj => old j (by omega) (by omega) (by omega) (by omega) (by omega) (by omega) (by omega)⟩
  · rw [d7 j hj, c1 _ (by omega) (by omega), b2 j (by omega)]
  · rw [d9 0 (by decide), c4, b1 _ (by omega) (by omega), a1 _ (by omega)]
theorem gkCZ {d own nL : Nat} {ret : Option FieldType} {ini : Bool} {cc : ByteArray} {pc : Nat} {L : List (Nat × rv)} {S : List rv} {Sk : List rSk} {sg : rSg} {c z c2 z2 : Nat} {P : Option rv → List rSk → rSg → Nat → Nat → Prop} (hc : c = c2) (hz : z = z2) (kk : GoK d own nL ret ini cc pc L S Sk sg c2 z2 P) : GoK d own nL ret ini cc pc L S Sk sg c z P := by
  subst hc
  subst hz
  exact kk
def stsSk (b : Nat) : Nat → List rSk
  | 0 => []
  | n + 1 => stsSk b n ++ stSk (b + 3 * n)
theorem stsSk_len (b : Nat) : ∀ n, (stsSk b n).length = 3 * n
  | 0 => rfl
  | n + 1 => by rw [stsSk, List.length_append, stsSk_len b n]; show 3 * n + 3 = _; omega
theorem stsSk_at (b : Nat) : ∀ (n i j : Nat) (s : rSk), i < n → j < 3 → (stSk (b + 3 * i))[j]? = some s → (stsSk b n)[3 * i + j]? = some s
  | 0, i, j, s, h, _, _ => by omega
  | n + 1, i, j, s, h, hj, hs => by
    rw [stsSk]
    by_cases q : i < n
    · exact at_l (stsSk_at b n i j s q hj hs)
    · have e : i = n := by omega
      subst e
      exact at_r (stsSk_len b i) rfl hs
/-- a row of objects, as far as it is filled -/
def arF (N b i : Nat) : rSk := .inr (.inl (1, N, fun q => if q < i then some (b + 3 * q) else none))
theorem arF_0 (N b : Nat) : (.inr (.inl (1, N, fun _ => none)) : rSk) = arF N b 0 := by
  unfold arF
  congr
theorem arF_up (N b i : Nat) : (.inr (.inl (1, N, va_up (fun q => if q < i then some (b + 3 * q) else none) i (some (b + 3 * i)))) : rSk) = arF N b (i + 1) := by
  unfold arF
  have e : va_up (fun q => if q < i then some (b + 3 * q) else none) i (some (b + 3 * i)) = fun q => if q < i + 1 then some (b + 3 * q) else none := by
    funext q
    unfold va_up
    by_cases h : q = i
    · subst h; rw [if_pos rfl, if_pos (by omega)]
    · rw [if_neg h]
      by_cases h2 : q < i
      · show (if q < i then some (b + 3 * q) else none) = _
        rw [if_pos h2, if_pos (by omega)]
      · show (if q < i then some (b + 3 * q) else none) = _
        rw [if_neg h2, if_neg (by omega)]
  rw [e]
theorem dM_32_0 : decode prog_6_method_1_code 0 = .ok (.aload_n 0, 1) := by decide +kernel
theorem dM_32_1 : decode prog_6_method_1_code 1 = .ok (.invokespecial 3, 3) := by decide +kernel
theorem dM_32_4 : decode prog_6_method_1_code 4 = .ok (.aload_n 0, 1) := by decide +kernel
theorem dM_32_5 : decode prog_6_method_1_code 5 = .ok (.aload_n 1, 1) := by decide +kernel
theorem dM_32_6 : decode prog_6_method_1_code 6 = .ok (.putfield 9, 3) := by decide +kernel
theorem dM_32_9 : decode prog_6_method_1_code 9 = .ok (.aload_n 0, 1) := by decide +kernel
theorem dM_32_10 : decode prog_6_method_1_code 10 = .ok (.new 15, 3) := by decide +kernel
theorem dM_32_13 : decode prog_6_method_1_code 13 = .ok (.dup, 1) := by decide +kernel
theorem dM_32_14 : decode prog_6_method_1_code 14 = .ok (.invokespecial 17, 3) := by decide +kernel
theorem dM_32_17 : decode prog_6_method_1_code 17 = .ok (.putfield 18, 3) := by decide +kernel
theorem dM_32_20 : decode prog_6_method_1_code 20 = .ok (.aload_n 0, 1) := by decide +kernel
theorem dM_32_21 : decode prog_6_method_1_code 21 = .ok (.bipush 40, 2) := by decide +kernel
theorem dM_32_23 : decode prog_6_method_1_code 23 = .ok (.anewarray 22, 3) := by decide +kernel
theorem dM_32_26 : decode prog_6_method_1_code 26 = .ok (.putfield 24, 3) := by decide +kernel
theorem dM_32_29 : decode prog_6_method_1_code 29 = .ok (.iconst 0, 1) := by decide +kernel
theorem dM_32_30 : decode prog_6_method_1_code 30 = .ok (.istore_n 2, 1) := by decide +kernel
theorem dM_32_31 : decode prog_6_method_1_code 31 = .ok (.iload_n 2, 1) := by decide +kernel
theorem dM_32_32 : decode prog_6_method_1_code 32 = .ok (.bipush 40, 2) := by decide +kernel
theorem dM_32_34 : decode prog_6_method_1_code 34 = .ok (.if_icmp .ge 22, 3) := by decide +kernel
theorem dM_32_37 : decode prog_6_method_1_code 37 = .ok (.aload_n 0, 1) := by decide +kernel
theorem dM_32_38 : decode prog_6_method_1_code 38 = .ok (.getfield 24, 3) := by decide +kernel
theorem dM_32_41 : decode prog_6_method_1_code 41 = .ok (.iload_n 2, 1) := by decide +kernel
theorem dM_32_42 : decode prog_6_method_1_code 42 = .ok (.new 22, 3) := by decide +kernel
theorem dM_32_45 : decode prog_6_method_1_code 45 = .ok (.dup, 1) := by decide +kernel
theorem dM_32_46 : decode prog_6_method_1_code 46 = .ok (.invokespecial 28, 3) := by decide +kernel
theorem dM_32_49 : decode prog_6_method_1_code 49 = .ok (.aastore, 1) := by decide +kernel
theorem dM_32_50 : decode prog_6_method_1_code 50 = .ok (.iinc 2 1, 3) := by decide +kernel
theorem dM_32_53 : decode prog_6_method_1_code 53 = .ok (.goto (-22), 3) := by decide +kernel
theorem dM_32_56 : decode prog_6_method_1_code 56 = .ok (.aload_n 0, 1) := by decide +kernel
theorem dM_32_57 : decode prog_6_method_1_code 57 = .ok (.bipush 30, 2) := by decide +kernel
theorem dM_32_59 : decode prog_6_method_1_code 59 = .ok (.anewarray 22, 3) := by decide +kernel
theorem dM_32_62 : decode prog_6_method_1_code 62 = .ok (.putfield 29, 3) := by decide +kernel
theorem dM_32_65 : decode prog_6_method_1_code 65 = .ok (.iconst 0, 1) := by decide +kernel
theorem dM_32_66 : decode prog_6_method_1_code 66 = .ok (.istore_n 2, 1) := by decide +kernel
theorem dM_32_67 : decode prog_6_method_1_code 67 = .ok (.iload_n 2, 1) := by decide +kernel
theorem dM_32_68 : decode prog_6_method_1_code 68 = .ok (.bipush 30, 2) := by decide +kernel
theorem dM_32_70 : decode prog_6_method_1_code 70 = .ok (.if_icmp .ge 22, 3) := by decide +kernel
theorem dM_32_73 : decode prog_6_method_1_code 73 = .ok (.aload_n 0, 1) := by decide +kernel
theorem dM_32_74 : decode prog_6_method_1_code 74 = .ok (.getfield 29, 3) := by decide +kernel
theorem dM_32_77 : decode prog_6_method_1_code 77 = .ok (.iload_n 2, 1) := by decide +kernel
theorem dM_32_78 : decode prog_6_method_1_code 78 = .ok (.new 22, 3) := by decide +kernel
theorem dM_32_81 : decode prog_6_method_1_code 81 = .ok (.dup, 1) := by decide +kernel
theorem dM_32_82 : decode prog_6_method_1_code 82 = .ok (.invokespecial 28, 3) := by decide +kernel
theorem dM_32_85 : decode prog_6_method_1_code 85 = .ok (.aastore, 1) := by decide +kernel
theorem dM_32_86 : decode prog_6_method_1_code 86 = .ok (.iinc 2 1, 3) := by decide +kernel
theorem dM_32_89 : decode prog_6_method_1_code 89 = .ok (.goto (-22), 3) := by decide +kernel
theorem dM_32_92 : decode prog_6_method_1_code 92 = .ok (.aload_n 0, 1) := by decide +kernel
theorem dM_32_93 : decode prog_6_method_1_code 93 = .ok (.bipush 30, 2) := by decide +kernel
theorem dM_32_95 : decode prog_6_method_1_code 95 = .ok (.newarray .int, 2) := by decide +kernel
theorem dM_32_97 : decode prog_6_method_1_code 97 = .ok (.putfield 32, 3) := by decide +kernel
theorem dM_32_100 : decode prog_6_method_1_code 100 = .ok (.aload_n 0, 1) := by decide +kernel
theorem dM_32_101 : decode prog_6_method_1_code 101 = .ok (.new 22, 3) := by decide +kernel
theorem dM_32_104 : decode prog_6_method_1_code 104 = .ok (.dup, 1) := by decide +kernel
theorem dM_32_105 : decode prog_6_method_1_code 105 = .ok (.invokespecial 28, 3) := by decide +kernel
theorem dM_32_108 : decode prog_6_method_1_code 108 = .ok (.putfield 36, 3) := by decide +kernel
theorem dM_32_111 : decode prog_6_method_1_code 111 = .ok (.aload_n 0, 1) := by decide +kernel
theorem dM_32_112 : decode prog_6_method_1_code 112 = .ok (.new 22, 3) := by decide +kernel
theorem dM_32_115 : decode prog_6_method_1_code 115 = .ok (.dup, 1) := by decide +kernel
theorem dM_32_116 : decode prog_6_method_1_code 116 = .ok (.invokespecial 28, 3) := by decide +kernel
theorem dM_32_119 : decode prog_6_method_1_code 119 = .ok (.putfield 40, 3) := by decide +kernel
theorem dM_32_122 : decode prog_6_method_1_code 122 = .ok (.aload_n 0, 1) := by decide +kernel
theorem dM_32_123 : decode prog_6_method_1_code 123 = .ok (.invokevirtual 43, 3) := by decide +kernel
theorem dM_32_126 : decode prog_6_method_1_code 126 = .ok (.return_, 1) := by decide +kernel
theorem k_lp1 {A : List rSk} {b ka n0 : Nat} {fs : List (Option (Option Nat))} (hn : A.length = n0) (h5 : 5 < n0) (hka : ka < n0) (hb : A[b]? = some (.inr (.inr (4, fs)))) (hfs : fs[2]? = some (some (some ka))) (hne : b ≠ ka) {s1 : rSg} {c0 z0 : Nat} {P : Option rv → List rSk → rSg → Nat → Nat → Prop} (hP : ∀ s : rSg, (∀ q, q < n0 → s q = s1 q) → (∀ j, j < 40 → stF s (n0 + 3 * j)) → GoK 3 4 3 none true prog_6_method_1_code 56 [(2, .inl (nI 40)), (0, .inr (.inr (some b))), (1, .inr (.inr (some 1)))] [] (A.set ka (arF 40 n0 40) ++ stsSk n0 40) s (c0 + 3 * 40) (z0 + 101 * 40) P) :
    ∀ (m i : Nat) (s : rSg), i + m = 40 → (∀ q, q < n0 → s q = s1 q) → (∀ j, j < i → stF s (n0 + 3 * j)) → GoK 3 4 3 none true prog_6_method_1_code 31 [(2, .inl (nI i)), (0, .inr (.inr (some b))), (1, .inr (.inr (some 1)))] [] (A.set ka (arF 40 n0 i) ++ stsSk n0 i) s (c0 + 3 * i) (z0 + 101 * i) P := by
  intro m
  induction m with
  | zero =>
    intro i s hi h1 h2
    obtain rfl : i = 40 := by omega
    refine gk0 32 [(2, .inl (nI 40)), (0, .inr (.inr (some b))), (1, .inr (.inr (some 1)))] [.inl (nI 40)] dM_32_31 (fun _ => rfl) (Or.inr rfl) ?_
    refine gk0 34 [(2, .inl (nI 40)), (0, .inr (.inr (some b))), (1, .inr (.inr (some 1)))] [.inl 40, .inl (nI 40)] dM_32_32 (fun _ => rfl) (Or.inr rfl) ?_
    refine gkIf (t := 56) (C := (40 : Int32) ≤ nI 40) (r := []) dM_32_34 (fun _ => rfl) (Or.inr rfl) (rTest_iff .ge (nI 40) 40) (fun _ => hP s h1 h2) (fun hc => absurd (by decide) hc)
  | succ m ih =>
    intro i s hi h1 h2
    have hlt : i < 40 := by omega
    have hlen : (A.set ka (arF 40 n0 i) ++ stsSk n0 i).length = n0 + 3 * i := by rw [List.length_append, List.length_set, hn, stsSk_len]
    have hX : (A.set ka (arF 40 n0 i))[ka]? = some (arF 40 n0 i) := by rw [List.getElem?_set_self (by omega)]
    refine gk0 32 [(2, .inl (nI i)), (0, .inr (.inr (some b))), (1, .inr (.inr (some 1)))] [.inl (nI i)] dM_32_31 (fun _ => rfl) (Or.inr rfl) ?_
    refine gk0 34 [(2, .inl (nI i)), (0, .inr (.inr (some b))), (1, .inr (.inr (some 1)))] [.inl 40, .inl (nI i)] dM_32_32 (fun _ => rfl) (Or.inr rfl) ?_
    refine gkIf (t := 56) (C := (40 : Int32) ≤ nI i) (r := []) dM_32_34 (fun _ => rfl) (Or.inr rfl) (rTest_iff .ge (nI i) 40) (fun hc => ?_) (fun _ => ?_)
    · exact absurd ((nI_leI (a := 40) (b := i) (by decide) (by omega)).mp hc) (by omega)
    refine gk0 38 [(2, .inl (nI i)), (0, .inr (.inr (some b))), (1, .inr (.inr (some 1)))] [.inr (.inr (some b))] dM_32_37 (fun _ => rfl) (Or.inr rfl) ?_
    refine gkGetR (some ka) dM_32_38 (at_l (by rw [List.getElem?_set_ne (Ne.symm hne)]; exact hb)) rfl hfs ?_
    refine gk0 42 [(2, .inl (nI i)), (0, .inr (.inr (some b))), (1, .inr (.inr (some 1)))] [.inl (nI i), .inr (.inr (some ka))] dM_32_41 (fun _ => rfl) (Or.inr rfl) ?_
    refine gkNew (sh := [some none, some none, none, none, none]) (k := n0 + 3 * i) (Sk2 := (A.set ka (arF 40 n0 i) ++ stsSk n0 i) ++ [.inr (.inr (5, [some none, some none, none, none, none]))]) dM_32_42 rfl rfl hlen rfl ?_
    refine gk0 46 [(2, .inl (nI i)), (0, .inr (.inr (some b))), (1, .inr (.inr (some 1)))] [.inr (.inr (some (n0 + 3 * i))), .inr (.inr (some (n0 + 3 * i))), .inl (nI i), .inr (.inr (some ka))] dM_32_45 (fun _ => rfl) (Or.inr rfl) ?_
    refine gkCallI (P1 := fun v Sk2 s2 c2 z2 => v = none ∧ Sk2 = (A.set ka (arF 40 n0 i) ++ stsSk n0 i) ++ stSk (n0 + 3 * i) ∧ c2 = 2 ∧ z2 = 96 ∧ (∀ q, q < n0 + 3 * i → s2 q = upC s (n0 + 3 * i) (fun _ => 0) q) ∧ stF s2 (n0 + 3 * i)) dM_32_46 rfl rfl rfl (by decide) (at_r hlen (j := 0) rfl rfl) rfl (Nat.le_of_ble_eq_true rfl) (k_50 hlen (by omega) _ (fun s2 g1 g2 => ⟨rfl, rfl, rfl, rfl, g1, g2⟩)) ?_
    rintro _ _ s2 _ _ ⟨rfl, rfl, rfl, rfl, g1, g2⟩
    have hset : ((A.set ka (arF 40 n0 i) ++ stsSk n0 i) ++ stSk (n0 + 3 * i)).set ka (.inr (.inl (1, 40, va_up (fun q => if q < i then some (n0 + 3 * q) else none) i (some (n0 + 3 * i))))) = A.set ka (arF 40 n0 (i + 1)) ++ stsSk n0 (i + 1) := by
      rw [List.set_append_left _ _ (by rw [hlen]; omega), List.set_append_left _ _ (by rw [List.length_set]; omega), List.set_set, arF_up, List.append_assoc]
      rfl
    refine gkAast (k := ka) (v := n0 + 3 * i) (n := 40) (t := i) (f := fun q => if q < i then some (n0 + 3 * q) else none) (g := [some (some (n0 + 3 * i + 1)), some (some (n0 + 3 * i + 2)), none, none, none]) dM_32_49 (at_l (at_l hX)) (at_r hlen (j := 0) rfl rfl) (rIn_nI hlt (by decide)) (nI_clamp (by omega)) hset ?_
    refine gk0 53 [(2, .inl (nI i + 1)), (0, .inr (.inr (some b))), (1, .inr (.inr (some 1)))] [] dM_32_50 (fun _ => rfl) (Or.inr rfl) ?_
    refine gk0 31 [(2, .inl (nI i + 1)), (0, .inr (.inr (some b))), (1, .inr (.inr (some 1)))] [] dM_32_53 (fun _ => rfl) (Or.inr rfl) ?_
    have e1 : nI i + 1 = nI (i + 1) := nI_1 i
    rw [e1]
    refine gkCZ (c2 := c0 + 3 * (i + 1)) (z2 := z0 + 101 * (i + 1)) (by omega) (by show z0 + 101 * i + 5 + 96 = _; omega) (ih (i + 1) s2 (by omega) (fun q hq => ?_) (fun j hj => ?_))
    · rw [g1 q (by omega), upC_ne _ _ (by omega), h1 q hq]
    · by_cases hji : j = i
      · subst hji; exact g2
      · obtain ⟨r1, r2, r3, r4, r5⟩ := h2 j (by omega)
        have k0 : ∀ q, q ≤ n0 + 3 * j + 2 → s2 q = s q := fun q hq => by rw [g1 q (by omega), upC_ne _ _ (by omega)]
        refine ⟨fun x hx => ?_, ?_, ?_, ?_, fun x => ?_⟩
        · rw [k0 _ (by omega)]; exact r1 x hx
        · rw [k0 _ (by omega)]; exact r2
        · rw [k0 _ (by omega)]; exact r3
        · rw [k0 _ (by omega)]; exact r4
        · rw [k0 _ (by omega)]; exact r5 x
theorem k_lp2 {A : List rSk} {b ka n0 : Nat} {fs : List (Option (Option Nat))} (hn : A.length = n0) (h5 : 5 < n0) (hka : ka < n0) (hb : A[b]? = some (.inr (.inr (4, fs)))) (hfs : fs[3]? = some (some (some ka))) (hne : b ≠ ka) {s1 : rSg} {c0 z0 : Nat} {P : Option rv → List rSk → rSg → Nat → Nat → Prop} (hP : ∀ s : rSg, (∀ q, q < n0 → s q = s1 q) → (∀ j, j < 30 → stF s (n0 + 3 * j)) → GoK 3 4 3 none true prog_6_method_1_code 92 [(2, .inl (nI 30)), (0, .inr (.inr (some b))), (1, .inr (.inr (some 1)))] [] (A.set ka (arF 30 n0 30) ++ stsSk n0 30) s (c0 + 3 * 30) (z0 + 101 * 30) P) :
    ∀ (m i : Nat) (s : rSg), i + m = 30 → (∀ q, q < n0 → s q = s1 q) → (∀ j, j < i → stF s (n0 + 3 * j)) → GoK 3 4 3 none true prog_6_method_1_code 67 [(2, .inl (nI i)), (0, .inr (.inr (some b))), (1, .inr (.inr (some 1)))] [] (A.set ka (arF 30 n0 i) ++ stsSk n0 i) s (c0 + 3 * i) (z0 + 101 * i) P := by
  intro m
  induction m with
  | zero =>
    intro i s hi h1 h2
    obtain rfl : i = 30 := by omega
    refine gk0 68 [(2, .inl (nI 30)), (0, .inr (.inr (some b))), (1, .inr (.inr (some 1)))] [.inl (nI 30)] dM_32_67 (fun _ => rfl) (Or.inr rfl) ?_
    refine gk0 70 [(2, .inl (nI 30)), (0, .inr (.inr (some b))), (1, .inr (.inr (some 1)))] [.inl 30, .inl (nI 30)] dM_32_68 (fun _ => rfl) (Or.inr rfl) ?_
    refine gkIf (t := 92) (C := (30 : Int32) ≤ nI 30) (r := []) dM_32_70 (fun _ => rfl) (Or.inr rfl) (rTest_iff .ge (nI 30) 30) (fun _ => hP s h1 h2) (fun hc => absurd (by decide) hc)
  | succ m ih =>
    intro i s hi h1 h2
    have hlt : i < 30 := by omega
    have hlen : (A.set ka (arF 30 n0 i) ++ stsSk n0 i).length = n0 + 3 * i := by rw [List.length_append, List.length_set, hn, stsSk_len]
    have hX : (A.set ka (arF 30 n0 i))[ka]? = some (arF 30 n0 i) := by rw [List.getElem?_set_self (by omega)]
    refine gk0 68 [(2, .inl (nI i)), (0, .inr (.inr (some b))), (1, .inr (.inr (some 1)))] [.inl (nI i)] dM_32_67 (fun _ => rfl) (Or.inr rfl) ?_
    refine gk0 70 [(2, .inl (nI i)), (0, .inr (.inr (some b))), (1, .inr (.inr (some 1)))] [.inl 30, .inl (nI i)] dM_32_68 (fun _ => rfl) (Or.inr rfl) ?_
    refine gkIf (t := 92) (C := (30 : Int32) ≤ nI i) (r := []) dM_32_70 (fun _ => rfl) (Or.inr rfl) (rTest_iff .ge (nI i) 30) (fun hc => ?_) (fun _ => ?_)
    · exact absurd ((nI_leI (a := 30) (b := i) (by decide) (by omega)).mp hc) (by omega)
    refine gk0 74 [(2, .inl (nI i)), (0, .inr (.inr (some b))), (1, .inr (.inr (some 1)))] [.inr (.inr (some b))] dM_32_73 (fun _ => rfl) (Or.inr rfl) ?_
    refine gkGetR (some ka) dM_32_74 (at_l (by rw [List.getElem?_set_ne (Ne.symm hne)]; exact hb)) rfl hfs ?_
    refine gk0 78 [(2, .inl (nI i)), (0, .inr (.inr (some b))), (1, .inr (.inr (some 1)))] [.inl (nI i), .inr (.inr (some ka))] dM_32_77 (fun _ => rfl) (Or.inr rfl) ?_
    refine gkNew (sh := [some none, some none, none, none, none]) (k := n0 + 3 * i) (Sk2 := (A.set ka (arF 30 n0 i) ++ stsSk n0 i) ++ [.inr (.inr (5, [some none, some none, none, none, none]))]) dM_32_78 rfl rfl hlen rfl ?_
    refine gk0 82 [(2, .inl (nI i)), (0, .inr (.inr (some b))), (1, .inr (.inr (some 1)))] [.inr (.inr (some (n0 + 3 * i))), .inr (.inr (some (n0 + 3 * i))), .inl (nI i), .inr (.inr (some ka))] dM_32_81 (fun _ => rfl) (Or.inr rfl) ?_
    refine gkCallI (P1 := fun v Sk2 s2 c2 z2 => v = none ∧ Sk2 = (A.set ka (arF 30 n0 i) ++ stsSk n0 i) ++ stSk (n0 + 3 * i) ∧ c2 = 2 ∧ z2 = 96 ∧ (∀ q, q < n0 + 3 * i → s2 q = upC s (n0 + 3 * i) (fun _ => 0) q) ∧ stF s2 (n0 + 3 * i)) dM_32_82 rfl rfl rfl (by decide) (at_r hlen (j := 0) rfl rfl) rfl (Nat.le_of_ble_eq_true rfl) (k_50 hlen (by omega) _ (fun s2 g1 g2 => ⟨rfl, rfl, rfl, rfl, g1, g2⟩)) ?_
    rintro _ _ s2 _ _ ⟨rfl, rfl, rfl, rfl, g1, g2⟩
    have hset : ((A.set ka (arF 30 n0 i) ++ stsSk n0 i) ++ stSk (n0 + 3 * i)).set ka (.inr (.inl (1, 30, va_up (fun q => if q < i then some (n0 + 3 * q) else none) i (some (n0 + 3 * i))))) = A.set ka (arF 30 n0 (i + 1)) ++ stsSk n0 (i + 1) := by
      rw [List.set_append_left _ _ (by rw [hlen]; omega), List.set_append_left _ _ (by rw [List.length_set]; omega), List.set_set, arF_up, List.append_assoc]
      rfl
    refine gkAast (k := ka) (v := n0 + 3 * i) (n := 30) (t := i) (f := fun q => if q < i then some (n0 + 3 * q) else none) (g := [some (some (n0 + 3 * i + 1)), some (some (n0 + 3 * i + 2)), none, none, none]) dM_32_85 (at_l (at_l hX)) (at_r hlen (j := 0) rfl rfl) (rIn_nI hlt (by decide)) (nI_clamp (by omega)) hset ?_
    refine gk0 89 [(2, .inl (nI i + 1)), (0, .inr (.inr (some b))), (1, .inr (.inr (some 1)))] [] dM_32_86 (fun _ => rfl) (Or.inr rfl) ?_
    refine gk0 67 [(2, .inl (nI i + 1)), (0, .inr (.inr (some b))), (1, .inr (.inr (some 1)))] [] dM_32_89 (fun _ => rfl) (Or.inr rfl) ?_
    have e1 : nI i + 1 = nI (i + 1) := nI_1 i
    rw [e1]
    refine gkCZ (c2 := c0 + 3 * (i + 1)) (z2 := z0 + 101 * (i + 1)) (by omega) (by show z0 + 101 * i + 5 + 96 = _; omega) (ih (i + 1) s2 (by omega) (fun q hq => ?_) (fun j hj => ?_))
    · rw [g1 q (by omega), upC_ne _ _ (by omega), h1 q hq]
    · by_cases hji : j = i
      · subst hji; exact g2
      · obtain ⟨r1, r2, r3, r4, r5⟩ := h2 j (by omega)
        have k0 : ∀ q, q ≤ n0 + 3 * j + 2 → s2 q = s q := fun q hq => by rw [g1 q (by omega), upC_ne _ _ (by omega)]
        refine ⟨fun x hx => ?_, ?_, ?_, ?_, fun x => ?_⟩
        · rw [k0 _ (by omega)]; exact r1 x hx
        · rw [k0 _ (by omega)]; exact r2
        · rw [k0 _ (by omega)]; exact r3
        · rw [k0 _ (by omega)]; exact r4
        · rw [k0 _ (by omega)]; exact r5 x
