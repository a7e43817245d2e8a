/-! over any shape -/
def isStS (Sk : List rSk) (k : Nat) : Prop := 5 < k ∧ Sk[k]? = some (.inr (.inr (5, [some (some (k + 1)), some (some (k + 2)), none, none, none]))) ∧ Sk[k + 1]? = some (.inl 64) ∧ Sk[k + 2]? = some (.inl 32)
def isScrS (Sk : List rSk) (s : Nat) : Prop := 5 < s ∧ Sk[s]? = some (.inr (.inr (3, [some (some (s + 1)), some (some (s + 2)), some (some (s + 3)), none, none, none, none, none, none]))) ∧ Sk[s + 1]? = some (.inl 326) ∧ Sk[s + 2]? = some (.inl 978) ∧ Sk[s + 3]? = some (.inl 1280)
def isSeaS (Sk : List rSk) (b : Nat) : Prop := 5 < b ∧ Sk[b]? = some (.inr (.inr (4, [some (some (b + 1)), some (some 1), some (some (b + 5)), some (some (b + 126)), some (some (b + 217)), some (some (b + 218)), some (some (b + 221)), none, none, none, none, none, none]))) ∧ Sk[b + 5]? = some (.inr (.inl (1, 40, fun i => if i < 40 then some (b + 6 + 3 * i) else none))) ∧ Sk[b + 126]? = some (.inr (.inl (1, 30, fun i => if i < 30 then some (b + 127 + 3 * i) else none))) ∧ Sk[b + 217]? = some (.inl 30) ∧ isScrS Sk (b + 1) ∧ isStS Sk (b + 218) ∧ isStS Sk (b + 221)
def isArrS (Sk : List rSk) (k n : Nat) : Prop := 5 < k ∧ Sk[k]? = some (.inl n)
def gS_209_5 (Sk : List rSk) (kb : Nat) (nb : Nat) (y1 : Int32) (y2 : Int32) (y3 : Int32) (sg : rSg) (P : Option rv → rSg → Prop) : Prop := GoS Sk 0 13 4 none false prog_15_method_103_code 5 [(0, .inr (.inr (some kb))), (1, .inl y1), (2, .inl y2), (3, .inl y3)] [] sg P
set_option maxRecDepth 100000 in
theorem wS_209_5 {Sk : List rSk} (sg : rSg) (kb nb : Nat) (hkb : isArrS Sk kb nb) (y1 : Int32) (y2 : Int32) (y3 : Int32) {P : Option rv → rSg → Prop} (h :
    (y3 ≤ y2 → 
      P none sg) ∧
    (¬ (y3 ≤ y2) → 
      (rIn y2 nb = true ∧
      gS_209_5 Sk kb nb y1 (y2 + 1) y3 (up2 sg kb y2.toNatClampNeg y1) P))) : gS_209_5 Sk kb nb y1 y2 y3 sg P := by
  show GoS Sk 0 13 4 none false prog_15_method_103_code 5 [(0, .inr (.inr (some kb))), (1, .inl y1), (2, .inl y2), (3, .inl y3)] [] sg P
  have b_kb := hkb.1
  refine gs0 6 [(0, .inr (.inr (some kb))), (1, .inl y1), (2, .inl y2), (3, .inl y3)] [.inl y2] dM_209_5 (fun _ => rfl) (Or.inr rfl) ?_
  refine gs0 7 [(0, .inr (.inr (some kb))), (1, .inl y1), (2, .inl y2), (3, .inl y3)] [.inl y3, .inl y2] dM_209_6 (fun _ => rfl) (Or.inr rfl) ?_
  refine gsIf (t := 20) (C := y3 ≤ y2) (r := []) dM_209_7 (fun _ => rfl) (Or.inr rfl) (rTest_iff .ge y2 y3) (fun c1 => ?_) (fun c1 => ?_)
  · replace h := h.1 c1
    refine gsRet (r := none) dM_209_20 (fun _ => rfl) (Or.inr rfl) ?_
    exact h
  · replace h := h.2 c1
    refine gs0 11 [(0, .inr (.inr (some kb))), (1, .inl y1), (2, .inl y2), (3, .inl y3)] [.inr (.inr (some kb))] dM_209_10 (fun _ => rfl) (Or.inr rfl) ?_
    refine gs0 12 [(0, .inr (.inr (some kb))), (1, .inl y1), (2, .inl y2), (3, .inl y3)] [.inl y2, .inr (.inr (some kb))] dM_209_11 (fun _ => rfl) (Or.inr rfl) ?_
    refine gs0 13 [(0, .inr (.inr (some kb))), (1, .inl y1), (2, .inl y2), (3, .inl y3)] [.inl y1, .inl y2, .inr (.inr (some kb))] dM_209_12 (fun _ => rfl) (Or.inr rfl) ?_
    refine gsIastN y2.toNatClampNeg dM_209_13 hkb.2 h.1 rfl ?_
    replace h := h.2
    refine gs0 17 [(2, .inl (y2 + 1)), (0, .inr (.inr (some kb))), (1, .inl y1), (3, .inl y3)] [] dM_209_14 (fun _ => rfl) (Or.inr rfl) ?_
    refine gs0 5 [(2, .inl (y2 + 1)), (0, .inr (.inr (some kb))), (1, .inl y1), (3, .inl y3)] [] dM_209_17 (fun _ => rfl) (Or.inr rfl) ?_
    exact GoS.sub (Lnd_keys (ks := [0, 1, 2, 3]) rfl (by decide)) (Lsub_cons rfl (Lsub_cons rfl (Lsub_cons rfl (Lsub_cons rfl Lsub_nil)))) h
set_option maxRecDepth 100000 in
/-- java/util/Arrays.fill -/
theorem wS_209 {Sk : List rSk} (sg : rSg) (kb nb : Nat) (hkb : isArrS Sk kb nb) (x1 : Int32) {P : Option rv → rSg → Prop} (h :
    gS_209_5 Sk kb nb x1 0 (Int32.ofNat nb) sg P) : EvS Sk 1 209 [.inr (.inr (some kb)), .inl x1] sg P := by
  refine EvS.of (ini := false) rfl ⟨rfl, Nat.le_of_ble_eq_true rfl⟩ rfl ?_
  show GoS Sk 0 13 4 none false prog_15_method_103_code 0 [(0, .inr (.inr (some kb))), (1, .inl x1)] [] sg _
  have b_kb := hkb.1
  refine gs0 1 [(0, .inr (.inr (some kb))), (1, .inl x1)] [.inl 0] dM_209_0 (fun _ => rfl) (Or.inr rfl) ?_
  refine gs0 2 [(2, .inl 0), (0, .inr (.inr (some kb))), (1, .inl x1)] [] dM_209_1 (fun _ => rfl) (Or.inr rfl) ?_
  refine gs0 3 [(2, .inl 0), (0, .inr (.inr (some kb))), (1, .inl x1)] [.inr (.inr (some kb))] dM_209_2 (fun _ => rfl) (Or.inr rfl) ?_
  refine gsAlen dM_209_3 hkb.2 ?_
  refine gs0 5 [(3, .inl (Int32.ofNat nb)), (2, .inl 0), (0, .inr (.inr (some kb))), (1, .inl x1)] [] dM_209_4 (fun _ => rfl) (Or.inr rfl) ?_
  exact GoS.sub (Lnd_keys (ks := [0, 1, 2, 3]) rfl (by decide)) (Lsub_cons rfl (Lsub_cons rfl (Lsub_cons rfl (Lsub_cons rfl Lsub_nil)))) h
set_option maxRecDepth 100000 in
/-- GoalsInAQueue$State.reset -/
theorem wS_51 {Sk : List rSk} (sg : rSg) (k : Nat) (hk : isStS Sk k) {P : Option rv → rSg → Prop} (h :
    EvS Sk 1 209 [.inr (.inr (some (k + 1))), .inl ((-1))] sg (fun v1 t2 => v1 = none ∧
      P none (up2 (up2 (up2 t2 k 2 6) k 3 0) k 4 0))) : EvS Sk 2 51 [.inr (.inr (some k))] sg P := by
  refine EvS.of (ini := false) rfl ⟨rfl, Nat.le_of_ble_eq_true rfl⟩ rfl ?_
  show GoS Sk 1 5 1 none false prog_7_method_2_code 0 [(0, .inr (.inr (some k)))] [] sg _
  have b_k := hk.1
  refine gs0 1 [(0, .inr (.inr (some k)))] [.inr (.inr (some k))] dM_51_0 (fun _ => rfl) (Or.inr rfl) ?_
  refine gsGetR (some (k + 1)) dM_51_1 hk.2.1 rfl rfl ?_
  refine gs0 5 [(0, .inr (.inr (some k)))] [.inl ((-1)), .inr (.inr (some (k + 1)))] dM_51_4 (fun _ => rfl) (Or.inr rfl) ?_
  refine gsCallS (y := 209) (as := [.inr (.inr (some (k + 1))), .inl ((-1))]) (r := []) dM_51_5 rfl (Or.inl rfl) rfl rfl (Nat.le_of_ble_eq_true rfl) (EvS.up h (Nat.le_of_ble_eq_true rfl)) (fun v1 t2 hv3 => ?_)
  obtain ⟨rfl, hn⟩ := hv3
  clear h
  show GoS _ _ _ _ _ _ _ _ [(0, .inr (.inr (some k)))] [] t2 _
  refine gs0 9 [(0, .inr (.inr (some k)))] [.inr (.inr (some k))] dM_51_8 (fun _ => rfl) (Or.inr rfl) ?_
  refine gs0 11 [(0, .inr (.inr (some k)))] [.inl 6, .inr (.inr (some k))] dM_51_9 (fun _ => rfl) (Or.inr rfl) ?_
  refine gsPut dM_51_11 hk.2.1 rfl rfl rfl (by decide) ?_
  refine gs0 15 [(0, .inr (.inr (some k)))] [.inr (.inr (some k))] dM_51_14 (fun _ => rfl) (Or.inr rfl) ?_
  refine gs0 16 [(0, .inr (.inr (some k)))] [.inl 0, .inr (.inr (some k))] dM_51_15 (fun _ => rfl) (Or.inr rfl) ?_
  refine gsPut dM_51_16 hk.2.1 rfl rfl rfl (by decide) ?_
  refine gs0 20 [(0, .inr (.inr (some k)))] [.inr (.inr (some k))] dM_51_19 (fun _ => rfl) (Or.inr rfl) ?_
  refine gs0 21 [(0, .inr (.inr (some k)))] [.inl 0, .inr (.inr (some k))] dM_51_20 (fun _ => rfl) (Or.inr rfl) ?_
  refine gsPut dM_51_21 hk.2.1 rfl rfl rfl (by decide) ?_
  refine gsRet (r := none) dM_51_24 (fun _ => rfl) (Or.inr rfl) ?_
  exact hn
set_option maxRecDepth 100000 in
/-- GoalsInAQueue$State.push -/
theorem wS_52 {Sk : List rSk} (sg : rSg) (k : Nat) (hk : isStS Sk k) (x1 : Int32) {P : Option rv → rSg → Prop} (h :
    ((sg k 3) < 0 → 
      P none sg) ∧
    (¬ ((sg k 3) < 0) → 
      (32 ≤ (sg k 3) → 
        P none sg) ∧
      (¬ (32 ≤ (sg k 3)) → 
        (rIn (sg k 3) 32 = true ∧
        P none (up2 (up2 sg (k + 2) ((sg k 3).toNatClampNeg) x1) k 3 ((sg k 3) + 1)))))) : EvS Sk 1 52 [.inr (.inr (some k)), .inl x1] sg P := by
  refine EvS.of (ini := false) rfl ⟨rfl, Nat.le_of_ble_eq_true rfl⟩ rfl ?_
  show GoS Sk 0 5 2 none false prog_7_method_5_code 0 [(0, .inr (.inr (some k))), (1, .inl x1)] [] sg _
  have b_k := hk.1
  refine gs0 1 [(0, .inr (.inr (some k))), (1, .inl x1)] [.inr (.inr (some k))] dM_52_0 (fun _ => rfl) (Or.inr rfl) ?_
  refine gsGetE (sg k 3) dM_52_1 hk.2.1 rfl rfl rfl ?_
  refine gsIf (t := 36) (C := (sg k 3) < 0) (r := []) dM_52_4 (fun _ => rfl) (Or.inr rfl) (rTest_iff .lt (sg k 3) 0) (fun c1 => ?_) (fun c1 => ?_)
  · replace h := h.1 c1
    refine gsRet (r := none) dM_52_36 (fun _ => rfl) (Or.inr rfl) ?_
    exact h
  · replace h := h.2 c1
    refine gs0 8 [(0, .inr (.inr (some k))), (1, .inl x1)] [.inr (.inr (some k))] dM_52_7 (fun _ => rfl) (Or.inr rfl) ?_
    refine gsGetE (sg k 3) dM_52_8 hk.2.1 rfl rfl rfl ?_
    refine gs0 13 [(0, .inr (.inr (some k))), (1, .inl x1)] [.inl 32, .inl (sg k 3)] dM_52_11 (fun _ => rfl) (Or.inr rfl) ?_
    refine gsIf (t := 36) (C := 32 ≤ (sg k 3)) (r := []) dM_52_13 (fun _ => rfl) (Or.inr rfl) (rTest_iff .ge (sg k 3) 32) (fun c2 => ?_) (fun c2 => ?_)
    · replace h := h.1 c2
      refine gsRet (r := none) dM_52_36 (fun _ => rfl) (Or.inr rfl) ?_
      exact h
    · replace h := h.2 c2
      refine gs0 17 [(0, .inr (.inr (some k))), (1, .inl x1)] [.inr (.inr (some k))] dM_52_16 (fun _ => rfl) (Or.inr rfl) ?_
      refine gsGetR (some (k + 2)) dM_52_17 hk.2.1 rfl rfl ?_
      refine gs0 21 [(0, .inr (.inr (some k))), (1, .inl x1)] [.inr (.inr (some k)), .inr (.inr (some (k + 2)))] dM_52_20 (fun _ => rfl) (Or.inr rfl) ?_
      refine gsGetE (sg k 3) dM_52_21 hk.2.1 rfl rfl rfl ?_
      refine gs0 25 [(0, .inr (.inr (some k))), (1, .inl x1)] [.inl x1, .inl (sg k 3), .inr (.inr (some (k + 2)))] dM_52_24 (fun _ => rfl) (Or.inr rfl) ?_
      refine gsIastN ((sg k 3).toNatClampNeg) dM_52_25 hk.2.2.2 h.1 rfl ?_
      replace h := h.2
      refine gs0 27 [(0, .inr (.inr (some k))), (1, .inl x1)] [.inr (.inr (some k))] dM_52_26 (fun _ => rfl) (Or.inr rfl) ?_
      refine gs0 28 [(0, .inr (.inr (some k))), (1, .inl x1)] [.inr (.inr (some k)), .inr (.inr (some k))] dM_52_27 (fun _ => rfl) (Or.inr rfl) ?_
      refine gsGetE (sg k 3) dM_52_28 hk.2.1 rfl rfl (congrFun (up2_nk _ _ _ (by omega)) _) ?_
      refine gs0 32 [(0, .inr (.inr (some k))), (1, .inl x1)] [.inl 1, .inl (sg k 3), .inr (.inr (some k))] dM_52_31 (fun _ => rfl) (Or.inr rfl) ?_
      refine gs0 33 [(0, .inr (.inr (some k))), (1, .inl x1)] [.inl ((sg k 3) + 1), .inr (.inr (some k))] dM_52_32 (fun _ => rfl) (Or.inr rfl) ?_
      refine gsPut dM_52_33 hk.2.1 rfl rfl rfl (by decide) ?_
      refine gsRet (r := none) dM_52_36 (fun _ => rfl) (Or.inr rfl) ?_
      exact h
set_option maxRecDepth 100000 in
/-- GoalsInAQueue$State.copy -/
theorem wS_53 {Sk : List rSk} (sg : rSg) (k : Nat) (hk : isStS Sk k) (k2 : Nat) (hk2 : isStS Sk k2) (hkk : k + 2 < k2 ∨ k2 + 2 < k) {P : Option rv → rSg → Prop} (h :
    ((¬ (0 : Int32) < 0 ∧ ¬ (0 : Int32) < 0 ∧ ¬ (imin (imax (sg k2 2) 0) 64) < 0 ∧ (0 : Int32).toNatClampNeg + (imin (imax (sg k2 2) 0) 64).toNatClampNeg ≤ 64 ∧ (0 : Int32).toNatClampNeg + (imin (imax (sg k2 2) 0) 64).toNatClampNeg ≤ 64) ∧
    (¬ (0 : Int32) < 0 ∧ ¬ (0 : Int32) < 0 ∧ ¬ (imin (imax (sg k2 3) 0) 32) < 0 ∧ (0 : Int32).toNatClampNeg + (imin (imax (sg k2 3) 0) 32).toNatClampNeg ≤ 32 ∧ (0 : Int32).toNatClampNeg + (imin (imax (sg k2 3) 0) 32).toNatClampNeg ≤ 32) ∧
    P none (upC (upC (up2 (up2 (up2 sg k 2 (imin (imax (sg k2 2) 0) 64)) k 3 (imin (imax (sg k2 3) 0) 32)) k 4 (sg k2 4)) (k + 1) (va_cpy ((up2 (up2 (up2 sg k 2 (imin (imax (sg k2 2) 0) 64)) k 3 (imin (imax (sg k2 3) 0) 32)) k 4 (sg k2 4)) (k2 + 1)) ((up2 (up2 (up2 sg k 2 (imin (imax (sg k2 2) 0) 64)) k 3 (imin (imax (sg k2 3) 0) 32)) k 4 (sg k2 4)) (k + 1)) (0 : Int32).toNatClampNeg (0 : Int32).toNatClampNeg (imin (imax (sg k2 2) 0) 64).toNatClampNeg)) (k + 2) (va_cpy ((upC (up2 (up2 (up2 sg k 2 (imin (imax (sg k2 2) 0) 64)) k 3 (imin (imax (sg k2 3) 0) 32)) k 4 (sg k2 4)) (k + 1) (va_cpy ((up2 (up2 (up2 sg k 2 (imin (imax (sg k2 2) 0) 64)) k 3 (imin (imax (sg k2 3) 0) 32)) k 4 (sg k2 4)) (k2 + 1)) ((up2 (up2 (up2 sg k 2 (imin (imax (sg k2 2) 0) 64)) k 3 (imin (imax (sg k2 3) 0) 32)) k 4 (sg k2 4)) (k + 1)) (0 : Int32).toNatClampNeg (0 : Int32).toNatClampNeg (imin (imax (sg k2 2) 0) 64).toNatClampNeg)) (k2 + 2)) ((upC (up2 (up2 (up2 sg k 2 (imin (imax (sg k2 2) 0) 64)) k 3 (imin (imax (sg k2 3) 0) 32)) k 4 (sg k2 4)) (k + 1) (va_cpy ((up2 (up2 (up2 sg k 2 (imin (imax (sg k2 2) 0) 64)) k 3 (imin (imax (sg k2 3) 0) 32)) k 4 (sg k2 4)) (k2 + 1)) ((up2 (up2 (up2 sg k 2 (imin (imax (sg k2 2) 0) 64)) k 3 (imin (imax (sg k2 3) 0) 32)) k 4 (sg k2 4)) (k + 1)) (0 : Int32).toNatClampNeg (0 : Int32).toNatClampNeg (imin (imax (sg k2 2) 0) 64).toNatClampNeg)) (k + 2)) (0 : Int32).toNatClampNeg (0 : Int32).toNatClampNeg (imin (imax (sg k2 3) 0) 32).toNatClampNeg)))) : EvS Sk 1 53 [.inr (.inr (some k)), .inr (.inr (some k2))] sg P := by
  refine EvS.of (ini := false) rfl ⟨rfl, Nat.le_of_ble_eq_true rfl⟩ rfl ?_
  show GoS Sk 0 5 2 none false prog_7_method_3_code 0 [(0, .inr (.inr (some k))), (1, .inr (.inr (some k2)))] [] sg _
  have b_k := hk.1
  have b_k2 := hk2.1
  refine gs0 1 [(0, .inr (.inr (some k))), (1, .inr (.inr (some k2)))] [.inr (.inr (some k))] dM_53_0 (fun _ => rfl) (Or.inr rfl) ?_
  refine gs0 2 [(0, .inr (.inr (some k))), (1, .inr (.inr (some k2)))] [.inr (.inr (some k2)), .inr (.inr (some k))] dM_53_1 (fun _ => rfl) (Or.inr rfl) ?_
  refine gsGetE (sg k2 2) dM_53_2 hk2.2.1 rfl rfl rfl ?_
  refine gs0 6 [(0, .inr (.inr (some k))), (1, .inr (.inr (some k2)))] [.inl 0, .inl (sg k2 2), .inr (.inr (some k))] dM_53_5 (fun _ => rfl) (Or.inr rfl) ?_
  refine gs0 9 [(0, .inr (.inr (some k))), (1, .inr (.inr (some k2)))] [.inl (imax (sg k2 2) 0), .inr (.inr (some k))] dM_53_6 (fun _ => rfl) (Or.inr rfl) ?_
  refine gs0 11 [(0, .inr (.inr (some k))), (1, .inr (.inr (some k2)))] [.inl 64, .inl (imax (sg k2 2) 0), .inr (.inr (some k))] dM_53_9 (fun _ => rfl) (Or.inr rfl) ?_
  refine gs0 14 [(0, .inr (.inr (some k))), (1, .inr (.inr (some k2)))] [.inl (imin (imax (sg k2 2) 0) 64), .inr (.inr (some k))] dM_53_11 (fun _ => rfl) (Or.inr rfl) ?_
  refine gsPut dM_53_14 hk.2.1 rfl rfl rfl (by decide) ?_
  refine gs0 18 [(0, .inr (.inr (some k))), (1, .inr (.inr (some k2)))] [.inr (.inr (some k))] dM_53_17 (fun _ => rfl) (Or.inr rfl) ?_
  refine gs0 19 [(0, .inr (.inr (some k))), (1, .inr (.inr (some k2)))] [.inr (.inr (some k2)), .inr (.inr (some k))] dM_53_18 (fun _ => rfl) (Or.inr rfl) ?_
  refine gsGetE (sg k2 3) dM_53_19 hk2.2.1 rfl rfl (congrFun (up2_nk _ _ _ (by omega)) _) ?_
  refine gs0 23 [(0, .inr (.inr (some k))), (1, .inr (.inr (some k2)))] [.inl 0, .inl (sg k2 3), .inr (.inr (some k))] dM_53_22 (fun _ => rfl) (Or.inr rfl) ?_
  refine gs0 26 [(0, .inr (.inr (some k))), (1, .inr (.inr (some k2)))] [.inl (imax (sg k2 3) 0), .inr (.inr (some k))] dM_53_23 (fun _ => rfl) (Or.inr rfl) ?_
  refine gs0 28 [(0, .inr (.inr (some k))), (1, .inr (.inr (some k2)))] [.inl 32, .inl (imax (sg k2 3) 0), .inr (.inr (some k))] dM_53_26 (fun _ => rfl) (Or.inr rfl) ?_
  refine gs0 31 [(0, .inr (.inr (some k))), (1, .inr (.inr (some k2)))] [.inl (imin (imax (sg k2 3) 0) 32), .inr (.inr (some k))] dM_53_28 (fun _ => rfl) (Or.inr rfl) ?_
  refine gsPut dM_53_31 hk.2.1 rfl rfl rfl (by decide) ?_
  refine gs0 35 [(0, .inr (.inr (some k))), (1, .inr (.inr (some k2)))] [.inr (.inr (some k))] dM_53_34 (fun _ => rfl) (Or.inr rfl) ?_
  refine gs0 36 [(0, .inr (.inr (some k))), (1, .inr (.inr (some k2)))] [.inr (.inr (some k2)), .inr (.inr (some k))] dM_53_35 (fun _ => rfl) (Or.inr rfl) ?_
  refine gsGetE (sg k2 4) dM_53_36 hk2.2.1 rfl rfl ((congrFun (up2_nk _ _ _ (by omega)) _).trans (congrFun (up2_nk _ _ _ (by omega)) _)) ?_
  refine gsPut dM_53_39 hk.2.1 rfl rfl rfl (by decide) ?_
  refine gs0 43 [(0, .inr (.inr (some k))), (1, .inr (.inr (some k2)))] [.inr (.inr (some k2))] dM_53_42 (fun _ => rfl) (Or.inr rfl) ?_
  refine gsGetR (some (k2 + 1)) dM_53_43 hk2.2.1 rfl rfl ?_
  refine gs0 47 [(0, .inr (.inr (some k))), (1, .inr (.inr (some k2)))] [.inl 0, .inr (.inr (some (k2 + 1)))] dM_53_46 (fun _ => rfl) (Or.inr rfl) ?_
  refine gs0 48 [(0, .inr (.inr (some k))), (1, .inr (.inr (some k2)))] [.inr (.inr (some k)), .inl 0, .inr (.inr (some (k2 + 1)))] dM_53_47 (fun _ => rfl) (Or.inr rfl) ?_
  refine gsGetR (some (k + 1)) dM_53_48 hk.2.1 rfl rfl ?_
  refine gs0 52 [(0, .inr (.inr (some k))), (1, .inr (.inr (some k2)))] [.inl 0, .inr (.inr (some (k + 1))), .inl 0, .inr (.inr (some (k2 + 1)))] dM_53_51 (fun _ => rfl) (Or.inr rfl) ?_
  refine gs0 53 [(0, .inr (.inr (some k))), (1, .inr (.inr (some k2)))] [.inr (.inr (some k)), .inl 0, .inr (.inr (some (k + 1))), .inl 0, .inr (.inr (some (k2 + 1)))] dM_53_52 (fun _ => rfl) (Or.inr rfl) ?_
  refine gsGetE (imin (imax (sg k2 2) 0) 64) dM_53_53 hk.2.1 rfl rfl ((up2_nj _ _ _ (by decide)).trans ((up2_nj _ _ _ (by decide)).trans (up2_same _ _ _ _))) ?_
  refine gsCopy dM_53_56 rfl (Nat.le_of_ble_eq_true rfl) hk2.2.2.1 hk.2.2.1 h.1 ?_
  replace h := h.2
  refine gs0 60 [(0, .inr (.inr (some k))), (1, .inr (.inr (some k2)))] [.inr (.inr (some k2))] dM_53_59 (fun _ => rfl) (Or.inr rfl) ?_
  refine gsGetR (some (k2 + 2)) dM_53_60 hk2.2.1 rfl rfl ?_
  refine gs0 64 [(0, .inr (.inr (some k))), (1, .inr (.inr (some k2)))] [.inl 0, .inr (.inr (some (k2 + 2)))] dM_53_63 (fun _ => rfl) (Or.inr rfl) ?_
  refine gs0 65 [(0, .inr (.inr (some k))), (1, .inr (.inr (some k2)))] [.inr (.inr (some k)), .inl 0, .inr (.inr (some (k2 + 2)))] dM_53_64 (fun _ => rfl) (Or.inr rfl) ?_
  refine gsGetR (some (k + 2)) dM_53_65 hk.2.1 rfl rfl ?_
  refine gs0 69 [(0, .inr (.inr (some k))), (1, .inr (.inr (some k2)))] [.inl 0, .inr (.inr (some (k + 2))), .inl 0, .inr (.inr (some (k2 + 2)))] dM_53_68 (fun _ => rfl) (Or.inr rfl) ?_
  refine gs0 70 [(0, .inr (.inr (some k))), (1, .inr (.inr (some k2)))] [.inr (.inr (some k)), .inl 0, .inr (.inr (some (k + 2))), .inl 0, .inr (.inr (some (k2 + 2)))] dM_53_69 (fun _ => rfl) (Or.inr rfl) ?_
  refine gsGetE (imin (imax (sg k2 3) 0) 32) dM_53_70 hk.2.1 rfl rfl ((congrFun (upC_ne _ _ (by omega)) _).trans ((up2_nj _ _ _ (by decide)).trans (up2_same _ _ _ _))) ?_
  refine gsCopy dM_53_73 rfl (Nat.le_of_ble_eq_true rfl) hk2.2.2.2 hk.2.2.2 h.1 ?_
  replace h := h.2
  refine gsRet (r := none) dM_53_76 (fun _ => rfl) (Or.inr rfl) ?_
  exact h
set_option maxRecDepth 100000 in
/-- GoalsInAQueue$Search.waitingAt -/
theorem wS_35 {Sk : List rSk} (sg : rSg) (b : Nat) (hb : isSeaS Sk b) (x1 : Int32) {P : Option rv → rSg → Prop} (h :
    ((irem ((sg b 7) + x1) 40) < 0 → 
      P (some (.inr (.inr (some (b + 218))))) sg) ∧
    (¬ ((irem ((sg b 7) + x1) 40) < 0) → 
      (40 ≤ (irem ((sg b 7) + x1) 40) → 
        P (some (.inr (.inr (some (b + 218))))) sg) ∧
      (¬ (40 ≤ (irem ((sg b 7) + x1) 40)) → 
        (rIn (irem ((sg b 7) + x1) 40) 40 = true ∧
        ∃ q3, (fun i => if i < 40 then some (b + 6 + 3 * i) else none) (irem ((sg b 7) + x1) 40).toNatClampNeg = some q3 ∧ isStS Sk q3 ∧
          P (some (.inr (.inr (some q3)))) sg)))) : EvS Sk 1 35 [.inr (.inr (some b)), .inl x1] sg P := by
  refine EvS.of (ini := false) rfl ⟨rfl, Nat.le_of_ble_eq_true rfl⟩ rfl ?_
  show GoS Sk 0 4 4 (some (.object "GoalsInAQueue$State")) false prog_6_method_8_code 0 [(0, .inr (.inr (some b))), (1, .inl x1)] [] sg _
  have b_b := hb.1
  refine gs0 1 [(0, .inr (.inr (some b))), (1, .inl x1)] [.inr (.inr (some b))] dM_35_0 (fun _ => rfl) (Or.inr rfl) ?_
  refine gsGetE (sg b 7) dM_35_1 hb.2.1 rfl rfl rfl ?_
  refine gs0 5 [(0, .inr (.inr (some b))), (1, .inl x1)] [.inl x1, .inl (sg b 7)] dM_35_4 (fun _ => rfl) (Or.inr rfl) ?_
  refine gs0 6 [(0, .inr (.inr (some b))), (1, .inl x1)] [.inl ((sg b 7) + x1)] dM_35_5 (fun _ => rfl) (Or.inr rfl) ?_
  refine gs0 8 [(0, .inr (.inr (some b))), (1, .inl x1)] [.inl 40, .inl ((sg b 7) + x1)] dM_35_6 (fun _ => rfl) (Or.inr rfl) ?_
  refine gs0 9 [(0, .inr (.inr (some b))), (1, .inl x1)] [.inl (irem ((sg b 7) + x1) 40)] dM_35_8 (fun _ => rfl) (Or.inr rfl) ?_
  refine gs0 10 [(2, .inl (irem ((sg b 7) + x1) 40)), (0, .inr (.inr (some b))), (1, .inl x1)] [] dM_35_9 (fun _ => rfl) (Or.inr rfl) ?_
  refine gs0 11 [(2, .inl (irem ((sg b 7) + x1) 40)), (0, .inr (.inr (some b))), (1, .inl x1)] [.inl (irem ((sg b 7) + x1) 40)] dM_35_10 (fun _ => rfl) (Or.inr rfl) ?_
  refine gsIf (t := 29) (C := (irem ((sg b 7) + x1) 40) < 0) (r := []) dM_35_11 (fun _ => rfl) (Or.inr rfl) (rTest_iff .lt (irem ((sg b 7) + x1) 40) 0) (fun c1 => ?_) (fun c1 => ?_)
  · replace h := h.1 c1
    refine gs0 30 [(2, .inl (irem ((sg b 7) + x1) 40)), (0, .inr (.inr (some b))), (1, .inl x1)] [.inr (.inr (some b))] dM_35_29 (fun _ => rfl) (Or.inr rfl) ?_
    refine gsGetR (some (b + 218)) dM_35_30 hb.2.1 rfl rfl ?_
    refine gs0 34 [(3, .inr (.inr (some (b + 218)))), (2, .inl (irem ((sg b 7) + x1) 40)), (0, .inr (.inr (some b))), (1, .inl x1)] [] dM_35_33 (fun _ => rfl) (Or.inr rfl) ?_
    refine gs0 35 [(3, .inr (.inr (some (b + 218)))), (2, .inl (irem ((sg b 7) + x1) 40)), (0, .inr (.inr (some b))), (1, .inl x1)] [.inr (.inr (some (b + 218)))] dM_35_34 (fun _ => rfl) (Or.inr rfl) ?_
    refine gs0 45 [(3, .inr (.inr (some (b + 218)))), (2, .inl (irem ((sg b 7) + x1) 40)), (0, .inr (.inr (some b))), (1, .inl x1)] [] dM_35_35 (fun _ => rfl) (Or.inr rfl) ?_
    refine gs0 46 [(3, .inr (.inr (some (b + 218)))), (2, .inl (irem ((sg b 7) + x1) 40)), (0, .inr (.inr (some b))), (1, .inl x1)] [.inr (.inr (some (b + 218)))] dM_35_45 (fun _ => rfl) (Or.inr rfl) ?_
    refine gsRet (r := some (.inr (.inr (some (b + 218))))) dM_35_46 (fun _ => rfl) (Or.inr rfl) ?_
    exact h
  · replace h := h.2 c1
    refine gs0 15 [(2, .inl (irem ((sg b 7) + x1) 40)), (0, .inr (.inr (some b))), (1, .inl x1)] [.inl (irem ((sg b 7) + x1) 40)] dM_35_14 (fun _ => rfl) (Or.inr rfl) ?_
    refine gs0 17 [(2, .inl (irem ((sg b 7) + x1) 40)), (0, .inr (.inr (some b))), (1, .inl x1)] [.inl 40, .inl (irem ((sg b 7) + x1) 40)] dM_35_15 (fun _ => rfl) (Or.inr rfl) ?_
    refine gsIf (t := 29) (C := 40 ≤ (irem ((sg b 7) + x1) 40)) (r := []) dM_35_17 (fun _ => rfl) (Or.inr rfl) (rTest_iff .ge (irem ((sg b 7) + x1) 40) 40) (fun c2 => ?_) (fun c2 => ?_)
    · replace h := h.1 c2
      refine gs0 30 [(2, .inl (irem ((sg b 7) + x1) 40)), (0, .inr (.inr (some b))), (1, .inl x1)] [.inr (.inr (some b))] dM_35_29 (fun _ => rfl) (Or.inr rfl) ?_
      refine gsGetR (some (b + 218)) dM_35_30 hb.2.1 rfl rfl ?_
      refine gs0 34 [(3, .inr (.inr (some (b + 218)))), (2, .inl (irem ((sg b 7) + x1) 40)), (0, .inr (.inr (some b))), (1, .inl x1)] [] dM_35_33 (fun _ => rfl) (Or.inr rfl) ?_
      refine gs0 35 [(3, .inr (.inr (some (b + 218)))), (2, .inl (irem ((sg b 7) + x1) 40)), (0, .inr (.inr (some b))), (1, .inl x1)] [.inr (.inr (some (b + 218)))] dM_35_34 (fun _ => rfl) (Or.inr rfl) ?_
      refine gs0 45 [(3, .inr (.inr (some (b + 218)))), (2, .inl (irem ((sg b 7) + x1) 40)), (0, .inr (.inr (some b))), (1, .inl x1)] [] dM_35_35 (fun _ => rfl) (Or.inr rfl) ?_
      refine gs0 46 [(3, .inr (.inr (some (b + 218)))), (2, .inl (irem ((sg b 7) + x1) 40)), (0, .inr (.inr (some b))), (1, .inl x1)] [.inr (.inr (some (b + 218)))] dM_35_45 (fun _ => rfl) (Or.inr rfl) ?_
      refine gsRet (r := some (.inr (.inr (some (b + 218))))) dM_35_46 (fun _ => rfl) (Or.inr rfl) ?_
      exact h
    · replace h := h.2 c2
      refine gs0 21 [(2, .inl (irem ((sg b 7) + x1) 40)), (0, .inr (.inr (some b))), (1, .inl x1)] [.inr (.inr (some b))] dM_35_20 (fun _ => rfl) (Or.inr rfl) ?_
      refine gsGetR (some (b + 5)) dM_35_21 hb.2.1 rfl rfl ?_
      refine gs0 25 [(2, .inl (irem ((sg b 7) + x1) 40)), (0, .inr (.inr (some b))), (1, .inl x1)] [.inl (irem ((sg b 7) + x1) 40), .inr (.inr (some (b + 5)))] dM_35_24 (fun _ => rfl) (Or.inr rfl) ?_
      obtain ⟨hinhq4, q3, hehq4, hq4, h⟩ := h
      refine gsAaldN q3 dM_35_25 hb.2.2.1 hinhq4 hehq4 ?_
      have b_q3 := hq4.1
      refine gs0 33 [(2, .inl (irem ((sg b 7) + x1) 40)), (0, .inr (.inr (some b))), (1, .inl x1)] [.inr (.inr (some q3))] dM_35_26 (fun _ => rfl) (Or.inr rfl) ?_
      refine gs0 34 [(3, .inr (.inr (some q3))), (2, .inl (irem ((sg b 7) + x1) 40)), (0, .inr (.inr (some b))), (1, .inl x1)] [] dM_35_33 (fun _ => rfl) (Or.inr rfl) ?_
      refine gs0 35 [(3, .inr (.inr (some q3))), (2, .inl (irem ((sg b 7) + x1) 40)), (0, .inr (.inr (some b))), (1, .inl x1)] [.inr (.inr (some q3))] dM_35_34 (fun _ => rfl) (Or.inr rfl) ?_
      refine gs0 45 [(3, .inr (.inr (some q3))), (2, .inl (irem ((sg b 7) + x1) 40)), (0, .inr (.inr (some b))), (1, .inl x1)] [] dM_35_35 (fun _ => rfl) (Or.inr rfl) ?_
      refine gs0 46 [(3, .inr (.inr (some q3))), (2, .inl (irem ((sg b 7) + x1) 40)), (0, .inr (.inr (some b))), (1, .inl x1)] [.inr (.inr (some q3))] dM_35_45 (fun _ => rfl) (Or.inr rfl) ?_
      refine gsRet (r := some (.inr (.inr (some q3)))) dM_35_46 (fun _ => rfl) (Or.inr rfl) ?_
      exact h
set_option maxRecDepth 100000 in
/-- GoalsInAQueue$Search.enqueue -/
theorem wS_34 {Sk : List rSk} (sg : rSg) (b : Nat) (hb : isSeaS Sk b) (k : Nat) (hk : isStS Sk k) {P : Option rv → rSg → Prop} (h :
    (60 < (sg k 2) → 
      P none (up2 sg b 11 ((sg b 11) + 1))) ∧
    (¬ (60 < (sg k 2)) → 
      ((sg b 8) < 40 → 
        EvS Sk 1 35 [.inr (.inr (some b)), .inl (sg b 8)] sg (fun v3 t4 => ∃ q6, v3 = some (.inr (.inr (some q6))) ∧ isStS Sk q6 ∧
          EvS Sk 1 53 [.inr (.inr (some q6)), .inr (.inr (some k))] t4 (fun v8 t9 => v8 = none ∧
            P none (up2 t9 b 8 ((t9 b 8) + 1))))) ∧
      (¬ ((sg b 8) < 40) → 
        P none (up2 sg b 11 ((sg b 11) + 1))))) : EvS Sk 2 34 [.inr (.inr (some b)), .inr (.inr (some k))] sg P := by
  refine EvS.of (ini := false) rfl ⟨rfl, Nat.le_of_ble_eq_true rfl⟩ rfl ?_
  show GoS Sk 1 4 2 none false prog_6_method_18_code 0 [(0, .inr (.inr (some b))), (1, .inr (.inr (some k)))] [] sg _
  have b_b := hb.1
  have b_k := hk.1
  refine gs0 1 [(0, .inr (.inr (some b))), (1, .inr (.inr (some k)))] [.inr (.inr (some k))] dM_34_0 (fun _ => rfl) (Or.inr rfl) ?_
  refine gsGetE (sg k 2) dM_34_1 hk.2.1 rfl rfl rfl ?_
  refine gs0 6 [(0, .inr (.inr (some b))), (1, .inr (.inr (some k)))] [.inl 60, .inl (sg k 2)] dM_34_4 (fun _ => rfl) (Or.inr rfl) ?_
  refine gsIf (t := 18) (C := 60 < (sg k 2)) (r := []) dM_34_6 (fun _ => rfl) (Or.inr rfl) (rTest_iff .gt (sg k 2) 60) (fun c1 => ?_) (fun c1 => ?_)
  · replace h := h.1 c1
    refine gs0 19 [(0, .inr (.inr (some b))), (1, .inr (.inr (some k)))] [.inr (.inr (some b))] dM_34_18 (fun _ => rfl) (Or.inr rfl) ?_
    refine gs0 20 [(0, .inr (.inr (some b))), (1, .inr (.inr (some k)))] [.inr (.inr (some b)), .inr (.inr (some b))] dM_34_19 (fun _ => rfl) (Or.inr rfl) ?_
    refine gsGetE (sg b 11) dM_34_20 hb.2.1 rfl rfl rfl ?_
    refine gs0 24 [(0, .inr (.inr (some b))), (1, .inr (.inr (some k)))] [.inl 1, .inl (sg b 11), .inr (.inr (some b))] dM_34_23 (fun _ => rfl) (Or.inr rfl) ?_
    refine gs0 25 [(0, .inr (.inr (some b))), (1, .inr (.inr (some k)))] [.inl ((sg b 11) + 1), .inr (.inr (some b))] dM_34_24 (fun _ => rfl) (Or.inr rfl) ?_
    refine gsPut dM_34_25 hb.2.1 rfl rfl rfl (by decide) ?_
    refine gs0 53 [(0, .inr (.inr (some b))), (1, .inr (.inr (some k)))] [] dM_34_28 (fun _ => rfl) (Or.inr rfl) ?_
    refine gsRet (r := none) dM_34_53 (fun _ => rfl) (Or.inr rfl) ?_
    exact h
  · replace h := h.2 c1
    refine gs0 10 [(0, .inr (.inr (some b))), (1, .inr (.inr (some k)))] [.inr (.inr (some b))] dM_34_9 (fun _ => rfl) (Or.inr rfl) ?_
    refine gsGetE (sg b 8) dM_34_10 hb.2.1 rfl rfl rfl ?_
    refine gs0 15 [(0, .inr (.inr (some b))), (1, .inr (.inr (some k)))] [.inl 40, .inl (sg b 8)] dM_34_13 (fun _ => rfl) (Or.inr rfl) ?_
    refine gsIf (t := 31) (C := (sg b 8) < 40) (r := []) dM_34_15 (fun _ => rfl) (Or.inr rfl) (rTest_iff .lt (sg b 8) 40) (fun c2 => ?_) (fun c2 => ?_)
    · replace h := h.1 c2
      refine gs0 32 [(0, .inr (.inr (some b))), (1, .inr (.inr (some k)))] [.inr (.inr (some b))] dM_34_31 (fun _ => rfl) (Or.inr rfl) ?_
      refine gs0 33 [(0, .inr (.inr (some b))), (1, .inr (.inr (some k)))] [.inr (.inr (some b)), .inr (.inr (some b))] dM_34_32 (fun _ => rfl) (Or.inr rfl) ?_
      refine gsGetE (sg b 8) dM_34_33 hb.2.1 rfl rfl rfl ?_
      refine gsCallV (y := 35) (k := b) (as := [.inr (.inr (some b)), .inl (sg b 8)]) (r := []) dM_34_36 rfl rfl rfl (Nat.le_of_ble_eq_true rfl) hb.2.1 rfl (Nat.le_of_ble_eq_true rfl) (EvS.up h (Nat.le_of_ble_eq_true rfl)) (fun v3 t4 hv5 => ?_)
      obtain ⟨q6, rfl, hq7, hn⟩ := hv5
      have b_q6 := hq7.1
      clear h
      show GoS _ _ _ _ _ _ _ _ [(0, .inr (.inr (some b))), (1, .inr (.inr (some k)))] [.inr (.inr (some q6))] t4 _
      refine gs0 40 [(0, .inr (.inr (some b))), (1, .inr (.inr (some k)))] [.inr (.inr (some k)), .inr (.inr (some q6))] dM_34_39 (fun _ => rfl) (Or.inr rfl) ?_
      refine gsCallV (y := 53) (k := q6) (as := [.inr (.inr (some q6)), .inr (.inr (some k))]) (r := []) dM_34_40 rfl rfl rfl (Nat.le_of_ble_eq_true rfl) hq7.2.1 rfl (Nat.le_of_ble_eq_true rfl) (EvS.up hn (Nat.le_of_ble_eq_true rfl)) (fun v8 t9 hv10 => ?_)
      obtain ⟨rfl, hnn⟩ := hv10
      clear hn
      show GoS _ _ _ _ _ _ _ _ [(0, .inr (.inr (some b))), (1, .inr (.inr (some k)))] [] t9 _
      refine gs0 44 [(0, .inr (.inr (some b))), (1, .inr (.inr (some k)))] [.inr (.inr (some b))] dM_34_43 (fun _ => rfl) (Or.inr rfl) ?_
      refine gs0 45 [(0, .inr (.inr (some b))), (1, .inr (.inr (some k)))] [.inr (.inr (some b)), .inr (.inr (some b))] dM_34_44 (fun _ => rfl) (Or.inr rfl) ?_
      refine gsGetE (t9 b 8) dM_34_45 hb.2.1 rfl rfl rfl ?_
      refine gs0 49 [(0, .inr (.inr (some b))), (1, .inr (.inr (some k)))] [.inl 1, .inl (t9 b 8), .inr (.inr (some b))] dM_34_48 (fun _ => rfl) (Or.inr rfl) ?_
      refine gs0 50 [(0, .inr (.inr (some b))), (1, .inr (.inr (some k)))] [.inl ((t9 b 8) + 1), .inr (.inr (some b))] dM_34_49 (fun _ => rfl) (Or.inr rfl) ?_
      refine gsPut dM_34_50 hb.2.1 rfl rfl rfl (by decide) ?_
      refine gsRet (r := none) dM_34_53 (fun _ => rfl) (Or.inr rfl) ?_
      exact hnn
    · replace h := h.2 c2
      refine gs0 19 [(0, .inr (.inr (some b))), (1, .inr (.inr (some k)))] [.inr (.inr (some b))] dM_34_18 (fun _ => rfl) (Or.inr rfl) ?_
      refine gs0 20 [(0, .inr (.inr (some b))), (1, .inr (.inr (some k)))] [.inr (.inr (some b)), .inr (.inr (some b))] dM_34_19 (fun _ => rfl) (Or.inr rfl) ?_
      refine gsGetE (sg b 11) dM_34_20 hb.2.1 rfl rfl rfl ?_
      refine gs0 24 [(0, .inr (.inr (some b))), (1, .inr (.inr (some k)))] [.inl 1, .inl (sg b 11), .inr (.inr (some b))] dM_34_23 (fun _ => rfl) (Or.inr rfl) ?_
      refine gs0 25 [(0, .inr (.inr (some b))), (1, .inr (.inr (some k)))] [.inl ((sg b 11) + 1), .inr (.inr (some b))] dM_34_24 (fun _ => rfl) (Or.inr rfl) ?_
      refine gsPut dM_34_25 hb.2.1 rfl rfl rfl (by decide) ?_
      refine gs0 53 [(0, .inr (.inr (some b))), (1, .inr (.inr (some k)))] [] dM_34_28 (fun _ => rfl) (Or.inr rfl) ?_
      refine gsRet (r := none) dM_34_53 (fun _ => rfl) (Or.inr rfl) ?_
      exact h
set_option maxRecDepth 100000 in
/-- GoalsInAQueue$Search.begin -/
theorem wS_33 {Sk : List rSk} (sg : rSg) (b : Nat) (hb : isSeaS Sk b) {P : Option rv → rSg → Prop} (h :
    EvS Sk 2 51 [.inr (.inr (some (b + 218)))] (up2 (up2 (up2 (up2 (up2 (up2 sg b 7 0) b 8 0) b 9 0) b 10 0) b 11 0) b 12 1) (fun v1 t2 => v1 = none ∧
      EvS Sk 1 52 [.inr (.inr (some (b + 218))), .inl (t2 (b + 1) 5)] t2 (fun v4 t5 => v4 = none ∧
        EvS Sk 2 34 [.inr (.inr (some b)), .inr (.inr (some (b + 218)))] t5 (fun v7 t8 => v7 = none ∧
          P none t8)))) : EvS Sk 3 33 [.inr (.inr (some b))] sg P := by
  refine EvS.of (ini := false) rfl ⟨rfl, Nat.le_of_ble_eq_true rfl⟩ rfl ?_
  show GoS Sk 2 4 1 none false prog_6_method_2_code 0 [(0, .inr (.inr (some b)))] [] sg _
  have b_b := hb.1
  refine gs0 1 [(0, .inr (.inr (some b)))] [.inr (.inr (some b))] dM_33_0 (fun _ => rfl) (Or.inr rfl) ?_
  refine gs0 2 [(0, .inr (.inr (some b)))] [.inl 0, .inr (.inr (some b))] dM_33_1 (fun _ => rfl) (Or.inr rfl) ?_
  refine gsPut dM_33_2 hb.2.1 rfl rfl rfl (by decide) ?_
  refine gs0 6 [(0, .inr (.inr (some b)))] [.inr (.inr (some b))] dM_33_5 (fun _ => rfl) (Or.inr rfl) ?_
  refine gs0 7 [(0, .inr (.inr (some b)))] [.inl 0, .inr (.inr (some b))] dM_33_6 (fun _ => rfl) (Or.inr rfl) ?_
  refine gsPut dM_33_7 hb.2.1 rfl rfl rfl (by decide) ?_
  refine gs0 11 [(0, .inr (.inr (some b)))] [.inr (.inr (some b))] dM_33_10 (fun _ => rfl) (Or.inr rfl) ?_
  refine gs0 12 [(0, .inr (.inr (some b)))] [.inl 0, .inr (.inr (some b))] dM_33_11 (fun _ => rfl) (Or.inr rfl) ?_
  refine gsPut dM_33_12 hb.2.1 rfl rfl rfl (by decide) ?_
  refine gs0 16 [(0, .inr (.inr (some b)))] [.inr (.inr (some b))] dM_33_15 (fun _ => rfl) (Or.inr rfl) ?_
  refine gs0 17 [(0, .inr (.inr (some b)))] [.inl 0, .inr (.inr (some b))] dM_33_16 (fun _ => rfl) (Or.inr rfl) ?_
  refine gsPut dM_33_17 hb.2.1 rfl rfl rfl (by decide) ?_
  refine gs0 21 [(0, .inr (.inr (some b)))] [.inr (.inr (some b))] dM_33_20 (fun _ => rfl) (Or.inr rfl) ?_
  refine gs0 22 [(0, .inr (.inr (some b)))] [.inl 0, .inr (.inr (some b))] dM_33_21 (fun _ => rfl) (Or.inr rfl) ?_
  refine gsPut dM_33_22 hb.2.1 rfl rfl rfl (by decide) ?_
  refine gs0 26 [(0, .inr (.inr (some b)))] [.inr (.inr (some b))] dM_33_25 (fun _ => rfl) (Or.inr rfl) ?_
  refine gs0 27 [(0, .inr (.inr (some b)))] [.inl 1, .inr (.inr (some b))] dM_33_26 (fun _ => rfl) (Or.inr rfl) ?_
  refine gsPut dM_33_27 hb.2.1 rfl rfl rfl (by decide) ?_
  refine gs0 31 [(0, .inr (.inr (some b)))] [.inr (.inr (some b))] dM_33_30 (fun _ => rfl) (Or.inr rfl) ?_
  refine gsGetR (some (b + 218)) dM_33_31 hb.2.1 rfl rfl ?_
  refine gsCallV (y := 51) (k := b + 218) (as := [.inr (.inr (some (b + 218)))]) (r := []) dM_33_34 rfl rfl rfl (Nat.le_of_ble_eq_true rfl) hb.2.2.2.2.2.2.1.2.1 rfl (Nat.le_of_ble_eq_true rfl) (EvS.up h (Nat.le_of_ble_eq_true rfl)) (fun v1 t2 hv3 => ?_)
  obtain ⟨rfl, hn⟩ := hv3
  clear h
  show GoS _ _ _ _ _ _ _ _ [(0, .inr (.inr (some b)))] [] t2 _
  refine gs0 38 [(0, .inr (.inr (some b)))] [.inr (.inr (some b))] dM_33_37 (fun _ => rfl) (Or.inr rfl) ?_
  refine gsGetR (some (b + 218)) dM_33_38 hb.2.1 rfl rfl ?_
  refine gs0 42 [(0, .inr (.inr (some b)))] [.inr (.inr (some b)), .inr (.inr (some (b + 218)))] dM_33_41 (fun _ => rfl) (Or.inr rfl) ?_
  refine gsGetR (some (b + 1)) dM_33_42 hb.2.1 rfl rfl ?_
  refine gsGetE (t2 (b + 1) 5) dM_33_45 hb.2.2.2.2.2.1.2.1 rfl rfl rfl ?_
  refine gsCallV (y := 52) (k := b + 218) (as := [.inr (.inr (some (b + 218))), .inl (t2 (b + 1) 5)]) (r := []) dM_33_48 rfl rfl rfl (Nat.le_of_ble_eq_true rfl) hb.2.2.2.2.2.2.1.2.1 rfl (Nat.le_of_ble_eq_true rfl) (EvS.up hn (Nat.le_of_ble_eq_true rfl)) (fun v4 t5 hv6 => ?_)
  obtain ⟨rfl, hnn⟩ := hv6
  clear hn
  show GoS _ _ _ _ _ _ _ _ [(0, .inr (.inr (some b)))] [] t5 _
  refine gs0 52 [(0, .inr (.inr (some b)))] [.inr (.inr (some b))] dM_33_51 (fun _ => rfl) (Or.inr rfl) ?_
  refine gs0 53 [(0, .inr (.inr (some b)))] [.inr (.inr (some b)), .inr (.inr (some b))] dM_33_52 (fun _ => rfl) (Or.inr rfl) ?_
  refine gsGetR (some (b + 218)) dM_33_53 hb.2.1 rfl rfl ?_
  refine gsCallV (y := 34) (k := b) (as := [.inr (.inr (some b)), .inr (.inr (some (b + 218)))]) (r := []) dM_33_56 rfl rfl rfl (Nat.le_of_ble_eq_true rfl) hb.2.1 rfl (Nat.le_of_ble_eq_true rfl) (EvS.up hnn (Nat.le_of_ble_eq_true rfl)) (fun v7 t8 hv9 => ?_)
  obtain ⟨rfl, hnnn⟩ := hv9
  clear hnn
  show GoS _ _ _ _ _ _ _ _ [(0, .inr (.inr (some b)))] [] t8 _
  refine gsRet (r := none) dM_33_59 (fun _ => rfl) (Or.inr rfl) ?_
  exact hnnn
