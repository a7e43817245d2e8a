/-! SAFETY OF THE CLASS: meet, lots, the reader, goal, letter -/
theorem wn_94_10 (sg : rSg) (k : Nat) (hk : isSt k) (k2 : Nat) (hk2 : isSt k2) (y3 : Int32) {P : Option rv → rSg → Prop} (h :
    (64 ≤ y3 → 
      g_94_44 k k2 0 sg P) ∧
    (¬ (64 ≤ y3) → 
      ((sg k 2) ≤ y3 → 
        g_94_44 k k2 0 sg P) ∧
      (¬ ((sg k 2) ≤ y3) → 
        (rIn y3 64 = true ∧
        rIn y3 128 = true ∧
        g_94_10 k k2 (y3 + 1) (up2 sg 692 y3.toNatClampNeg (sg (k + 1) y3.toNatClampNeg)) P)))) : g_94_10 k k2 y3 sg P := by
  show GoS rSkel 1 8 4 none false prog_1_method_36_code 10 [(0, .inr (.inr (some 0))), (1, .inr (.inr (some k))), (2, .inr (.inr (some k2))), (3, .inl y3)] [] sg P
  have b_k := hk.1
  have b_k2 := hk2.1
  refine gs0 11 [(0, .inr (.inr (some 0))), (1, .inr (.inr (some k))), (2, .inr (.inr (some k2))), (3, .inl y3)] [.inl y3] dM_94_10 (fun _ => rfl) (Or.inr rfl) ?_
  refine gs0 13 [(0, .inr (.inr (some 0))), (1, .inr (.inr (some k))), (2, .inr (.inr (some k2))), (3, .inl y3)] [.inl 64, .inl y3] dM_94_11 (fun _ => rfl) (Or.inr rfl) ?_
  refine gsIf (t := 42) (C := 64 ≤ y3) (r := []) dM_94_13 (fun _ => rfl) (Or.inr rfl) (rTest_iff .ge y3 64) (fun c4 => ?_) (fun c4 => ?_)
  · replace h := h.1 c4
    refine gs0 43 [(0, .inr (.inr (some 0))), (1, .inr (.inr (some k))), (2, .inr (.inr (some k2))), (3, .inl y3)] [.inl 0] dM_94_42 (fun _ => rfl) (Or.inr rfl) ?_
    refine gs0 44 [(3, .inl 0), (0, .inr (.inr (some 0))), (1, .inr (.inr (some k))), (2, .inr (.inr (some k2)))] [] dM_94_43 (fun _ => rfl) (Or.inr rfl) ?_
    exact GoS.sub (Lnd_keys (ks := [0, 2, 3]) rfl (by decide)) (Lsub_cons rfl (Lsub_cons rfl (Lsub_cons rfl Lsub_nil))) h
  · replace h := h.2 c4
    refine gs0 17 [(0, .inr (.inr (some 0))), (1, .inr (.inr (some k))), (2, .inr (.inr (some k2))), (3, .inl y3)] [.inl y3] dM_94_16 (fun _ => rfl) (Or.inr rfl) ?_
    refine gs0 18 [(0, .inr (.inr (some 0))), (1, .inr (.inr (some k))), (2, .inr (.inr (some k2))), (3, .inl y3)] [.inr (.inr (some k)), .inl y3] dM_94_17 (fun _ => rfl) (Or.inr rfl) ?_
    refine gsGetE (sg k 2) dM_94_18 hk.2.1 rfl rfl rfl ?_
    refine gsIf (t := 42) (C := (sg k 2) ≤ y3) (r := []) dM_94_21 (fun _ => rfl) (Or.inr rfl) (rTest_iff .ge y3 (sg k 2)) (fun c5 => ?_) (fun c5 => ?_)
    · replace h := h.1 c5
      refine gs0 43 [(0, .inr (.inr (some 0))), (1, .inr (.inr (some k))), (2, .inr (.inr (some k2))), (3, .inl y3)] [.inl 0] dM_94_42 (fun _ => rfl) (Or.inr rfl) ?_
      refine gs0 44 [(3, .inl 0), (0, .inr (.inr (some 0))), (1, .inr (.inr (some k))), (2, .inr (.inr (some k2)))] [] dM_94_43 (fun _ => rfl) (Or.inr rfl) ?_
      exact GoS.sub (Lnd_keys (ks := [0, 2, 3]) rfl (by decide)) (Lsub_cons rfl (Lsub_cons rfl (Lsub_cons rfl Lsub_nil))) h
    · replace h := h.2 c5
      refine gs0 25 [(0, .inr (.inr (some 0))), (1, .inr (.inr (some k))), (2, .inr (.inr (some k2))), (3, .inl y3)] [.inr (.inr (some 0))] dM_94_24 (fun _ => rfl) (Or.inr rfl) ?_
      refine gsGetR (some 692) dM_94_25 sk_0 rfl rfl ?_
      refine gs0 29 [(0, .inr (.inr (some 0))), (1, .inr (.inr (some k))), (2, .inr (.inr (some k2))), (3, .inl y3)] [.inl y3, .inr (.inr (some 692))] dM_94_28 (fun _ => rfl) (Or.inr rfl) ?_
      refine gs0 30 [(0, .inr (.inr (some 0))), (1, .inr (.inr (some k))), (2, .inr (.inr (some k2))), (3, .inl y3)] [.inr (.inr (some k)), .inl y3, .inr (.inr (some 692))] dM_94_29 (fun _ => rfl) (Or.inr rfl) ?_
      refine gsGetR (some (k + 1)) dM_94_30 hk.2.1 rfl rfl ?_
      refine gs0 34 [(0, .inr (.inr (some 0))), (1, .inr (.inr (some k))), (2, .inr (.inr (some k2))), (3, .inl y3)] [.inl y3, .inr (.inr (some (k + 1))), .inl y3, .inr (.inr (some 692))] dM_94_33 (fun _ => rfl) (Or.inr rfl) ?_
      refine gsIaldN y3.toNatClampNeg (sg (k + 1) y3.toNatClampNeg) dM_94_34 hk.2.2.1 h.1 rfl rfl ?_
      replace h := h.2
      refine gsIastN y3.toNatClampNeg dM_94_35 sk_692 h.1 rfl ?_
      replace h := h.2
      refine gs0 39 [(3, .inl (y3 + 1)), (0, .inr (.inr (some 0))), (1, .inr (.inr (some k))), (2, .inr (.inr (some k2)))] [] dM_94_36 (fun _ => rfl) (Or.inr rfl) ?_
      refine gs0 10 [(3, .inl (y3 + 1)), (0, .inr (.inr (some 0))), (1, .inr (.inr (some k))), (2, .inr (.inr (some k2)))] [] dM_94_39 (fun _ => rfl) (Or.inr rfl) ?_
      exact GoS.sub (Lnd_keys (ks := [0, 1, 2, 3]) rfl (by decide)) (Lsub_cons rfl (Lsub_cons rfl (Lsub_cons rfl (Lsub_cons rfl Lsub_nil)))) h
set_option maxRecDepth 100000 in
theorem wn_94_44 (sg : rSg) (k : Nat) (hk : isSt k) (k2 : Nat) (hk2 : isSt k2) (y3 : Int32) {P : Option rv → rSg → Prop} (h :
    (64 ≤ y3 → 
      P none sg) ∧
    (¬ (64 ≤ y3) → 
      ((sg k2 2) ≤ y3 → 
        P none sg) ∧
      (¬ ((sg k2 2) ≤ y3) → 
        (rIn y3 64 = true ∧
        EvS rSkel 1 78 [.inl (sg (k2 + 1) y3.toNatClampNeg)] sg (fun v8 t9 => ∃ n11, v8 = some (.inl n11) ∧
          (rIn (y3 + 64) 128 = true ∧
          g_94_44 k k2 (y3 + 1) (up2 t9 692 ((y3 + 64).toNatClampNeg) n11) P)))))) : g_94_44 k k2 y3 sg P := by
  show GoS rSkel 1 8 4 none false prog_1_method_36_code 44 [(0, .inr (.inr (some 0))), (2, .inr (.inr (some k2))), (3, .inl y3)] [] sg P
  have b_k := hk.1
  have b_k2 := hk2.1
  refine gs0 45 [(0, .inr (.inr (some 0))), (2, .inr (.inr (some k2))), (3, .inl y3)] [.inl y3] dM_94_44 (fun _ => rfl) (Or.inr rfl) ?_
  refine gs0 47 [(0, .inr (.inr (some 0))), (2, .inr (.inr (some k2))), (3, .inl y3)] [.inl 64, .inl y3] dM_94_45 (fun _ => rfl) (Or.inr rfl) ?_
  refine gsIf (t := 82) (C := 64 ≤ y3) (r := []) dM_94_47 (fun _ => rfl) (Or.inr rfl) (rTest_iff .ge y3 64) (fun c6 => ?_) (fun c6 => ?_)
  · replace h := h.1 c6
    refine gsRet (r := none) dM_94_82 (fun _ => rfl) (Or.inr rfl) ?_
    exact h
  · replace h := h.2 c6
    refine gs0 51 [(0, .inr (.inr (some 0))), (2, .inr (.inr (some k2))), (3, .inl y3)] [.inl y3] dM_94_50 (fun _ => rfl) (Or.inr rfl) ?_
    refine gs0 52 [(0, .inr (.inr (some 0))), (2, .inr (.inr (some k2))), (3, .inl y3)] [.inr (.inr (some k2)), .inl y3] dM_94_51 (fun _ => rfl) (Or.inr rfl) ?_
    refine gsGetE (sg k2 2) dM_94_52 hk2.2.1 rfl rfl rfl ?_
    refine gsIf (t := 82) (C := (sg k2 2) ≤ y3) (r := []) dM_94_55 (fun _ => rfl) (Or.inr rfl) (rTest_iff .ge y3 (sg k2 2)) (fun c7 => ?_) (fun c7 => ?_)
    · replace h := h.1 c7
      refine gsRet (r := none) dM_94_82 (fun _ => rfl) (Or.inr rfl) ?_
      exact h
    · replace h := h.2 c7
      refine gs0 59 [(0, .inr (.inr (some 0))), (2, .inr (.inr (some k2))), (3, .inl y3)] [.inr (.inr (some 0))] dM_94_58 (fun _ => rfl) (Or.inr rfl) ?_
      refine gsGetR (some 692) dM_94_59 sk_0 rfl rfl ?_
      refine gs0 63 [(0, .inr (.inr (some 0))), (2, .inr (.inr (some k2))), (3, .inl y3)] [.inl y3, .inr (.inr (some 692))] dM_94_62 (fun _ => rfl) (Or.inr rfl) ?_
      refine gs0 65 [(0, .inr (.inr (some 0))), (2, .inr (.inr (some k2))), (3, .inl y3)] [.inl 64, .inl y3, .inr (.inr (some 692))] dM_94_63 (fun _ => rfl) (Or.inr rfl) ?_
      refine gs0 66 [(0, .inr (.inr (some 0))), (2, .inr (.inr (some k2))), (3, .inl y3)] [.inl (y3 + 64), .inr (.inr (some 692))] dM_94_65 (fun _ => rfl) (Or.inr rfl) ?_
      refine gs0 67 [(0, .inr (.inr (some 0))), (2, .inr (.inr (some k2))), (3, .inl y3)] [.inr (.inr (some k2)), .inl (y3 + 64), .inr (.inr (some 692))] dM_94_66 (fun _ => rfl) (Or.inr rfl) ?_
      refine gsGetR (some (k2 + 1)) dM_94_67 hk2.2.1 rfl rfl ?_
      refine gs0 71 [(0, .inr (.inr (some 0))), (2, .inr (.inr (some k2))), (3, .inl y3)] [.inl y3, .inr (.inr (some (k2 + 1))), .inl (y3 + 64), .inr (.inr (some 692))] dM_94_70 (fun _ => rfl) (Or.inr rfl) ?_
      refine gsIaldN y3.toNatClampNeg (sg (k2 + 1) y3.toNatClampNeg) dM_94_71 hk2.2.2.1 h.1 rfl rfl ?_
      replace h := h.2
      refine gsCallS (y := 78) (as := [.inl (sg (k2 + 1) y3.toNatClampNeg)]) (r := [.inl (y3 + 64), .inr (.inr (some 692))]) dM_94_72 rfl (Or.inl rfl) rfl rfl (Nat.le_of_ble_eq_true rfl) (EvS.up h (Nat.le_of_ble_eq_true rfl)) (fun v8 t9 hv10 => ?_)
      obtain ⟨n11, rfl, hn⟩ := hv10
      clear h
      show GoS _ _ _ _ _ _ _ _ [(0, .inr (.inr (some 0))), (2, .inr (.inr (some k2))), (3, .inl y3)] [.inl n11, .inl (y3 + 64), .inr (.inr (some 692))] t9 _
      refine gsIastN ((y3 + 64).toNatClampNeg) dM_94_75 sk_692 hn.1 rfl ?_
      replace hn := hn.2
      refine gs0 79 [(3, .inl (y3 + 1)), (0, .inr (.inr (some 0))), (2, .inr (.inr (some k2)))] [] dM_94_76 (fun _ => rfl) (Or.inr rfl) ?_
      refine gs0 44 [(3, .inl (y3 + 1)), (0, .inr (.inr (some 0))), (2, .inr (.inr (some k2)))] [] dM_94_79 (fun _ => rfl) (Or.inr rfl) ?_
      exact GoS.sub (Lnd_keys (ks := [0, 2, 3]) rfl (by decide)) (Lsub_cons rfl (Lsub_cons rfl (Lsub_cons rfl Lsub_nil))) hn
set_option maxRecDepth 100000 in
theorem wn_94 (sg : rSg) (k : Nat) (hk : isSt k) (k2 : Nat) (hk2 : isSt k2) {P : Option rv → rSg → Prop} (h :
    EvS rSkel 1 209 [.inr (.inr (some 692)), .inl ((-1))] sg (fun v1 t2 => v1 = none ∧
      g_94_10 k k2 0 t2 P)) : EvS rSkel 2 94 [.inr (.inr (some 0)), .inr (.inr (some k)), .inr (.inr (some k2))] sg P := by
  refine EvS.of (ini := false) rfl ⟨rfl, Nat.le_of_ble_eq_true rfl⟩ rfl ?_
  show GoS rSkel 1 8 4 none false prog_1_method_36_code 0 [(0, .inr (.inr (some 0))), (1, .inr (.inr (some k))), (2, .inr (.inr (some k2)))] [] sg _
  have b_k := hk.1
  have b_k2 := hk2.1
  refine gs0 1 [(0, .inr (.inr (some 0))), (1, .inr (.inr (some k))), (2, .inr (.inr (some k2)))] [.inr (.inr (some 0))] dM_94_0 (fun _ => rfl) (Or.inr rfl) ?_
  refine gsGetR (some 692) dM_94_1 sk_0 rfl rfl ?_
  refine gs0 5 [(0, .inr (.inr (some 0))), (1, .inr (.inr (some k))), (2, .inr (.inr (some k2)))] [.inl ((-1)), .inr (.inr (some 692))] dM_94_4 (fun _ => rfl) (Or.inr rfl) ?_
  refine gsCallS (y := 209) (as := [.inr (.inr (some 692)), .inl ((-1))]) (r := []) dM_94_5 rfl (Or.inl rfl) rfl rfl (Nat.le_of_ble_eq_true rfl) (EvS.up h (Nat.le_of_ble_eq_true rfl)) (fun v1 t2 hv3 => ?_)
  obtain ⟨rfl, hn⟩ := hv3
  clear h
  show GoS _ _ _ _ _ _ _ _ [(0, .inr (.inr (some 0))), (1, .inr (.inr (some k))), (2, .inr (.inr (some k2)))] [] t2 _
  refine gs0 9 [(0, .inr (.inr (some 0))), (1, .inr (.inr (some k))), (2, .inr (.inr (some k2)))] [.inl 0] dM_94_8 (fun _ => rfl) (Or.inr rfl) ?_
  refine gs0 10 [(3, .inl 0), (0, .inr (.inr (some 0))), (1, .inr (.inr (some k))), (2, .inr (.inr (some k2)))] [] dM_94_9 (fun _ => rfl) (Or.inr rfl) ?_
  exact GoS.sub (Lnd_keys (ks := [0, 1, 2, 3]) rfl (by decide)) (Lsub_cons rfl (Lsub_cons rfl (Lsub_cons rfl (Lsub_cons rfl Lsub_nil)))) hn
set_option maxRecDepth 100000 in
theorem arr692 : isArr 692 128 := ⟨by decide, sk_692⟩
theorem s_94c {D k k2 : Nat} (hk : isSt k) (hk2 : isSt k2) {s0 : rSg} {P : Option rv → rSg → Prop} (hP : ∀ t, CR D s0 t → P none t) : ∀ (m y : Nat) (s : rSg), y + m = 64 → CR D s0 s → g_94_44 k k2 (nI y) s P := by
  intro m
  induction m with
  | zero =>
    intro y s hy hs
    obtain rfl : y = 64 := by omega
    exact wn_94_44 s k hk k2 hk2 _ ⟨fun _ => hP s hs, fun q => absurd (by decide) q⟩
  | succ m ih =>
    intro y s hy hs
    refine wn_94_44 s k hk k2 hk2 _ ⟨fun _ => hP s hs, fun _ => ⟨fun _ => hP s hs, fun _ => ⟨rIn_nI (by omega) (by decide), (s_78 s _).imp ?_⟩⟩⟩
    rintro _ s ⟨n1, rfl, rfl⟩
    rw [show nI y + 64 = nI (y + 64) from nI_add y 64, nI_1]
    exact ⟨_, rfl, rIn_nI (by omega) (by decide), ih (y + 1) _ (by omega) (hs.trans (CR.fr hs.2.2 (fun q hq => up2_nk _ _ _ (by omega))))⟩
theorem s_94b {D k k2 : Nat} (hk : isSt k) (hk2 : isSt k2) {s0 : rSg} {P : Option rv → rSg → Prop} (hP : ∀ t, CR D s0 t → P none t) : ∀ (m y : Nat) (s : rSg), y + m = 64 → CR D s0 s → g_94_10 k k2 (nI y) s P := by
  intro m
  induction m with
  | zero =>
    intro y s hy hs
    obtain rfl : y = 64 := by omega
    exact wn_94_10 s k hk k2 hk2 _ ⟨fun _ => s_94c hk hk2 hP 64 0 s rfl hs, fun q => absurd (by decide) q⟩
  | succ m ih =>
    intro y s hy hs
    refine wn_94_10 s k hk k2 hk2 _ ⟨fun _ => s_94c hk hk2 hP 64 0 s rfl hs, fun _ => ⟨fun _ => s_94c hk hk2 hP 64 0 s rfl hs, fun _ => ⟨rIn_nI (by omega) (by decide), rIn_nI (by omega) (by decide), ?_⟩⟩⟩
    rw [nI_1]
    exact ih (y + 1) _ (by omega) (hs.trans (CR.fr hs.2.2 (fun q hq => up2_nk _ _ _ (by omega))))
theorem s_94 {D k k2 : Nat} (hk : isSt k) (hk2 : isSt k2) {s0 s : rSg} (h : CR D s0 s) : EvS rSkel 2 94 [.inr (.inr (some 0)), .inr (.inr (some k)), .inr (.inr (some k2))] s (fun v t => v = none ∧ CR D s0 t) := by
  refine wn_94 s k hk k2 hk2 ((c_fill (Sk := rSkel) (kb := 692) (nb := 128) arr692 (by decide) s (-1)).imp ?_)
  rintro _ t ⟨rfl, t0, _⟩
  exact ⟨rfl, s_94b hk hk2 (fun t ht => ⟨rfl, ht⟩) 64 0 t rfl (h.trans (CR.fr h.2.2 (fun q hq => t0 q (by omega))))⟩
theorem CR.un {D E kb : Nat} (hk : kb = 692 ∨ kb = 449) {s t u : rSg} (h : CR D s t) (g : bt (unB kb) t u) (l : LK E t u) : CR (D + E) s u :=
  h.trans ⟨fun q hq => g q ⟨by omega, by omega⟩, l, h.2.2.1.ext (g 6 ⟨by omega, by omega⟩), h.2.2.2.1.ext (g 230 ⟨by omega, by omega⟩), h.2.2.2.2.ext (g 454 ⟨by omega, by omega⟩)⟩
theorem s_93b {s0 : rSg} {P : Option rv → rSg → Prop} (hP : ∀ n t, CR (6 * 129) s0 t → P (some (.inl n)) t) : ∀ (m y : Nat) (s : rSg), y + m = 6 → CR (y * 129) s0 s → g_93_44 (nI y) s P := by
  intro m
  induction m with
  | zero =>
    intro y s hy hs
    obtain rfl : y = 6 := by omega
    exact w_93_44 s _ ⟨fun _ => hP _ s hs, fun q => absurd (by decide) q⟩
  | succ m ih =>
    intro y s hy hs
    refine w_93_44 s _ ⟨fun _ => hP _ s (hs.mono (by omega)), fun _ => (s_65 scr7 arr692 (by decide) s _ _).imp ?_⟩
    rintro _ t ⟨n1, rfl, _, tb, tl⟩
    have gt : CR ((y + 1) * 129) s0 t := (hs.un (by simp) tb tl).mono (by omega)
    rw [nI_1]
    exact ⟨_, rfl, fun _ => ih (y + 1) t (by omega) gt, fun _ => hP _ t (gt.mono (by omega))⟩
theorem s_93 {s : rSg} (h : clI s) (x y : Int32) : EvS rSkel 5 93 [.inr (.inr (some 0)), .inl x, .inl y] s (okI 774 s) := by
  have k := CR.rfl' h
  have k9 := k.mono (E := 774) (by omega)
  refine w_93 s x y ((s_81 s x).imp ?_)
  rintro _ s ⟨n1, rfl, rfl⟩
  refine ⟨_, rfl, fun _ => s_72r k9 _, fun _ => (s_81 s y).imp ?_⟩
  rintro _ s ⟨n2, rfl, rfl⟩
  refine ⟨_, rfl, fun _ => (s_40 seaA6 x).imp ?_, fun _ => s_72r k9 _⟩
  rintro _ s ⟨q, rfl, hq, _, rfl⟩
  refine ⟨q, rfl, hq, (s_40 seaA6 y).imp ?_⟩
  rintro _ s ⟨r, rfl, hr, _, rfl⟩
  refine ⟨r, rfl, hr, (s_94 hq hr k).imp ?_⟩
  rintro _ t ⟨rfl, ht⟩
  exact ⟨rfl, s_93b (fun n t ht => ⟨n, rfl, ht⟩) 6 0 t rfl (ht.mono (by omega))⟩
/-! lots -/
theorem s_2 {D : Nat} {s0 s : rSg} (h : CR D s0 s) (x : Int32) : EvS rSkel 1 2 [.inr (.inr (some 686)), .inl x] s (fun v t => ∃ n, v = some (.inl n) ∧ CR D s0 t) := by
  have g : ∀ z, CR D s0 (up2 s 686 0 z) := fun z => h.trans (CR.fr h.2.2 (fun q hq => up2_nk _ _ _ (by omega)))
  exact w_2 s x ⟨fun q => ⟨fun e => absurd (e ▸ q) (by decide), _, rfl, g _⟩, fun _ => ⟨_, rfl, g _⟩⟩
theorem s_3 {D : Nat} {s0 s : rSg} (h : CR D s0 s) : EvS rSkel 2 3 [.inr (.inr (some 686))] s (fun v t => ∃ n, v = some (.inl n) ∧ CR D s0 t) := by
  refine w_3 s ((s_2 h _).imp ?_)
  rintro _ t ⟨n1, rfl, ht⟩
  refine ⟨_, rfl, fun _ => (s_2 ht _).imp ?_, fun _ => (s_2 ht _).imp ?_⟩
  all_goals
    rintro _ u ⟨n2, rfl, hu⟩
    exact ⟨_, rfl, _, rfl, hu⟩
theorem s_1 {D : Nat} {s0 s : rSg} (h : CR D s0 s) : EvS rSkel 3 1 [.inr (.inr (some 686)), .inr (.inr (some 231))] s (fun v t => ∃ n, v = some (.inl n) ∧ CR D s0 t) := by
  refine w_1 s 231 scr231 ((s_2 h _).imp ?_)
  rintro _ t ⟨n1, rfl, ht⟩
  refine ⟨_, rfl, fun _ => (s_2 ht _).imp ?_, fun _ => (s_2 ht _).imp ?_, fun _ => (s_3 ht).imp ?_⟩
  · rintro _ u ⟨n2, rfl, hu⟩
    exact ⟨_, rfl, _, rfl, hu⟩
  · rintro _ u ⟨n2, rfl, hu⟩
    exact ⟨_, rfl, _, rfl, hu⟩
  · rintro _ u ⟨n2, rfl, hu⟩
    refine ⟨_, rfl, (s_3 hu).imp ?_⟩
    rintro _ w ⟨n3, rfl, hw⟩
    refine ⟨_, rfl, (s_23 scr231 w _ _).imp ?_⟩
    rintro _ y ⟨n4, rfl, hy⟩
    exact ⟨_, rfl, _, rfl, hw.sc (b := 230) (by simp) hy⟩
theorem st448 : isSt 448 := ⟨by decide, sk_448, sk_449, sk_450⟩
theorem arr449 : isArr 449 64 := ⟨by decide, sk_449⟩
theorem s_108b {D : Nat} {s0 : rSg} {P : Option rv → rSg → Prop} (hP : ∀ n t, CR (D + 4 * 129) s0 t → P (some (.inl n)) t) : ∀ (m y : Nat) (f : Int32) (s : rSg), y + m = 4 → (f = 0 ∨ f = 1) → CR (D + y * 129) s0 s → g_108_13 231 448 f (nI y) s P := by
  intro m
  induction m with
  | zero =>
    intro y f s hy hf hs
    obtain rfl : y = 4 := by omega
    refine w_108_13 s 231 scr231 448 st448 f _ ⟨fun _ => ⟨by rcases hf with rfl | rfl <;> decide, hP _ s hs⟩, fun q => absurd (by decide) q⟩
  | succ m ih =>
    intro y f s hy hf hs
    refine w_108_13 s 231 scr231 448 st448 f _ ⟨fun _ => ⟨by rcases hf with rfl | rfl <;> decide, hP _ s (hs.mono (by omega))⟩, fun _ => (s_1 hs).imp ?_⟩
    rintro _ t ⟨n1, rfl, ht⟩
    refine ⟨_, rfl, (s_1 ht).imp ?_⟩
    rintro _ u ⟨n2, rfl, hu⟩
    rw [nI_1]
    refine ⟨_, rfl, fun _ => ih (y + 1) 0 u (by omega) (Or.inl rfl) (hu.mono (by omega)), fun _ => (s_65 scr231 arr449 (by decide) u _ _).imp ?_⟩
    rintro _ w ⟨n3, rfl, _, wb, wl⟩
    have gw : CR (D + (y + 1) * 129) s0 w := (hu.un (by simp) wb wl).mono (by omega)
    exact ⟨_, rfl, fun _ => ih (y + 1) 0 w (by omega) (Or.inl rfl) gw, fun _ => ih (y + 1) 1 w (by omega) (Or.inr rfl) gw⟩
theorem s_108 {D : Nat} {s0 s : rSg} (h : CR D s0 s) : EvS rSkel 5 108 [.inr (.inr (some 0)), .inr (.inr (some 231)), .inr (.inr (some 448))] s (fun v t => ∃ n, v = some (.inl n) ∧ CR (D + 516) s0 t) := by
  refine w_108 s 231 scr231 448 st448 ((s_20 scr231 s).imp ?_)
  rintro _ t ⟨rfl, ht⟩
  have gt := h.sc (b := 230) (by simp) ht
  refine ⟨rfl, (s_51 st448 t).imp ?_⟩
  rintro _ u ⟨rfl, hu⟩
  have gu : CR D s0 u := gt.trans (CR.fr gt.2.2 (fun q hq => hu q (by omega)))
  exact ⟨rfl, s_108b (D := D) (fun n t ht => ⟨n, rfl, ht⟩) 4 0 1 u rfl (Or.inr rfl) (gu.mono (by omega))⟩
theorem s_109b {s : rSg} {P : Option rv → rSg → Prop} (hP : ∀ n : Int32, P (some (.inl n)) s) : ∀ (m y : Nat) (c : Int32), y + m = 6 → g_109_4 448 c (nI y) s P := by
  intro m
  induction m with
  | zero =>
    intro y c hy
    obtain rfl : y = 6 := by omega
    exact w_109_4 s 448 st448 _ _ ⟨fun _ => hP _, fun q => absurd (by decide) q⟩
  | succ m ih =>
    intro y c hy
    refine w_109_4 s 448 st448 _ _ ⟨fun _ => hP _, fun _ => (s_76 arr449 (by decide) s _).imp ?_⟩
    rintro _ s ⟨n1, rfl, rfl⟩
    refine ⟨_, rfl, (s_77 s _).imp ?_⟩
    rintro _ s ⟨n2, rfl, rfl⟩
    rw [nI_1]
    exact ⟨_, rfl, fun _ => ih (y + 1) _ (by omega), fun _ => ih (y + 1) _ (by omega)⟩
theorem s_109 (s : rSg) : EvS rSkel 2 109 [.inr (.inr (some 448))] s (fun v t => ∃ n, v = some (.inl n) ∧ t = s) := w_109 s 448 st448 (s_109b (fun n => ⟨n, rfl, rfl⟩) 6 0 0 rfl)
theorem s_107b {s0 : rSg} {N : Nat} (hN : N ≤ 20) (x : Int32) {P : Option rv → rSg → Prop} (hP : ∀ n t, CR (20 * 516) s0 t → P (some (.inl n)) t) : ∀ (m y : Nat) (c e : Int32) (s : rSg), y + m = N → CR (y * 516) s0 s → g_107_58 (nI N) x c e (nI y) s P := by
  intro m
  induction m with
  | zero =>
    intro y c e s hy hs
    obtain rfl : y = N := by omega
    have hs := hs.mono (E := 20 * 516) (by omega)
    exact w_107_58 s _ _ _ _ _ ⟨fun _ => ⟨fun _ => hP _ s hs, fun _ => hP _ s hs⟩, fun q => absurd (nI_le (by omega) (by omega)) q⟩
  | succ m ih =>
    intro y c e s hy hs
    have h9 := hs.mono (E := 20 * 516) (by omega)
    refine w_107_58 s _ _ _ _ _ ⟨fun _ => ⟨fun _ => hP _ s h9, fun _ => hP _ s h9⟩, fun _ => (s_108 hs).imp ?_⟩
    rintro _ t ⟨n1, rfl, ht⟩
    have gt : CR ((y + 1) * 516) s0 t := ht.mono (by omega)
    rw [nI_1]
    refine ⟨_, rfl, fun _ => ih (y + 1) _ _ t (by omega) gt, fun _ => (s_109 t).imp ?_⟩
    rintro _ t ⟨n2, rfl, rfl⟩
    exact ⟨_, rfl, ih (y + 1) _ _ t (by omega) gt⟩
theorem s_107 {s : rSg} (h : clI s) (x y z : Int32) : EvS rSkel 6 107 [.inr (.inr (some 0)), .inl x, .inl y, .inl z] s (okI 10320 s) := by
  have k := CR.rfl' h
  have k9 := k.mono (E := 10320) (by omega)
  have go : 1 ≤ x → x ≤ 20 → g_107_58 x z 0 0 0 (up2 s 686 0 y) (okI 10320 s) := fun h1 h2 => by
    have h0 : ¬ x < 0 := fun q => by
      have a := Int32.le_iff_toInt_le.mp h1
      have b := Int32.lt_iff_toInt_lt.mp q
      have e0 : (0 : Int32).toInt = 0 := rfl
      have e1 : (1 : Int32).toInt = 1 := rfl
      omega
    obtain ⟨n, hn, rfl⟩ := nn_of h0
    have n9 : n ≤ 20 := (nI_leI hn (b := 20) (by decide)).mp h2
    exact s_107b n9 z (fun n t ht => ⟨n, rfl, ht⟩) n 0 0 0 _ (by omega) ((k.trans (CR.fr h (fun q hq => up2_nk _ _ _ (by omega)))).mono (by omega))
  exact w_107 s x y z ⟨fun h1 => ⟨fun h2 => ⟨fun _ => go h1 h2, fun _ => ⟨fun _ => go h1 h2, fun _ => s_72r k9 _⟩⟩, fun _ => s_72r k9 _⟩, fun _ => s_72r k9 _⟩
