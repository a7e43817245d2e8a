/-! the reference: loops: by program (wip/whole) -/
theorem dM_122_0 : decode prog_11_method_20_code 0 = .ok (.iconst 0, 1) := by decide +kernel
theorem dM_122_1 : decode prog_11_method_20_code 1 = .ok (.istore_n 1, 1) := by decide +kernel
theorem dM_122_2 : decode prog_11_method_20_code 2 = .ok (.iload_n 1, 1) := by decide +kernel
theorem dM_122_3 : decode prog_11_method_20_code 3 = .ok (.sipush 128, 3) := by decide +kernel
theorem dM_122_6 : decode prog_11_method_20_code 6 = .ok (.if_icmp .ge 17, 3) := by decide +kernel
theorem dM_122_9 : decode prog_11_method_20_code 9 = .ok (.aload_n 0, 1) := by decide +kernel
theorem dM_122_10 : decode prog_11_method_20_code 10 = .ok (.getfield 40, 3) := by decide +kernel
theorem dM_122_13 : decode prog_11_method_20_code 13 = .ok (.iload_n 1, 1) := by decide +kernel
theorem dM_122_14 : decode prog_11_method_20_code 14 = .ok (.bipush (-9), 2) := by decide +kernel
theorem dM_122_16 : decode prog_11_method_20_code 16 = .ok (.iastore, 1) := by decide +kernel
theorem dM_122_17 : decode prog_11_method_20_code 17 = .ok (.iinc 1 1, 3) := by decide +kernel
theorem dM_122_20 : decode prog_11_method_20_code 20 = .ok (.goto (-18), 3) := by decide +kernel
theorem dM_122_23 : decode prog_11_method_20_code 23 = .ok (.aload_n 0, 1) := by decide +kernel
theorem dM_122_24 : decode prog_11_method_20_code 24 = .ok (.iconst 0, 1) := by decide +kernel
theorem dM_122_25 : decode prog_11_method_20_code 25 = .ok (.putfield 138, 3) := by decide +kernel
theorem dM_122_28 : decode prog_11_method_20_code 28 = .ok (.return_, 1) := by decide +kernel
set_option maxRecDepth 100000 in
theorem m_empties_loop (d : Nat)  {P : Option rv → rSg → Prop} : ∀ (n t : Nat) (sg : rSg), t + n = 128 →  GoS rSkel d 9 2 none false prog_11_method_20_code 23 [(1, .inl (nI 128)), (0, .inr (.inr (some 725)))] [] (upC sg 736 (fillF (sg 736) t n (-9))) P → GoS rSkel d 9 2 none false prog_11_method_20_code 2 [(1, .inl (nI t)), (0, .inr (.inr (some 725)))] [] sg P := by
  intro n
  induction n with
  | zero =>
    intro t sg ht  hk
    obtain rfl : t = 128 := by omega
    rw [fill_zero] at hk
    refine gs0 3 [(1, .inl (nI 128)), (0, .inr (.inr (some 725)))] [.inl (nI 128)] dM_122_2 (fun _ => rfl) (Or.inr rfl) ?_
    refine gs0 6 [(1, .inl (nI 128)), (0, .inr (.inr (some 725)))] [.inl 128, .inl (nI 128)] dM_122_3 (fun _ => rfl) (Or.inr rfl) ?_
    refine gsIf (t := 23) (C := 128 ≤ (nI 128)) (r := []) dM_122_6 (fun _ => rfl) (Or.inr rfl) (rTest_iff .ge (nI 128) 128) (fun h1 => ?_) (fun h1 => absurd (nI_le (a := 128) (b := 128) (by decide) (by decide)) h1)
    exact hk
  | succ n ih =>
    intro t sg ht  hk
    refine gs0 3 [(1, .inl (nI t)), (0, .inr (.inr (some 725)))] [.inl (nI t)] dM_122_2 (fun _ => rfl) (Or.inr rfl) ?_
    refine gs0 6 [(1, .inl (nI t)), (0, .inr (.inr (some 725)))] [.inl 128, .inl (nI t)] dM_122_3 (fun _ => rfl) (Or.inr rfl) ?_
    refine gsIf (t := 23) (C := 128 ≤ (nI t)) (r := []) dM_122_6 (fun _ => rfl) (Or.inr rfl) (rTest_iff .ge (nI t) 128) (fun h1 => absurd h1 (fun q => absurd ((nI_leI (a := 128) (b := t) (by decide) (by omega)).mp q) (by omega))) (fun h1 => ?_)
    refine gs0 10 [(1, .inl (nI t)), (0, .inr (.inr (some 725)))] [.inr (.inr (some 725))] dM_122_9 (fun _ => rfl) (Or.inr rfl) ?_
    refine gsGetR (some 736) dM_122_10 sk_725 rfl rfl ?_
    refine gs0 14 [(1, .inl (nI t)), (0, .inr (.inr (some 725)))] [.inl (nI t), .inr (.inr (some 736))] dM_122_13 (fun _ => rfl) (Or.inr rfl) ?_
    refine gs0 16 [(1, .inl (nI t)), (0, .inr (.inr (some 725)))] [.inl ((-9)), .inl (nI t), .inr (.inr (some 736))] dM_122_14 (fun _ => rfl) (Or.inr rfl) ?_
    refine gsIastN t dM_122_16 sk_736 (rIn_nI (by omega) (by decide)) (nI_clamp (by omega)) ?_
    refine gs0 20 [(1, .inl ((nI t) + 1)), (0, .inr (.inr (some 725)))] [] dM_122_17 (fun _ => rfl) (Or.inr rfl) ?_
    refine gs0 2 [(1, .inl ((nI t) + 1)), (0, .inr (.inr (some 725)))] [] dM_122_20 (fun _ => rfl) (Or.inr rfl) ?_
    refine gsL (L2 := [(1, .inl (nI (t + 1))), (0, .inr (.inr (some 725)))]) (by rw [nI_1]) ?_
    refine ih (t + 1) _ (by omega) ?_
    rw [fill_step]
    exact hk
/-- what empties leaves -/
def mEmp (sg : rSg) : rSg := up2 (upC sg 736 (fillF (sg 736) 0 128 (-9))) 725 16 0
set_option maxRecDepth 100000 in
theorem ev_m_empties (d : Nat) (sg : rSg)  : EvS rSkel (d + 1) 122 [.inr (.inr (some 725))] sg (fun v s2 => v = none ∧ s2 = mEmp sg) := by
  refine EvS.of (ini := false) rfl ⟨rfl, Nat.le_of_ble_eq_true rfl⟩ rfl ?_
  show GoS rSkel d 9 2 none false prog_11_method_20_code 0 [(0, .inr (.inr (some 725)))] [] sg _
  refine gs0 1 [(0, .inr (.inr (some 725)))] [.inl 0] dM_122_0 (fun _ => rfl) (Or.inr rfl) ?_
  refine gs0 2 [(1, .inl 0), (0, .inr (.inr (some 725)))] [] dM_122_1 (fun _ => rfl) (Or.inr rfl) ?_
  refine m_empties_loop d 128 0 sg rfl ?_
  refine gs0 24 [(1, .inl (nI 128)), (0, .inr (.inr (some 725)))] [.inr (.inr (some 725))] dM_122_23 (fun _ => rfl) (Or.inr rfl) ?_
  refine gs0 25 [(1, .inl (nI 128)), (0, .inr (.inr (some 725)))] [.inl 0, .inr (.inr (some 725))] dM_122_24 (fun _ => rfl) (Or.inr rfl) ?_
  refine gsPut dM_122_25 sk_725 rfl rfl rfl (by decide) ?_
  refine gsRet (r := none) dM_122_28 (fun _ => rfl) (Or.inr rfl) ?_
  exact ⟨rfl, rfl⟩
