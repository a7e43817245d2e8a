/-! the reference: states: by program (wip/whole) -/
theorem dM_140_0 : decode prog_11_method_22_code 0 = .ok (.aload_n 0, 1) := by decide +kernel
theorem dM_140_1 : decode prog_11_method_22_code 1 = .ok (.invokevirtual 167, 3) := by decide +kernel
theorem dM_140_4 : decode prog_11_method_22_code 4 = .ok (.iconst 0, 1) := by decide +kernel
theorem dM_140_5 : decode prog_11_method_22_code 5 = .ok (.istore_n 2, 1) := by decide +kernel
theorem dM_140_6 : decode prog_11_method_22_code 6 = .ok (.iload_n 2, 1) := by decide +kernel
theorem dM_140_7 : decode prog_11_method_22_code 7 = .ok (.bipush 64, 2) := by decide +kernel
theorem dM_140_9 : decode prog_11_method_22_code 9 = .ok (.if_icmp .ge 26, 3) := by decide +kernel
theorem dM_140_12 : decode prog_11_method_22_code 12 = .ok (.aload_n 0, 1) := by decide +kernel
theorem dM_140_13 : decode prog_11_method_22_code 13 = .ok (.getfield 40, 3) := by decide +kernel
theorem dM_140_16 : decode prog_11_method_22_code 16 = .ok (.iload_n 2, 1) := by decide +kernel
theorem dM_140_17 : decode prog_11_method_22_code 17 = .ok (.aload_n 0, 1) := by decide +kernel
theorem dM_140_18 : decode prog_11_method_22_code 18 = .ok (.getfield 49, 3) := by decide +kernel
theorem dM_140_21 : decode prog_11_method_22_code 21 = .ok (.bipush 64, 2) := by decide +kernel
theorem dM_140_23 : decode prog_11_method_22_code 23 = .ok (.iload_n 1, 1) := by decide +kernel
theorem dM_140_24 : decode prog_11_method_22_code 24 = .ok (.imul, 1) := by decide +kernel
theorem dM_140_25 : decode prog_11_method_22_code 25 = .ok (.iload_n 2, 1) := by decide +kernel
theorem dM_140_26 : decode prog_11_method_22_code 26 = .ok (.iadd, 1) := by decide +kernel
theorem dM_140_27 : decode prog_11_method_22_code 27 = .ok (.iaload, 1) := by decide +kernel
theorem dM_140_28 : decode prog_11_method_22_code 28 = .ok (.iastore, 1) := by decide +kernel
theorem dM_140_29 : decode prog_11_method_22_code 29 = .ok (.iinc 2 1, 3) := by decide +kernel
theorem dM_140_32 : decode prog_11_method_22_code 32 = .ok (.goto (-26), 3) := by decide +kernel
theorem dM_140_35 : decode prog_11_method_22_code 35 = .ok (.aload_n 0, 1) := by decide +kernel
theorem dM_140_36 : decode prog_11_method_22_code 36 = .ok (.aload_n 0, 1) := by decide +kernel
theorem dM_140_37 : decode prog_11_method_22_code 37 = .ok (.getfield 52, 3) := by decide +kernel
theorem dM_140_40 : decode prog_11_method_22_code 40 = .ok (.iload_n 1, 1) := by decide +kernel
theorem dM_140_41 : decode prog_11_method_22_code 41 = .ok (.iaload, 1) := by decide +kernel
theorem dM_140_42 : decode prog_11_method_22_code 42 = .ok (.putfield 170, 3) := by decide +kernel
theorem dM_140_45 : decode prog_11_method_22_code 45 = .ok (.aload_n 0, 1) := by decide +kernel
theorem dM_140_46 : decode prog_11_method_22_code 46 = .ok (.aload_n 0, 1) := by decide +kernel
theorem dM_140_47 : decode prog_11_method_22_code 47 = .ok (.getfield 55, 3) := by decide +kernel
theorem dM_140_50 : decode prog_11_method_22_code 50 = .ok (.iload_n 1, 1) := by decide +kernel
theorem dM_140_51 : decode prog_11_method_22_code 51 = .ok (.iaload, 1) := by decide +kernel
theorem dM_140_52 : decode prog_11_method_22_code 52 = .ok (.putfield 173, 3) := by decide +kernel
theorem dM_140_55 : decode prog_11_method_22_code 55 = .ok (.aload_n 0, 1) := by decide +kernel
theorem dM_140_56 : decode prog_11_method_22_code 56 = .ok (.aload_n 0, 1) := by decide +kernel
theorem dM_140_57 : decode prog_11_method_22_code 57 = .ok (.getfield 58, 3) := by decide +kernel
theorem dM_140_60 : decode prog_11_method_22_code 60 = .ok (.iload_n 1, 1) := by decide +kernel
theorem dM_140_61 : decode prog_11_method_22_code 61 = .ok (.iaload, 1) := by decide +kernel
theorem dM_140_62 : decode prog_11_method_22_code 62 = .ok (.putfield 176, 3) := by decide +kernel
theorem dM_140_65 : decode prog_11_method_22_code 65 = .ok (.return_, 1) := by decide +kernel
theorem dM_142_0 : decode prog_11_method_9_code 0 = .ok (.iconst 0, 1) := by decide +kernel
theorem dM_142_1 : decode prog_11_method_9_code 1 = .ok (.istore_n 2, 1) := by decide +kernel
theorem dM_142_2 : decode prog_11_method_9_code 2 = .ok (.iload_n 1, 1) := by decide +kernel
theorem dM_142_3 : decode prog_11_method_9_code 3 = .ok (.istore_n 3, 1) := by decide +kernel
theorem dM_142_4 : decode prog_11_method_9_code 4 = .ok (.iload_n 3, 1) := by decide +kernel
theorem dM_142_5 : decode prog_11_method_9_code 5 = .ok (.ifCond .le 16, 3) := by decide +kernel
theorem dM_142_8 : decode prog_11_method_9_code 8 = .ok (.iinc 2 1, 3) := by decide +kernel
theorem dM_142_11 : decode prog_11_method_9_code 11 = .ok (.aload_n 0, 1) := by decide +kernel
theorem dM_142_12 : decode prog_11_method_9_code 12 = .ok (.getfield 37, 3) := by decide +kernel
theorem dM_142_15 : decode prog_11_method_9_code 15 = .ok (.iload_n 3, 1) := by decide +kernel
theorem dM_142_16 : decode prog_11_method_9_code 16 = .ok (.iaload, 1) := by decide +kernel
theorem dM_142_17 : decode prog_11_method_9_code 17 = .ok (.istore_n 3, 1) := by decide +kernel
theorem dM_142_18 : decode prog_11_method_9_code 18 = .ok (.goto (-14), 3) := by decide +kernel
theorem dM_142_21 : decode prog_11_method_9_code 21 = .ok (.iload_n 2, 1) := by decide +kernel
theorem dM_142_22 : decode prog_11_method_9_code 22 = .ok (.ireturn, 1) := by decide +kernel
set_option maxRecDepth 100000 in
theorem m_loads_loop (d : Nat) {s : Nat} (hs : s < 84) {P : Option rv → rSg → Prop} : ∀ (n t : Nat) (sg : rSg), t + n = 64 →  GoS rSkel d 9 3 none false prog_11_method_22_code 35 [(2, .inl (nI 64)), (0, .inr (.inr (some 725))), (1, .inl (nI s))] [] (upC sg 736 (va_cpy (sg 739) (sg 736) (64 * s + t) t n)) P → GoS rSkel d 9 3 none false prog_11_method_22_code 6 [(2, .inl (nI t)), (0, .inr (.inr (some 725))), (1, .inl (nI s))] [] sg P := by
  intro n
  induction n with
  | zero =>
    intro t sg ht  hk
    obtain rfl : t = 64 := by omega
    rw [cpy_zero] at hk
    refine gs0 7 [(2, .inl (nI 64)), (0, .inr (.inr (some 725))), (1, .inl (nI s))] [.inl (nI 64)] dM_140_6 (fun _ => rfl) (Or.inr rfl) ?_
    refine gs0 9 [(2, .inl (nI 64)), (0, .inr (.inr (some 725))), (1, .inl (nI s))] [.inl 64, .inl (nI 64)] dM_140_7 (fun _ => rfl) (Or.inr rfl) ?_
    refine gsIf (t := 35) (C := 64 ≤ (nI 64)) (r := []) dM_140_9 (fun _ => rfl) (Or.inr rfl) (rTest_iff .ge (nI 64) 64) (fun h1 => ?_) (fun h1 => absurd (nI_le (a := 64) (b := 64) (by decide) (by decide)) h1)
    exact hk
  | succ n ih =>
    intro t sg ht  hk
    refine gs0 7 [(2, .inl (nI t)), (0, .inr (.inr (some 725))), (1, .inl (nI s))] [.inl (nI t)] dM_140_6 (fun _ => rfl) (Or.inr rfl) ?_
    refine gs0 9 [(2, .inl (nI t)), (0, .inr (.inr (some 725))), (1, .inl (nI s))] [.inl 64, .inl (nI t)] dM_140_7 (fun _ => rfl) (Or.inr rfl) ?_
    refine gsIf (t := 35) (C := 64 ≤ (nI t)) (r := []) dM_140_9 (fun _ => rfl) (Or.inr rfl) (rTest_iff .ge (nI t) 64) (fun h1 => absurd h1 (fun q => absurd ((nI_leI (a := 64) (b := t) (by decide) (by omega)).mp q) (by omega))) (fun h1 => ?_)
    refine gs0 13 [(2, .inl (nI t)), (0, .inr (.inr (some 725))), (1, .inl (nI s))] [.inr (.inr (some 725))] dM_140_12 (fun _ => rfl) (Or.inr rfl) ?_
    refine gsGetR (some 736) dM_140_13 sk_725 rfl rfl ?_
    refine gs0 17 [(2, .inl (nI t)), (0, .inr (.inr (some 725))), (1, .inl (nI s))] [.inl (nI t), .inr (.inr (some 736))] dM_140_16 (fun _ => rfl) (Or.inr rfl) ?_
    refine gs0 18 [(2, .inl (nI t)), (0, .inr (.inr (some 725))), (1, .inl (nI s))] [.inr (.inr (some 725)), .inl (nI t), .inr (.inr (some 736))] dM_140_17 (fun _ => rfl) (Or.inr rfl) ?_
    refine gsGetR (some 739) dM_140_18 sk_725 rfl rfl ?_
    refine gs0 23 [(2, .inl (nI t)), (0, .inr (.inr (some 725))), (1, .inl (nI s))] [.inl 64, .inr (.inr (some 739)), .inl (nI t), .inr (.inr (some 736))] dM_140_21 (fun _ => rfl) (Or.inr rfl) ?_
    refine gs0 24 [(2, .inl (nI t)), (0, .inr (.inr (some 725))), (1, .inl (nI s))] [.inl (nI s), .inl 64, .inr (.inr (some 739)), .inl (nI t), .inr (.inr (some 736))] dM_140_23 (fun _ => rfl) (Or.inr rfl) ?_
    refine gs0 25 [(2, .inl (nI t)), (0, .inr (.inr (some 725))), (1, .inl (nI s))] [.inl (64 * (nI s)), .inr (.inr (some 739)), .inl (nI t), .inr (.inr (some 736))] dM_140_24 (fun _ => rfl) (Or.inr rfl) ?_
    refine gsTop (pk_mul 64 s) ?_
    refine gs0 26 [(2, .inl (nI t)), (0, .inr (.inr (some 725))), (1, .inl (nI s))] [.inl (nI t), .inl (nI (64 * s)), .inr (.inr (some 739)), .inl (nI t), .inr (.inr (some 736))] dM_140_25 (fun _ => rfl) (Or.inr rfl) ?_
    refine gs0 27 [(2, .inl (nI t)), (0, .inr (.inr (some 725))), (1, .inl (nI s))] [.inl ((nI (64 * s)) + (nI t)), .inr (.inr (some 739)), .inl (nI t), .inr (.inr (some 736))] dM_140_26 (fun _ => rfl) (Or.inr rfl) ?_
    refine gsTop (nI_add _ _) ?_
    refine gsIaldN (64 * s + t) (sg 739 (64 * s + t)) dM_140_27 sk_739 (rIn_nI (by omega) (by decide)) (nI_clamp (by omega)) rfl ?_
    refine gsIastN t dM_140_28 sk_736 (rIn_nI (by omega) (by decide)) (nI_clamp (by omega)) ?_
    refine gs0 32 [(2, .inl ((nI t) + 1)), (0, .inr (.inr (some 725))), (1, .inl (nI s))] [] dM_140_29 (fun _ => rfl) (Or.inr rfl) ?_
    refine gs0 6 [(2, .inl ((nI t) + 1)), (0, .inr (.inr (some 725))), (1, .inl (nI s))] [] dM_140_32 (fun _ => rfl) (Or.inr rfl) ?_
    refine gsL (L2 := [(2, .inl (nI (t + 1))), (0, .inr (.inr (some 725))), (1, .inl (nI s))]) (by rw [nI_1]) ?_
    refine ih (t + 1) _ (by omega) ?_
    rw [show 64 * s + (t + 1) = (64 * s + t) + 1 from rfl, cpy_step sg (by decide)]
    exact hk
def mLoad0 (sg : rSg) (s : Nat) : rSg := upC (mEmp sg) 736 (va_cpy (mEmp sg 739) (mEmp sg 736) (64 * s + 0) 0 64)
def mLoads (sg : rSg) (s : Nat) : rSg := up2 (up2 (up2 (mLoad0 sg s) 725 18 (sg 740 s)) 725 19 (sg 741 s)) 725 20 (sg 742 s)
set_option maxRecDepth 100000 in
theorem ev_m_loads (d : Nat) (sg : rSg) {s : Nat} (hs : s < 84) : EvS rSkel (d + 2) 140 [.inr (.inr (some 725)), .inl (nI s)] sg (fun v s2 => v = none ∧ s2 = mLoads sg s) := by
  refine EvS.of (ini := false) rfl ⟨rfl, Nat.le_of_ble_eq_true rfl⟩ rfl ?_
  show GoS rSkel (d + 1) 9 3 none false prog_11_method_22_code 0 [(0, .inr (.inr (some 725))), (1, .inl (nI s))] [] sg _
  refine gs0 1 [(0, .inr (.inr (some 725))), (1, .inl (nI s))] [.inr (.inr (some 725))] dM_140_0 (fun _ => rfl) (Or.inr rfl) ?_
  refine gsCallV (y := 122) (k := 725) (as := [.inr (.inr (some 725))]) (r := []) dM_140_1 rfl rfl rfl (Nat.le_of_ble_eq_true rfl) sk_725 rfl (Nat.le_of_ble_eq_true rfl) (ev_m_empties d sg) (fun v1 s2 hv3 => ?_)
  obtain ⟨rfl, hv3b⟩ := hv3
  rw [hv3b]
  show GoS _ _ _ _ _ _ _ _ _ [] _ _
  refine gs0 5 [(0, .inr (.inr (some 725))), (1, .inl (nI s))] [.inl 0] dM_140_4 (fun _ => rfl) (Or.inr rfl) ?_
  refine gs0 6 [(2, .inl 0), (0, .inr (.inr (some 725))), (1, .inl (nI s))] [] dM_140_5 (fun _ => rfl) (Or.inr rfl) ?_
  refine m_loads_loop (d + 1) hs 64 0 (mEmp sg) rfl ?_
  show GoS _ _ _ _ _ _ _ _ _ _ (mLoad0 sg s) _
  refine gs0 36 [(2, .inl (nI 64)), (0, .inr (.inr (some 725))), (1, .inl (nI s))] [.inr (.inr (some 725))] dM_140_35 (fun _ => rfl) (Or.inr rfl) ?_
  refine gs0 37 [(2, .inl (nI 64)), (0, .inr (.inr (some 725))), (1, .inl (nI s))] [.inr (.inr (some 725)), .inr (.inr (some 725))] dM_140_36 (fun _ => rfl) (Or.inr rfl) ?_
  refine gsGetR (some 740) dM_140_37 sk_725 rfl rfl ?_
  refine gs0 41 [(2, .inl (nI 64)), (0, .inr (.inr (some 725))), (1, .inl (nI s))] [.inl (nI s), .inr (.inr (some 740)), .inr (.inr (some 725))] dM_140_40 (fun _ => rfl) (Or.inr rfl) ?_
  refine gsIaldN s (sg 740 s) dM_140_41 sk_740 (rIn_nI (by omega) (by decide)) (nI_clamp (by omega)) rfl ?_
  refine gsPut dM_140_42 sk_725 rfl rfl rfl (by decide) ?_
  refine gs0 46 [(2, .inl (nI 64)), (0, .inr (.inr (some 725))), (1, .inl (nI s))] [.inr (.inr (some 725))] dM_140_45 (fun _ => rfl) (Or.inr rfl) ?_
  refine gs0 47 [(2, .inl (nI 64)), (0, .inr (.inr (some 725))), (1, .inl (nI s))] [.inr (.inr (some 725)), .inr (.inr (some 725))] dM_140_46 (fun _ => rfl) (Or.inr rfl) ?_
  refine gsGetR (some 741) dM_140_47 sk_725 rfl rfl ?_
  refine gs0 51 [(2, .inl (nI 64)), (0, .inr (.inr (some 725))), (1, .inl (nI s))] [.inl (nI s), .inr (.inr (some 741)), .inr (.inr (some 725))] dM_140_50 (fun _ => rfl) (Or.inr rfl) ?_
  refine gsIaldN s (sg 741 s) dM_140_51 sk_741 (rIn_nI (by omega) (by decide)) (nI_clamp (by omega)) rfl ?_
  refine gsPut dM_140_52 sk_725 rfl rfl rfl (by decide) ?_
  refine gs0 56 [(2, .inl (nI 64)), (0, .inr (.inr (some 725))), (1, .inl (nI s))] [.inr (.inr (some 725))] dM_140_55 (fun _ => rfl) (Or.inr rfl) ?_
  refine gs0 57 [(2, .inl (nI 64)), (0, .inr (.inr (some 725))), (1, .inl (nI s))] [.inr (.inr (some 725)), .inr (.inr (some 725))] dM_140_56 (fun _ => rfl) (Or.inr rfl) ?_
  refine gsGetR (some 742) dM_140_57 sk_725 rfl rfl ?_
  refine gs0 61 [(2, .inl (nI 64)), (0, .inr (.inr (some 725))), (1, .inl (nI s))] [.inl (nI s), .inr (.inr (some 742)), .inr (.inr (some 725))] dM_140_60 (fun _ => rfl) (Or.inr rfl) ?_
  refine gsIaldN s (sg 742 s) dM_140_61 sk_742 (rIn_nI (by omega) (by decide)) (nI_clamp (by omega)) rfl ?_
  refine gsPut dM_140_62 sk_725 rfl rfl rfl (by decide) ?_
  refine gsRet (r := none) dM_140_65 (fun _ => rfl) (Or.inr rfl) ?_
  exact ⟨rfl, rfl⟩
/-- from list l on there are n (rest r) -/
def chn (r : Nat → Int32) : Nat → Nat → Prop
  | 0, l => l = 0
  | n + 1, l => 0 < l ∧ l < 20000 ∧ ∃ m, r l = nI m ∧ chn r n m
set_option maxRecDepth 100000 in
theorem m_lengthOf_loop (d : Nat) (a : Int32) (sg : rSg) {P : Option rv → rSg → Prop} : ∀ (n l c : Nat), chn (sg 735) n l → c + n < 2 ^ 31 → P (some (.inl (nI (c + n)))) sg → GoS rSkel d 9 4 (some .int) false prog_11_method_9_code 4 [(3, .inl (nI l)), (2, .inl (nI c)), (0, .inr (.inr (some 725))), (1, .inl a)] [] sg P := by
  intro n
  induction n with
  | zero =>
    intro l c hl hc hp
    obtain rfl : l = 0 := hl
    refine gs0 5 [(3, .inl (nI 0)), (2, .inl (nI c)), (0, .inr (.inr (some 725))), (1, .inl a)] [.inl (nI 0)] dM_142_4 (fun _ => rfl) (Or.inr rfl) ?_
    refine gsIf (t := 21) (C := (nI 0) ≤ 0) (r := []) dM_142_5 (fun _ => rfl) (Or.inr rfl) (rTest_iff .le (nI 0) 0) (fun h1 => ?_) (fun h1 => absurd (nI_le (a := 0) (b := 0) (by decide) (by decide)) h1)
    refine gs0 22 [(3, .inl (nI 0)), (2, .inl (nI c)), (0, .inr (.inr (some 725))), (1, .inl a)] [.inl (nI c)] dM_142_21 (fun _ => rfl) (Or.inr rfl) ?_
    refine gsRet (r := some (.inl (nI c))) dM_142_22 (fun _ => rfl) (Or.inr rfl) ?_
    exact hp
  | succ n ih =>
    intro l c hl hc hp
    obtain ⟨h0, h1, m, hm, hl2⟩ := hl
    refine gs0 5 [(3, .inl (nI l)), (2, .inl (nI c)), (0, .inr (.inr (some 725))), (1, .inl a)] [.inl (nI l)] dM_142_4 (fun _ => rfl) (Or.inr rfl) ?_
    refine gsIf (t := 21) (C := (nI l) ≤ 0) (r := []) dM_142_5 (fun _ => rfl) (Or.inr rfl) (rTest_iff .le (nI l) 0) (fun h1 => absurd h1 (fun q => absurd ((nI_leI (a := l) (b := 0) (by omega) (by decide)).mp q) (by omega))) (fun h1 => ?_)
    refine gs0 11 [(2, .inl ((nI c) + 1)), (3, .inl (nI l)), (0, .inr (.inr (some 725))), (1, .inl a)] [] dM_142_8 (fun _ => rfl) (Or.inr rfl) ?_
    refine gs0 12 [(2, .inl ((nI c) + 1)), (3, .inl (nI l)), (0, .inr (.inr (some 725))), (1, .inl a)] [.inr (.inr (some 725))] dM_142_11 (fun _ => rfl) (Or.inr rfl) ?_
    refine gsGetR (some 735) dM_142_12 sk_725 rfl rfl ?_
    refine gs0 16 [(2, .inl ((nI c) + 1)), (3, .inl (nI l)), (0, .inr (.inr (some 725))), (1, .inl a)] [.inl (nI l), .inr (.inr (some 735))] dM_142_15 (fun _ => rfl) (Or.inr rfl) ?_
    refine gsIaldN l (nI m) dM_142_16 sk_735 (rIn_nI (by omega) (by decide)) (nI_clamp (by omega)) hm ?_
    refine gs0 18 [(3, .inl (nI m)), (2, .inl ((nI c) + 1)), (0, .inr (.inr (some 725))), (1, .inl a)] [] dM_142_17 (fun _ => rfl) (Or.inr rfl) ?_
    refine gs0 4 [(3, .inl (nI m)), (2, .inl ((nI c) + 1)), (0, .inr (.inr (some 725))), (1, .inl a)] [] dM_142_18 (fun _ => rfl) (Or.inr rfl) ?_
    refine gsL (L2 := [(3, .inl (nI m)), (2, .inl (nI (c + 1))), (0, .inr (.inr (some 725))), (1, .inl a)]) (by rw [nI_1]) ?_
    exact ih m (c + 1) hl2 (by omega) (by rw [show c + 1 + n = c + (n + 1) by omega]; exact hp)
set_option maxRecDepth 100000 in
theorem ev_m_lengthOf (d : Nat) (sg : rSg) {n l : Nat} (hl : chn (sg 735) n l) (hn : n < 2 ^ 31) : EvS rSkel (d + 1) 142 [.inr (.inr (some 725)), .inl (nI l)] sg (fun v s2 => v = some (.inl (nI n)) ∧ s2 = sg) := by
  refine EvS.of (ini := false) rfl ⟨rfl, Nat.le_of_ble_eq_true rfl⟩ rfl ?_
  show GoS rSkel d 9 4 (some .int) false prog_11_method_9_code 0 [(0, .inr (.inr (some 725))), (1, .inl (nI l))] [] sg _
  refine gs0 1 [(0, .inr (.inr (some 725))), (1, .inl (nI l))] [.inl 0] dM_142_0 (fun _ => rfl) (Or.inr rfl) ?_
  refine gs0 2 [(2, .inl 0), (0, .inr (.inr (some 725))), (1, .inl (nI l))] [] dM_142_1 (fun _ => rfl) (Or.inr rfl) ?_
  refine gs0 3 [(2, .inl 0), (0, .inr (.inr (some 725))), (1, .inl (nI l))] [.inl (nI l)] dM_142_2 (fun _ => rfl) (Or.inr rfl) ?_
  refine gs0 4 [(3, .inl (nI l)), (2, .inl 0), (0, .inr (.inr (some 725))), (1, .inl (nI l))] [] dM_142_3 (fun _ => rfl) (Or.inr rfl) ?_
  refine m_lengthOf_loop d (nI l) sg n l 0 hl (by omega) ?_
  rw [Nat.zero_add]
  exact ⟨rfl, rfl⟩
