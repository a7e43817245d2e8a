/-! CONSTRUCTORS: what they leave -/
def unSk (b : Nat) : List rSk := [.inr (.inr (7, [some (some (b + 1)), some (some (b + 2)), some (some (b + 3)), some (some (b + 4)), none, none, none])), .inl 1024, .inl 1024, .inl 128, .inl 128]
def scSk (b : Nat) : List rSk := [.inr (.inr (3, [some (some (b + 1)), some (some (b + 2)), some (some (b + 3)), none, none, none, none, none, none])), .inl 326, .inl 978, .inl 1280]
def rdSk (b r1 : Nat) : List rSk := [.inr (.inr (1, [some (some r1), some (some (b + 1)), some (some (b + 2)), some (some (b + 3)), none, none, none, none])), .inl 196, .inl 196, .inl 196]
def teSk (b : Nat) : List rSk := [.inr (.inr (6, [some (some (b + 1)), some (some (b + 2)), some (some (b + 3)), none, none, none])), .inl 200, .inl 604, .inl 64]
theorem k_un {Sk : List rSk} {b : Nat} (hb : Sk.length = b) (sg : rSg)  : EvK 1 64 [.inr (.inr (some b))] (Sk ++ [.inr (.inr (7, [some none, some none, some none, some none, none, none, none]))]) sg (fun v Sk2 s2 c z => v = none ∧ Sk2 = Sk ++ unSk b ∧ c = 4 ∧ z = 2304 ∧ (∀ q, q < b → s2 q = sg q) ∧ s2 b 4 = 0 ∧ s2 b 5 = 0 ∧ s2 b 6 = 0 ∧ (∀ j, s2 (b + 4) j = 0)) :=
  k_64 hb sg  ⟨rfl, rfl, rfl, rfl, fun q hq => by rw [up2_nk _ _ _ (by omega), up2_nk _ _ _ (by omega), up2_nk _ _ _ (by omega), upC_ne _ _ (by omega), upC_ne _ _ (by omega), upC_ne _ _ (by omega), upC_ne _ _ (by omega)], by rw [up2_nj _ _ _ (by decide), up2_nj _ _ _ (by decide), up2_same], by rw [up2_nj _ _ _ (by decide), up2_same], by rw [up2_same], fun j => by rw [up2_nk _ _ _ (by omega), up2_nk _ _ _ (by omega), up2_nk _ _ _ (by omega), upC_same]⟩
theorem k_sc0 {Sk : List rSk} {b : Nat} (hb : Sk.length = b) (sg : rSg)  : EvK 1 19 [.inr (.inr (some b))] (Sk ++ [.inr (.inr (3, [some none, some none, some none, none, none, none, none, none, none]))]) sg (fun v Sk2 s2 c z => v = none ∧ Sk2 = Sk ++ scSk b ∧ c = 3 ∧ z = 2584 ∧ (∀ q, q < b → s2 q = sg q) ∧ s2 b 3 = 1 ∧ s2 b 4 = 0 ∧ s2 b 5 = 0 ∧ s2 b 6 = 1 ∧ s2 b 7 = 0 ∧ s2 b 8 = 0) :=
  k_19 hb sg  ⟨rfl, rfl, rfl, rfl, fun q hq => by rw [up2_nk _ _ _ (by omega), up2_nk _ _ _ (by omega), up2_nk _ _ _ (by omega), up2_nk _ _ _ (by omega), up2_nk _ _ _ (by omega), up2_nk _ _ _ (by omega), up2_nk _ _ _ (by omega), upC_ne _ _ (by omega), upC_ne _ _ (by omega), upC_ne _ _ (by omega)], by rw [up2_nj _ _ _ (by decide), up2_nj _ _ _ (by decide), up2_nj _ _ _ (by decide), up2_nj _ _ _ (by decide), up2_nj _ _ _ (by decide), up2_same], by rw [up2_nj _ _ _ (by decide), up2_nj _ _ _ (by decide), up2_nj _ _ _ (by decide), up2_nj _ _ _ (by decide), up2_same], by rw [up2_nj _ _ _ (by decide), up2_nj _ _ _ (by decide), up2_nj _ _ _ (by decide), up2_same], by rw [up2_nj _ _ _ (by decide), up2_nj _ _ _ (by decide), up2_same], by rw [up2_nj _ _ _ (by decide), up2_same], by rw [up2_same]⟩
theorem k_rd {Sk : List rSk} {b : Nat} (hb : Sk.length = b) (sg : rSg) (r1 : Nat) : EvK 1 4 [.inr (.inr (some b)), .inr (.inr (some r1))] (Sk ++ [.inr (.inr (1, [some none, some none, some none, some none, none, none, none, none]))]) sg (fun v Sk2 s2 c z => v = none ∧ Sk2 = Sk ++ rdSk b r1 ∧ c = 3 ∧ z = 588 ∧ (∀ q, q < b → s2 q = sg q)) :=
  k_4 hb sg r1 ⟨rfl, rfl, rfl, rfl, fun q hq => by rw [up2_nk _ _ _ (by omega), up2_nk _ _ _ (by omega), up2_nk _ _ _ (by omega), up2_nk _ _ _ (by omega), upC_ne _ _ (by omega), upC_ne _ _ (by omega), upC_ne _ _ (by omega)]⟩
theorem k_te {Sk : List rSk} {b : Nat} (hb : Sk.length = b) (sg : rSg)  : EvK 1 57 [.inr (.inr (some b))] (Sk ++ [.inr (.inr (6, [some none, some none, some none, none, none, none]))]) sg (fun v Sk2 s2 c z => v = none ∧ Sk2 = Sk ++ teSk b ∧ c = 3 ∧ z = 868 ∧ (∀ q, q < b → s2 q = sg q)) :=
  k_57 hb sg  ⟨rfl, rfl, rfl, rfl, fun q hq => by rw [up2_nk _ _ _ (by omega), up2_nk _ _ _ (by omega), up2_nk _ _ _ (by omega), upC_ne _ _ (by omega), upC_ne _ _ (by omega), upC_ne _ _ (by omega)]⟩
theorem k_sc {Sk : List rSk} {b : Nat} (hb : Sk.length = b) (sg : rSg) : EvK 1 19 [.inr (.inr (some b))] (Sk ++ [.inr (.inr (3, [some none, some none, some none, none, none, none, none, none, none]))]) sg (fun v Sk2 s2 c z => v = none ∧ Sk2 = Sk ++ scSk b ∧ c = 3 ∧ z = 2584 ∧ (∀ q, q < b → s2 q = sg q) ∧ s2 b 3 = 1 ∧ s2 b 4 = 0 ∧ s2 b 5 = 0 ∧ s2 b 6 = 1 ∧ s2 b 7 = 0 ∧ s2 b 8 = 0 ∧ s2 (b + 1) 0 = 42) :=
  k_19 hb sg ⟨rfl, rfl, rfl, rfl, fun q hq => by rw [up2_nk _ _ _ (by omega), up2_nk _ _ _ (by omega), up2_nk _ _ _ (by omega), up2_nk _ _ _ (by omega), up2_nk _ _ _ (by omega), up2_nk _ _ _ (by omega), up2_nk _ _ _ (by omega), upC_ne _ _ (by omega), upC_ne _ _ (by omega), upC_ne _ _ (by omega)], by rw [up2_nj _ _ _ (by decide), up2_nj _ _ _ (by decide), up2_nj _ _ _ (by decide), up2_nj _ _ _ (by decide), up2_nj _ _ _ (by decide), up2_same], by rw [up2_nj _ _ _ (by decide), up2_nj _ _ _ (by decide), up2_nj _ _ _ (by decide), up2_nj _ _ _ (by decide), up2_same], by rw [up2_nj _ _ _ (by decide), up2_nj _ _ _ (by decide), up2_nj _ _ _ (by decide), up2_same], by rw [up2_nj _ _ _ (by decide), up2_nj _ _ _ (by decide), up2_same], by rw [up2_nj _ _ _ (by decide), up2_same], by rw [up2_same], by rw [up2_nk _ _ _ (by omega), up2_nk _ _ _ (by omega), up2_nk _ _ _ (by omega), up2_nk _ _ _ (by omega), up2_nk _ _ _ (by omega), up2_nk _ _ _ (by omega), up2_same]⟩
theorem dM_50_0 : decode prog_7_method_1_code 0 = .ok (.aload_n 0, 1) := by decide +kernel
theorem dM_50_1 : decode prog_7_method_1_code 1 = .ok (.invokespecial 3, 3) := by decide +kernel
theorem dM_50_4 : decode prog_7_method_1_code 4 = .ok (.aload_n 0, 1) := by decide +kernel
theorem dM_50_5 : decode prog_7_method_1_code 5 = .ok (.bipush 64, 2) := by decide +kernel
theorem dM_50_7 : decode prog_7_method_1_code 7 = .ok (.newarray .int, 2) := by decide +kernel
theorem dM_50_9 : decode prog_7_method_1_code 9 = .ok (.putfield 9, 3) := by decide +kernel
theorem dM_50_12 : decode prog_7_method_1_code 12 = .ok (.aload_n 0, 1) := by decide +kernel
theorem dM_50_13 : decode prog_7_method_1_code 13 = .ok (.bipush 32, 2) := by decide +kernel
theorem dM_50_15 : decode prog_7_method_1_code 15 = .ok (.newarray .int, 2) := by decide +kernel
theorem dM_50_17 : decode prog_7_method_1_code 17 = .ok (.putfield 15, 3) := by decide +kernel
theorem dM_50_20 : decode prog_7_method_1_code 20 = .ok (.aload_n 0, 1) := by decide +kernel
theorem dM_50_21 : decode prog_7_method_1_code 21 = .ok (.invokevirtual 18, 3) := by decide +kernel
theorem dM_50_24 : decode prog_7_method_1_code 24 = .ok (.return_, 1) := by decide +kernel
def stSk (b : Nat) : List rSk := [.inr (.inr (5, [some (some (b + 1)), some (some (b + 2)), none, none, none])), .inl 64, .inl 32]
/-- a new state: nothing bound, nothing to do -/
def stF (s : rSg) (k : Nat) : Prop := (∀ j, j < 64 → s (k + 1) j = -1) ∧ s k 2 = 6 ∧ s k 3 = 0 ∧ s k 4 = 0 ∧ ∀ j, s (k + 2) j = 0
theorem k_50 {Sk : List rSk} {b : Nat} (hb : Sk.length = b) (h5 : 5 < b) (sg : rSg) {P : Option rv → List rSk → rSg → Nat → Nat → Prop} (hP : ∀ s2, (∀ q, q < b → s2 q = sg q) → stF s2 b → P none (Sk ++ stSk b) s2 2 96) : EvK 3 50 [.inr (.inr (some b))] (Sk ++ [.inr (.inr (5, [some none, some none, none, none, none]))]) sg P := by
  refine EvK.of (ini := true) rfl ⟨rfl, Nat.le_of_ble_eq_true rfl⟩ rfl ?_
  show GoK 2 5 1 none true prog_7_method_1_code 0 [(0, .inr (.inr (some b)))] [] (Sk ++ [.inr (.inr (5, [some none, some none, none, none, none]))]) sg 0 0 P
  refine gk0 1 [(0, .inr (.inr (some b)))] [.inr (.inr (some b))] dM_50_0 (fun _ => rfl) (Or.inr rfl) ?_
  refine gk0 4 [(0, .inr (.inr (some b)))] [] dM_50_1 (fun _ => rfl) (Or.inr rfl) ?_
  refine gk0 5 [(0, .inr (.inr (some b)))] [.inr (.inr (some b))] dM_50_4 (fun _ => rfl) (Or.inr rfl) ?_
  refine gk0 7 [(0, .inr (.inr (some b)))] [.inl 64, .inr (.inr (some b))] dM_50_5 (fun _ => rfl) (Or.inr rfl) ?_
  refine gkNewA (nn := 64) (k := b + 1) (Sk2 := Sk ++ [.inr (.inr (5, [some none, some none, none, none, none])), .inl 64]) dM_50_7 (by decide) rfl (by decide) (len_r hb rfl) (app_r rfl) ?_
  refine gkPutR (Sk2 := Sk ++ [.inr (.inr (5, [some (some (b + 1)), some none, none, none, none])), .inl 64]) dM_50_9 (at_r hb (j := 0) rfl rfl) rfl rfl rfl (fun _ => ⟨rfl, rfl⟩) (set_r hb (j := 0) rfl rfl) ?_
  refine gk0 13 [(0, .inr (.inr (some b)))] [.inr (.inr (some b))] dM_50_12 (fun _ => rfl) (Or.inr rfl) ?_
  refine gk0 15 [(0, .inr (.inr (some b)))] [.inl 32, .inr (.inr (some b))] dM_50_13 (fun _ => rfl) (Or.inr rfl) ?_
  refine gkNewA (nn := 32) (k := b + 2) (Sk2 := Sk ++ [.inr (.inr (5, [some (some (b + 1)), some none, none, none, none])), .inl 64, .inl 32]) dM_50_15 (by decide) rfl (by decide) (len_r hb rfl) (app_r rfl) ?_
  refine gkPutR (Sk2 := Sk ++ [.inr (.inr (5, [some (some (b + 1)), some (some (b + 2)), none, none, none])), .inl 64, .inl 32]) dM_50_17 (at_r hb (j := 0) rfl rfl) rfl rfl rfl (fun _ => ⟨rfl, rfl⟩) (set_r hb (j := 0) rfl rfl) ?_
  refine gk0 21 [(0, .inr (.inr (some b)))] [.inr (.inr (some b))] dM_50_20 (fun _ => rfl) (Or.inr rfl) ?_
  refine gkCallV dM_50_21 rfl rfl rfl (by decide) (at_r hb (j := 0) rfl rfl) rfl (Nat.le_of_ble_eq_true rfl) (c_reset (k := b) ⟨h5, at_r hb (j := 0) rfl rfl, at_r hb (j := 1) rfl rfl, at_r hb (j := 2) rfl rfl⟩ _).k ?_
  rintro _ _ s2 _ _ ⟨rfl, rfl, rfl, rfl, f1, f2, f3, f4, f5⟩
  refine gkRet (r := none) dM_50_24 (fun _ => rfl) (Or.inr rfl) (hP s2 (fun q hq => ?_) ⟨f2, f3, f4, f5, fun j => ?_⟩)
  · rw [f1 q (by omega) (by omega), upC_ne _ _ (by omega), upC_ne _ _ (by omega)]
  · rw [f1 (b + 2) (by omega) (by omega), upC_same]
theorem dM_13_0 : decode prog_4_method_1_code 0 = .ok (.aload_n 0, 1) := by decide +kernel
theorem dM_13_1 : decode prog_4_method_1_code 1 = .ok (.invokespecial 3, 3) := by decide +kernel
theorem dM_13_4 : decode prog_4_method_1_code 4 = .ok (.aload_n 0, 1) := by decide +kernel
theorem dM_13_5 : decode prog_4_method_1_code 5 = .ok (.iload_n 1, 1) := by decide +kernel
theorem dM_13_6 : decode prog_4_method_1_code 6 = .ok (.iconst 0, 1) := by decide +kernel
theorem dM_13_7 : decode prog_4_method_1_code 7 = .ok (.invokestatic 9, 3) := by decide +kernel
theorem dM_13_10 : decode prog_4_method_1_code 10 = .ok (.newarray .int, 2) := by decide +kernel
theorem dM_13_12 : decode prog_4_method_1_code 12 = .ok (.putfield 15, 3) := by decide +kernel
theorem dM_13_15 : decode prog_4_method_1_code 15 = .ok (.aload_n 0, 1) := by decide +kernel
theorem dM_13_16 : decode prog_4_method_1_code 16 = .ok (.iconst 0, 1) := by decide +kernel
theorem dM_13_17 : decode prog_4_method_1_code 17 = .ok (.putfield 21, 3) := by decide +kernel
theorem dM_13_20 : decode prog_4_method_1_code 20 = .ok (.return_, 1) := by decide +kernel
theorem k_row96 {Sk : List rSk} {b : Nat} (hb : Sk.length = b) (sg : rSg) : EvK 1 13 [.inr (.inr (some b)), .inl 96] (Sk ++ [.inr (.inr (2, [some none, none]))]) sg (fun v Sk2 s2 c z => v = none ∧ Sk2 = Sk ++ [.inr (.inr (2, [some (some (b + 1)), none])), .inl 96] ∧ c = 1 ∧ z = 96 ∧ (∀ q, q < b → s2 q = sg q) ∧ s2 b 1 = 0) := by
  refine EvK.of (ini := true) rfl ⟨rfl, Nat.le_of_ble_eq_true rfl⟩ rfl ?_
  show GoK 0 2 2 none true prog_4_method_1_code 0 [(0, .inr (.inr (some b))), (1, .inl 96)] [] (Sk ++ [.inr (.inr (2, [some none, none]))]) sg 0 0 _
  refine gk0 1 [(0, .inr (.inr (some b))), (1, .inl 96)] [.inr (.inr (some b))] dM_13_0 (fun _ => rfl) (Or.inr rfl) ?_
  refine gk0 4 [(0, .inr (.inr (some b))), (1, .inl 96)] [] dM_13_1 (fun _ => rfl) (Or.inr rfl) ?_
  refine gk0 5 [(0, .inr (.inr (some b))), (1, .inl 96)] [.inr (.inr (some b))] dM_13_4 (fun _ => rfl) (Or.inr rfl) ?_
  refine gk0 6 [(0, .inr (.inr (some b))), (1, .inl 96)] [.inl 96, .inr (.inr (some b))] dM_13_5 (fun _ => rfl) (Or.inr rfl) ?_
  refine gk0 7 [(0, .inr (.inr (some b))), (1, .inl 96)] [.inl 0, .inl 96, .inr (.inr (some b))] dM_13_6 (fun _ => rfl) (Or.inr rfl) ?_
  refine gk0 10 [(0, .inr (.inr (some b))), (1, .inl 96)] [.inl 96, .inr (.inr (some b))] dM_13_7 (fun _ => rfl) (Or.inr rfl) ?_
  refine gkNewA (nn := 96) (k := b + 1) (Sk2 := Sk ++ [.inr (.inr (2, [some none, none])), .inl 96]) dM_13_10 (by decide) rfl (by decide) (len_r hb rfl) (app_r rfl) ?_
  refine gkPutR (Sk2 := Sk ++ [.inr (.inr (2, [some (some (b + 1)), none])), .inl 96]) dM_13_12 (at_r hb (j := 0) rfl rfl) rfl rfl rfl (fun _ => ⟨rfl, rfl⟩) (set_r hb (j := 0) rfl rfl) ?_
  refine gk0 16 [(0, .inr (.inr (some b))), (1, .inl 96)] [.inr (.inr (some b))] dM_13_15 (fun _ => rfl) (Or.inr rfl) ?_
  refine gk0 17 [(0, .inr (.inr (some b))), (1, .inl 96)] [.inl 0, .inr (.inr (some b))] dM_13_16 (fun _ => rfl) (Or.inr rfl) ?_
  refine gkPut dM_13_17 (at_r hb (j := 0) rfl rfl) rfl rfl rfl (fun q => by cases q) ?_
  exact gkRet (r := none) dM_13_20 (fun _ => rfl) (Or.inr rfl) ⟨rfl, rfl, rfl, rfl, fun q hq => by rw [up2_nk _ _ _ (by omega), upC_ne _ _ (by omega)], up2_same _ _ _ _⟩
theorem k_row32 {Sk : List rSk} {b : Nat} (hb : Sk.length = b) (sg : rSg) : EvK 1 13 [.inr (.inr (some b)), .inl 32] (Sk ++ [.inr (.inr (2, [some none, none]))]) sg (fun v Sk2 s2 c z => v = none ∧ Sk2 = Sk ++ [.inr (.inr (2, [some (some (b + 1)), none])), .inl 32] ∧ c = 1 ∧ z = 32 ∧ (∀ q, q < b → s2 q = sg q) ∧ s2 b 1 = 0) := by
  refine EvK.of (ini := true) rfl ⟨rfl, Nat.le_of_ble_eq_true rfl⟩ rfl ?_
  show GoK 0 2 2 none true prog_4_method_1_code 0 [(0, .inr (.inr (some b))), (1, .inl 32)] [] (Sk ++ [.inr (.inr (2, [some none, none]))]) sg 0 0 _
  refine gk0 1 [(0, .inr (.inr (some b))), (1, .inl 32)] [.inr (.inr (some b))] dM_13_0 (fun _ => rfl) (Or.inr rfl) ?_
  refine gk0 4 [(0, .inr (.inr (some b))), (1, .inl 32)] [] dM_13_1 (fun _ => rfl) (Or.inr rfl) ?_
  refine gk0 5 [(0, .inr (.inr (some b))), (1, .inl 32)] [.inr (.inr (some b))] dM_13_4 (fun _ => rfl) (Or.inr rfl) ?_
  refine gk0 6 [(0, .inr (.inr (some b))), (1, .inl 32)] [.inl 32, .inr (.inr (some b))] dM_13_5 (fun _ => rfl) (Or.inr rfl) ?_
  refine gk0 7 [(0, .inr (.inr (some b))), (1, .inl 32)] [.inl 0, .inl 32, .inr (.inr (some b))] dM_13_6 (fun _ => rfl) (Or.inr rfl) ?_
  refine gk0 10 [(0, .inr (.inr (some b))), (1, .inl 32)] [.inl 32, .inr (.inr (some b))] dM_13_7 (fun _ => rfl) (Or.inr rfl) ?_
  refine gkNewA (nn := 32) (k := b + 1) (Sk2 := Sk ++ [.inr (.inr (2, [some none, none])), .inl 32]) dM_13_10 (by decide) rfl (by decide) (len_r hb rfl) (app_r rfl) ?_
  refine gkPutR (Sk2 := Sk ++ [.inr (.inr (2, [some (some (b + 1)), none])), .inl 32]) dM_13_12 (at_r hb (j := 0) rfl rfl) rfl rfl rfl (fun _ => ⟨rfl, rfl⟩) (set_r hb (j := 0) rfl rfl) ?_
  refine gk0 16 [(0, .inr (.inr (some b))), (1, .inl 32)] [.inr (.inr (some b))] dM_13_15 (fun _ => rfl) (Or.inr rfl) ?_
  refine gk0 17 [(0, .inr (.inr (some b))), (1, .inl 32)] [.inl 0, .inr (.inr (some b))] dM_13_16 (fun _ => rfl) (Or.inr rfl) ?_
  refine gkPut dM_13_17 (at_r hb (j := 0) rfl rfl) rfl rfl rfl (fun q => by cases q) ?_
  exact gkRet (r := none) dM_13_20 (fun _ => rfl) (Or.inr rfl) ⟨rfl, rfl, rfl, rfl, fun q hq => by rw [up2_nk _ _ _ (by omega), upC_ne _ _ (by omega)], up2_same _ _ _ _⟩
