/-! CONSTRUCTOR of Search, whole (by program: wip/whole/gen_sea2.py) -/
def seSk (b : Nat) : List rSk := .inr (.inr (4, [some (some (b + 1)), some (some 1), some (some (b + 5)), some (some (b + 126)), some (some (b + 217)), some (some (b + 218)), some (some (b + 221)), none, none, none, none, none, none])) :: ((((scSk (b + 1) ++ (arF 40 (b + 6) 40 :: stsSk (b + 6) 40)) ++ [arF 30 (b + 127) 30]) ++ stsSk (b + 127) 30) ++ (.inl 30 :: (stSk (b + 218) ++ stSk (b + 221))))
theorem seSk_len (b : Nat) : (seSk b).length = 224 := by
  have h1 := stsSk_len (b + 6) 40
  have h2 := stsSk_len (b + 127) 30
  unfold seSk
  generalize stsSk (b + 6) 40 = Q1 at h1 ⊢
  generalize stsSk (b + 127) 30 = Q2 at h2 ⊢
  simp [scSk, stSk, h1, h2]
def scF (s : rSg) (k : Nat) : Prop := s k 3 = 1 ∧ s k 4 = 0 ∧ s k 5 = 0 ∧ s k 6 = 1 ∧ s k 7 = 0 ∧ s k 8 = 0 ∧ s (k + 1) 0 = 42
/-- a search that has just begun -/
def seF (s : rSg) (b : Nat) : Prop := scF s (b + 1) ∧ (∀ i, i < 40 → ∀ j, j < 64 → s (b + 6 + 3 * i + 1) j = -1) ∧ (∀ i, i < 30 → ∀ j, j < 64 → s (b + 127 + 3 * i + 1) j = -1) ∧ (∀ j, j < 64 → s (b + 219) j = -1) ∧ (∀ j, j < 64 → s (b + 222) j = -1) ∧ s b 7 = 0 ∧ s b 8 = 1 ∧ s b 9 = 0 ∧ s b 10 = 0 ∧ s b 11 = 0 ∧ s b 12 = 1 ∧ s (b + 6) 2 = 6 ∧ s (b + 6) 3 = 1 ∧ s (b + 6) 4 = 0 ∧ s (b + 8) 0 = 0
theorem at_cons {T : List rSk} {j : Nat} {x s : rSk} (h : T[j]? = some s) : (x :: T)[j + 1]? = some s := by
  rw [List.getElem?_cons_succ]
  exact h
theorem isSeaA_mk {Sk : List rSk} {b : Nat} (hb : Sk.length = b) (h5 : 5 < b) {T : List rSk} (hT : T = seSk b) : isSeaA (Sk ++ T) b := by
  subst hT
  have hq1 := stsSk_at (b + 6) 40
  have hq2 := stsSk_at (b + 127) 30
  have hl1 := stsSk_len (b + 6) 40
  have hl2 := stsSk_len (b + 127) 30
  unfold seSk
  generalize stsSk (b + 6) 40 = Q1 at hq1 hl1 ⊢
  generalize stsSk (b + 127) 30 = Q2 at hq2 hl2 ⊢
  generalize hZ : (.inr (.inr (4, [some (some (b + 1)), some (some 1), some (some (b + 5)), some (some (b + 126)), some (some (b + 217)), some (some (b + 218)), some (some (b + 221)), none, none, none, none, none, none])) :: ((((scSk (b + 1) ++ (arF 40 (b + 6) 40 :: Q1)) ++ [arF 30 (b + 127) 30]) ++ Q2) ++ (.inl 30 :: (stSk (b + 218) ++ stSk (b + 221)))) : List rSk) = Z
  have hR : (scSk (b + 1) ++ (arF 40 (b + 6) 40 :: Q1)).length = 125 := by simp [scSk, hl1]
  have hR2 : ((scSk (b + 1) ++ (arF 40 (b + 6) 40 :: Q1)) ++ [arF 30 (b + 127) 30]).length = 126 := by rw [List.length_append, hR]; rfl
  have hR3 : (((scSk (b + 1) ++ (arF 40 (b + 6) 40 :: Q1)) ++ [arF 30 (b + 127) 30]) ++ Q2).length = 216 := by rw [List.length_append, hR2, hl2]
  have hs40 : ∀ i j s, i < 40 → j < 3 → (stSk (b + 6 + 3 * i))[j]? = some s → (Sk ++ Z)[b + 6 + 3 * i + j]? = some s := by
    intro i j s hi hj h
    have h1 := at_cons (x := arF 40 (b + 6) 40) (hq1 i j s hi hj h)
    have h2 := at_r (Sk := scSk (b + 1)) (b := 4) rfl (k := 4 + (3 * i + j + 1)) rfl h1
    have h3 := at_cons (x := .inr (.inr (4, [some (some (b + 1)), some (some 1), some (some (b + 5)), some (some (b + 126)), some (some (b + 217)), some (some (b + 218)), some (some (b + 221)), none, none, none, none, none, none]))) (at_l (T := .inl 30 :: (stSk (b + 218) ++ stSk (b + 221))) (at_l (T := Q2) (at_l (T := [arF 30 (b + 127) 30]) h2)))
    rw [hZ] at h3
    exact at_r hb (by omega) h3
  have hs30 : ∀ i j s, i < 30 → j < 3 → (stSk (b + 127 + 3 * i))[j]? = some s → (Sk ++ Z)[b + 127 + 3 * i + j]? = some s := by
    intro i j s hi hj h
    have h1 := at_r hR2 (k := 126 + (3 * i + j)) rfl (hq2 i j s hi hj h)
    have h3 := at_cons (x := .inr (.inr (4, [some (some (b + 1)), some (some 1), some (some (b + 5)), some (some (b + 126)), some (some (b + 217)), some (some (b + 218)), some (some (b + 221)), none, none, none, none, none, none]))) (at_l (T := .inl 30 :: (stSk (b + 218) ++ stSk (b + 221))) h1)
    rw [hZ] at h3
    exact at_r hb (by omega) h3
  have hend : ∀ j s, (.inl 30 :: (stSk (b + 218) ++ stSk (b + 221)) : List rSk)[j]? = some s → (Sk ++ Z)[b + 217 + j]? = some s := by
    intro j s h
    have h3 := at_cons (x := .inr (.inr (4, [some (some (b + 1)), some (some 1), some (some (b + 5)), some (some (b + 126)), some (some (b + 217)), some (some (b + 218)), some (some (b + 221)), none, none, none, none, none, none]))) (at_r hR3 (k := 216 + j) rfl h)
    rw [hZ] at h3
    exact at_r hb (by omega) h3
  have h126 : (Sk ++ Z)[b + 126]? = some (arF 30 (b + 127) 30) := by
    have h3 := at_cons (x := .inr (.inr (4, [some (some (b + 1)), some (some 1), some (some (b + 5)), some (some (b + 126)), some (some (b + 217)), some (some (b + 218)), some (some (b + 221)), none, none, none, none, none, none]))) (at_l (T := .inl 30 :: (stSk (b + 218) ++ stSk (b + 221))) (at_l (T := Q2) (at_r (T := [arF 30 (b + 127) 30]) hR (j := 0) (k := 125) rfl rfl)))
    rw [hZ] at h3
    exact at_r hb rfl h3
  have hlow : ∀ j s, Z[j]? = some s → (Sk ++ Z)[b + j]? = some s := fun j s h => at_r hb rfl h
  refine ⟨⟨h5, ?_, ?_, ?_, ?_, ⟨by omega, ?_, ?_, ?_, ?_⟩, ⟨by omega, ?_, ?_, ?_⟩, ⟨by omega, ?_, ?_, ?_⟩⟩, fun i hi => ⟨by omega, ?_, ?_, ?_⟩, fun i hi => ⟨by omega, ?_, ?_, ?_⟩⟩
  · exact hlow 0 _ (by rw [← hZ]; rfl)
  · exact hlow 5 _ (by rw [← hZ]; rfl)
  · exact h126
  · exact hend 0 _ rfl
  · exact hlow 1 _ (by rw [← hZ]; rfl)
  · exact hlow 2 _ (by rw [← hZ]; rfl)
  · exact hlow 3 _ (by rw [← hZ]; rfl)
  · exact hlow 4 _ (by rw [← hZ]; rfl)
  · exact hend 1 _ rfl
  · exact hend 2 _ rfl
  · exact hend 3 _ rfl
  · exact hend 4 _ rfl
  · exact hend 5 _ rfl
  · exact hend 6 _ rfl
  · exact hs40 i 0 _ hi (by decide) rfl
  · exact hs40 i 1 _ hi (by decide) rfl
  · exact hs40 i 2 _ hi (by decide) rfl
  · exact hs30 i 0 _ hi (by decide) rfl
  · exact hs30 i 1 _ hi (by decide) rfl
  · exact hs30 i 2 _ hi (by decide) rfl
theorem k_32 {Sk : List rSk} {b : Nat} (hb : Sk.length = b) (h5 : 5 < b) (sg : rSg) : EvK 4 32 [.inr (.inr (some b)), .inr (.inr (some 1))] (Sk ++ [.inr (.inr (4, [some none, some none, some none, some none, some none, some none, some none, none, none, none, none, none, none]))]) sg (fun v Sk2 s2 c z => v = none ∧ Sk2 = Sk ++ seSk b ∧ c = 223 ∧ z = 9965 ∧ (∀ q, q < b → s2 q = sg q) ∧ seF s2 b) := by
  refine EvK.of (ini := true) rfl ⟨rfl, Nat.le_of_ble_eq_true rfl⟩ rfl ?_
  show GoK 3 4 3 none true prog_6_method_1_code 0 [(0, .inr (.inr (some b))), (1, .inr (.inr (some 1)))] [] (Sk ++ [.inr (.inr (4, [some none, some none, some none, some none, some none, some none, some none, none, none, none, none, none, none]))]) sg 0 0 _
  refine gk0 1 [(0, .inr (.inr (some b))), (1, .inr (.inr (some 1)))] [.inr (.inr (some b))] dM_32_0 (fun _ => rfl) (Or.inr rfl) ?_
  refine gk0 4 [(0, .inr (.inr (some b))), (1, .inr (.inr (some 1)))] [] dM_32_1 (fun _ => rfl) (Or.inr rfl) ?_
  refine gk0 5 [(0, .inr (.inr (some b))), (1, .inr (.inr (some 1)))] [.inr (.inr (some b))] dM_32_4 (fun _ => rfl) (Or.inr rfl) ?_
  refine gk0 6 [(0, .inr (.inr (some b))), (1, .inr (.inr (some 1)))] [.inr (.inr (some 1)), .inr (.inr (some b))] dM_32_5 (fun _ => rfl) (Or.inr rfl) ?_
  refine gkPutR (Sk2 := Sk ++ [.inr (.inr (4, [some none, some (some 1), some none, some none, some none, some none, some none, none, none, none, none, none, none]))]) dM_32_6 (at_r hb (j := 0) rfl rfl) rfl rfl rfl (fun _ => ⟨rfl, rfl⟩) (set_r hb (j := 0) rfl rfl) ?_
  refine gk0 10 [(0, .inr (.inr (some b))), (1, .inr (.inr (some 1)))] [.inr (.inr (some b))] dM_32_9 (fun _ => rfl) (Or.inr rfl) ?_
  refine gkNew (sh := [some none, some none, some none, none, none, none, none, none, none]) (k := b + 1) (Sk2 := Sk ++ [.inr (.inr (4, [some none, some (some 1), some none, some none, some none, some none, some none, none, none, none, none, none, none])), .inr (.inr (3, [some none, some none, some none, none, none, none, none, none, none]))]) dM_32_10 rfl rfl (len_r hb rfl) (app_r rfl) ?_
  refine gk0 14 [(0, .inr (.inr (some b))), (1, .inr (.inr (some 1)))] [.inr (.inr (some (b + 1))), .inr (.inr (some (b + 1))), .inr (.inr (some b))] dM_32_13 (fun _ => rfl) (Or.inr rfl) ?_
  refine gkSk (Sk2 := (Sk ++ [.inr (.inr (4, [some none, some (some 1), some none, some none, some none, some none, some none, none, none, none, none, none, none]))]) ++ [.inr (.inr (3, [some none, some none, some none, none, none, none, none, none, none]))]) (by simp) ?_
  refine gkCallI dM_32_14 rfl rfl rfl (by decide) (at_r (len_r hb rfl) (j := 0) rfl rfl) rfl (Nat.le_of_ble_eq_true rfl) ((k_sc (b := b + 1) (len_r hb rfl) _).up (by decide)) ?_
  rintro _ _ t1 _ _ ⟨rfl, rfl, rfl, rfl, f0, f1⟩
  refine gkSk (Sk2 := Sk ++ [.inr (.inr (4, [some none, some (some 1), some none, some none, some none, some none, some none, none, none, none, none, none, none])), .inr (.inr (3, [some (some (b + 1 + 1)), some (some (b + 1 + 2)), some (some (b + 1 + 3)), none, none, none, none, none, none])), .inl 326, .inl 978, .inl 1280]) (by simp [scSk]) ?_
  refine gkPutR (Sk2 := Sk ++ [.inr (.inr (4, [some (some (b + 1)), some (some 1), some none, some none, some none, some none, some none, none, none, none, none, none, none])), .inr (.inr (3, [some (some (b + 1 + 1)), some (some (b + 1 + 2)), some (some (b + 1 + 3)), none, none, none, none, none, none])), .inl 326, .inl 978, .inl 1280]) dM_32_17 (at_r hb (j := 0) rfl rfl) rfl rfl rfl (fun _ => ⟨rfl, rfl⟩) (set_r hb (j := 0) rfl rfl) ?_
  refine gk0 21 [(0, .inr (.inr (some b))), (1, .inr (.inr (some 1)))] [.inr (.inr (some b))] dM_32_20 (fun _ => rfl) (Or.inr rfl) ?_
  refine gk0 23 [(0, .inr (.inr (some b))), (1, .inr (.inr (some 1)))] [.inl 40, .inr (.inr (some b))] dM_32_21 (fun _ => rfl) (Or.inr rfl) ?_
  refine gkANew (nn := 40) (k := b + 5) (Sk2 := Sk ++ [.inr (.inr (4, [some (some (b + 1)), some (some 1), some none, some none, some none, some none, some none, none, none, none, none, none, none])), .inr (.inr (3, [some (some (b + 1 + 1)), some (some (b + 1 + 2)), some (some (b + 1 + 3)), none, none, none, none, none, none])), .inl 326, .inl 978, .inl 1280, .inr (.inl (1, 40, fun _ => none))]) dM_32_23 rfl (by decide) rfl (by decide) (len_r hb rfl) (app_r rfl) ?_
  refine gkPutR (Sk2 := Sk ++ [.inr (.inr (4, [some (some (b + 1)), some (some 1), some (some (b + 5)), some none, some none, some none, some none, none, none, none, none, none, none])), .inr (.inr (3, [some (some (b + 1 + 1)), some (some (b + 1 + 2)), some (some (b + 1 + 3)), none, none, none, none, none, none])), .inl 326, .inl 978, .inl 1280, .inr (.inl (1, 40, fun _ => none))]) dM_32_26 (at_r hb (j := 0) rfl rfl) rfl rfl rfl (fun _ => ⟨rfl, rfl⟩) (set_r hb (j := 0) rfl rfl) ?_
  refine gk0 30 [(0, .inr (.inr (some b))), (1, .inr (.inr (some 1)))] [.inl 0] dM_32_29 (fun _ => rfl) (Or.inr rfl) ?_
  refine gk0 31 [(2, .inl 0), (0, .inr (.inr (some b))), (1, .inr (.inr (some 1)))] [] dM_32_30 (fun _ => rfl) (Or.inr rfl) ?_
  have k1 : ∀ q, q ≤ b → q ≠ b → t1 q = sg q := fun q h1 h2 => by rw [f0 q (by omega), upC_ne _ _ (by omega)]
  generalize hu1 : upC t1 (b + 5) (fun _ => 0) = u1
  have v1 : ∀ q, q ≠ b + 5 → u1 q = t1 q := fun q h => by rw [← hu1, upC_ne _ _ h]
  refine gkSk (Sk2 := (Sk ++ (.inr (.inr (4, [some (some (b + 1)), some (some 1), some (some (b + 5)), some none, some none, some none, some none, none, none, none, none, none, none])) :: (scSk (b + 1) ++ [arF 40 (b + 6) 0]))).set (b + 5) (arF 40 (b + 6) 0) ++ stsSk (b + 6) 0) ?_ ?_
  · rw [set_r hb (j := 5) rfl rfl]
    simp only [stsSk, List.append_nil, ← arF_0]
    rfl
  refine k_lp1 (n0 := b + 6) (c0 := 5) (z0 := 2633) (s1 := u1) (len_r hb rfl) (by omega) (by omega) (at_r hb (j := 0) rfl rfl) rfl (by omega) (fun s2 g1 g2 => ?_) 40 0 u1 rfl (fun _ _ => rfl) (fun j hj => absurd hj (by omega))
  have hQl := stsSk_len (b + 6) 40
  generalize hQ : stsSk (b + 6) 40 = Q at hQl
  rw [set_r hb (j := 5) (T2 := .inr (.inr (4, [some (some (b + 1)), some (some 1), some (some (b + 5)), some none, some none, some none, some none, none, none, none, none, none, none])) :: (scSk (b + 1) ++ [arF 40 (b + 6) 40])) rfl rfl]
  generalize hR : scSk (b + 1) ++ (arF 40 (b + 6) 40 :: Q) = R
  have hRl : R.length = 125 := by rw [← hR]; simp [scSk, hQl]
  refine gkSk (Sk2 := Sk ++ (.inr (.inr (4, [some (some (b + 1)), some (some 1), some (some (b + 5)), some none, some none, some none, some none, none, none, none, none, none, none])) :: R)) (by rw [← hR]; simp only [List.append_assoc, List.cons_append, List.nil_append]) ?_
  refine gk0 57 [(2, .inl (nI 40)), (0, .inr (.inr (some b))), (1, .inr (.inr (some 1)))] [.inr (.inr (some b))] dM_32_56 (fun _ => rfl) (Or.inr rfl) ?_
  refine gk0 59 [(2, .inl (nI 40)), (0, .inr (.inr (some b))), (1, .inr (.inr (some 1)))] [.inl 30, .inr (.inr (some b))] dM_32_57 (fun _ => rfl) (Or.inr rfl) ?_
  refine gkANew (nn := 30) (k := b + 126) (Sk2 := Sk ++ (.inr (.inr (4, [some (some (b + 1)), some (some 1), some (some (b + 5)), some none, some none, some none, some none, none, none, none, none, none, none])) :: (R ++ [.inr (.inl (1, 30, fun _ => none))]))) dM_32_59 rfl (by decide) rfl (by decide) (len_r hb (by simp [hRl])) (app_r rfl) ?_
  refine gkPutR (Sk2 := Sk ++ (.inr (.inr (4, [some (some (b + 1)), some (some 1), some (some (b + 5)), some (some (b + 126)), some none, some none, some none, none, none, none, none, none, none])) :: (R ++ [.inr (.inl (1, 30, fun _ => none))]))) dM_32_62 (at_r hb (j := 0) rfl rfl) rfl rfl rfl (fun _ => ⟨rfl, rfl⟩) (set_r hb (j := 0) rfl rfl) ?_
  refine gk0 66 [(2, .inl (nI 40)), (0, .inr (.inr (some b))), (1, .inr (.inr (some 1)))] [.inl 0] dM_32_65 (fun _ => rfl) (Or.inr rfl) ?_
  refine gk0 67 [(2, .inl (nI 0)), (0, .inr (.inr (some b))), (1, .inr (.inr (some 1)))] [] dM_32_66 (fun _ => rfl) (Or.inr rfl) ?_
  generalize hu2 : upC s2 (b + 126) (fun _ => 0) = u2
  have v2 : ∀ q, q ≠ b + 126 → u2 q = s2 q := fun q h => by rw [← hu2, upC_ne _ _ h]
  have hst : ∀ X : rSk, (.inr (.inr (4, [some (some (b + 1)), some (some 1), some (some (b + 5)), some (some (b + 126)), some none, some none, some none, none, none, none, none, none, none])) :: (R ++ [.inr (.inl (1, 30, fun _ => none))])).set 126 X = .inr (.inr (4, [some (some (b + 1)), some (some 1), some (some (b + 5)), some (some (b + 126)), some none, some none, some none, none, none, none, none, none, none])) :: (R ++ [X]) := by
    intro X
    show _ :: (R ++ [_]).set 125 X = _
    rw [List.set_append_right _ _ (by omega)]
    simp [hRl]
  refine gkSk (Sk2 := List.set (α := rSk) (Sk ++ (.inr (.inr (4, [some (some (b + 1)), some (some 1), some (some (b + 5)), some (some (b + 126)), some none, some none, some none, none, none, none, none, none, none])) :: (R ++ [.inr (.inl (1, 30, fun _ => none))]))) (b + 126) (arF 30 (b + 127) 0) ++ stsSk (b + 127) 0) ?_ ?_
  · rw [set_r hb (j := 126) rfl (hst _), ← arF_0]
    simp only [stsSk, List.append_nil]
  refine k_lp2 (n0 := b + 127) (c0 := 126) (z0 := 6703) (s1 := u2) (len_r hb (by simp [hRl])) (by omega) (by omega) (at_r hb (j := 0) rfl rfl) rfl (by omega) (fun s3 g3 g4 => ?_) 30 0 u2 rfl (fun _ _ => rfl) (fun j hj => absurd hj (by omega))
  rw [set_r hb (j := 126) rfl (hst _)]
  have hQ2l := stsSk_len (b + 127) 30
  generalize hQ2 : stsSk (b + 127) 30 = Q2 at hQ2l
  generalize hR2 : (R ++ [arF 30 (b + 127) 30]) ++ Q2 = R2
  have hR2l : R2.length = 216 := by rw [← hR2]; simp [hRl, hQ2l]
  refine gkSk (Sk2 := Sk ++ (.inr (.inr (4, [some (some (b + 1)), some (some 1), some (some (b + 5)), some (some (b + 126)), some none, some none, some none, none, none, none, none, none, none])) :: R2)) (by rw [← hR2]; simp only [List.append_assoc, List.cons_append, List.nil_append]) ?_
  refine gk0 93 [(2, .inl (nI 30)), (0, .inr (.inr (some b))), (1, .inr (.inr (some 1)))] [.inr (.inr (some b))] dM_32_92 (fun _ => rfl) (Or.inr rfl) ?_
  refine gk0 95 [(2, .inl (nI 30)), (0, .inr (.inr (some b))), (1, .inr (.inr (some 1)))] [.inl 30, .inr (.inr (some b))] dM_32_93 (fun _ => rfl) (Or.inr rfl) ?_
  refine gkNewA (nn := 30) (k := b + 217) (Sk2 := Sk ++ (.inr (.inr (4, [some (some (b + 1)), some (some 1), some (some (b + 5)), some (some (b + 126)), some none, some none, some none, none, none, none, none, none, none])) :: (R2 ++ [.inl 30]))) dM_32_95 (by decide) rfl (by decide) (len_r hb (by simp [hR2l])) (app_r rfl) ?_
  refine gkPutR (Sk2 := Sk ++ (.inr (.inr (4, [some (some (b + 1)), some (some 1), some (some (b + 5)), some (some (b + 126)), some (some (b + 217)), some none, some none, none, none, none, none, none, none])) :: (R2 ++ [.inl 30]))) dM_32_97 (at_r hb (j := 0) rfl rfl) rfl rfl rfl (fun _ => ⟨rfl, rfl⟩) (set_r hb (j := 0) rfl rfl) ?_
  generalize hu3 : upC s3 (b + 217) (fun _ => 0) = u3
  have v3 : ∀ q, q ≠ b + 217 → u3 q = s3 q := fun q h => by rw [← hu3, upC_ne _ _ h]
  have hl5 : (Sk ++ ((.inr (.inr (4, [some (some (b + 1)), some (some 1), some (some (b + 5)), some (some (b + 126)), some (some (b + 217)), some none, some none, none, none, none, none, none, none])) : rSk) :: (R2 ++ [.inl 30]))).length = b + 218 := len_r hb (by simp [hR2l])
  refine gk0 101 [(2, .inl (nI 30)), (0, .inr (.inr (some b))), (1, .inr (.inr (some 1)))] [.inr (.inr (some b))] dM_32_100 (fun _ => rfl) (Or.inr rfl) ?_
  refine gkNew (sh := [some none, some none, none, none, none]) (k := b + 218) dM_32_101 rfl rfl hl5 rfl ?_
  refine gk0 105 [(2, .inl (nI 30)), (0, .inr (.inr (some b))), (1, .inr (.inr (some 1)))] [.inr (.inr (some (b + 218))), .inr (.inr (some (b + 218))), .inr (.inr (some b))] dM_32_104 (fun _ => rfl) (Or.inr rfl) ?_
  refine gkCallI (P1 := fun v Sk2 s2 c2 z2 => v = none ∧ Sk2 = (Sk ++ (.inr (.inr (4, [some (some (b + 1)), some (some 1), some (some (b + 5)), some (some (b + 126)), some (some (b + 217)), some none, some none, none, none, none, none, none, none])) :: (R2 ++ [.inl 30]))) ++ stSk (b + 218) ∧ c2 = 2 ∧ z2 = 96 ∧ (∀ q, q < b + 218 → s2 q = upC u3 (b + 218) (fun _ => 0) q) ∧ stF s2 (b + 218)) dM_32_105 rfl rfl rfl (by decide) (at_r hl5 (j := 0) rfl rfl) rfl (Nat.le_of_ble_eq_true rfl) (k_50 hl5 (by omega) _ (fun s2 g1 g2 => ⟨rfl, rfl, rfl, rfl, g1, g2⟩)) ?_
  rintro _ _ s4 _ _ ⟨rfl, rfl, rfl, rfl, g5, g6⟩
  refine gkPutR (Sk2 := Sk ++ (.inr (.inr (4, [some (some (b + 1)), some (some 1), some (some (b + 5)), some (some (b + 126)), some (some (b + 217)), some (some (b + 218)), some none, none, none, none, none, none, none])) :: ((R2 ++ [.inl 30]) ++ stSk (b + 218)))) dM_32_108 (at_l (at_r hb (j := 0) rfl rfl)) rfl rfl rfl (fun _ => ⟨rfl, rfl⟩) (by rw [List.append_assoc]; exact set_r hb (j := 0) rfl rfl) ?_
  have hl6 : (Sk ++ ((.inr (.inr (4, [some (some (b + 1)), some (some 1), some (some (b + 5)), some (some (b + 126)), some (some (b + 217)), some (some (b + 218)), some none, none, none, none, none, none, none])) : rSk) :: ((R2 ++ [.inl 30]) ++ stSk (b + 218)))).length = b + 221 := len_r hb (by simp [hR2l, stSk])
  refine gk0 112 [(2, .inl (nI 30)), (0, .inr (.inr (some b))), (1, .inr (.inr (some 1)))] [.inr (.inr (some b))] dM_32_111 (fun _ => rfl) (Or.inr rfl) ?_
  refine gkNew (sh := [some none, some none, none, none, none]) (k := b + 221) dM_32_112 rfl rfl hl6 rfl ?_
  refine gk0 116 [(2, .inl (nI 30)), (0, .inr (.inr (some b))), (1, .inr (.inr (some 1)))] [.inr (.inr (some (b + 221))), .inr (.inr (some (b + 221))), .inr (.inr (some b))] dM_32_115 (fun _ => rfl) (Or.inr rfl) ?_
  refine gkCallI (P1 := fun v Sk2 s2 c2 z2 => v = none ∧ Sk2 = (Sk ++ (.inr (.inr (4, [some (some (b + 1)), some (some 1), some (some (b + 5)), some (some (b + 126)), some (some (b + 217)), some (some (b + 218)), some none, none, none, none, none, none, none])) :: ((R2 ++ [.inl 30]) ++ stSk (b + 218)))) ++ stSk (b + 221) ∧ c2 = 2 ∧ z2 = 96 ∧ (∀ q, q < b + 221 → s2 q = upC s4 (b + 221) (fun _ => 0) q) ∧ stF s2 (b + 221)) dM_32_116 rfl rfl rfl (by decide) (at_r hl6 (j := 0) rfl rfl) rfl (Nat.le_of_ble_eq_true rfl) (k_50 hl6 (by omega) _ (fun s2 g1 g2 => ⟨rfl, rfl, rfl, rfl, g1, g2⟩)) ?_
  rintro _ _ s5 _ _ ⟨rfl, rfl, rfl, rfl, g7, g8⟩
  have hfin : .inr (.inr (4, [some (some (b + 1)), some (some 1), some (some (b + 5)), some (some (b + 126)), some (some (b + 217)), some (some (b + 218)), some (some (b + 221)), none, none, none, none, none, none])) :: (((R2 ++ [.inl 30]) ++ stSk (b + 218)) ++ stSk (b + 221)) = seSk b := by
    rw [← hR2, ← hR]
    unfold seSk
    rw [hQ, hQ2]
    simp only [List.append_assoc, List.cons_append, List.nil_append]
  refine gkPutR (Sk2 := Sk ++ seSk b) dM_32_119 (at_l (at_r hb (j := 0) rfl rfl)) rfl rfl rfl (fun _ => ⟨rfl, rfl⟩) (by rw [List.append_assoc]; exact set_r hb (j := 0) rfl hfin) ?_
  refine gk0 123 [(2, .inl (nI 30)), (0, .inr (.inr (some b))), (1, .inr (.inr (some 1)))] [.inr (.inr (some b))] dM_32_122 (fun _ => rfl) (Or.inr rfl) ?_
  refine gkCallV dM_32_123 rfl rfl rfl (by decide) (at_r hb (j := 0) rfl rfl) rfl (Nat.le_of_ble_eq_true rfl) (c_begin2 (b := b) (isSeaA_mk hb h5 rfl) s5).k ?_
  rintro _ _ s6 _ _ ⟨rfl, rfl, rfl, rfl, b0, b1, b2, b3, b4, b5, b6, b7, b8, b9, b10, b11, b12, b13, b14, b15⟩
  have e5 : ∀ q, q < b + 218 → s5 q = u3 q := fun q h => by rw [g7 q (by omega), upC_ne _ _ (by omega), g5 q h, upC_ne _ _ (by omega)]
  have e3 : ∀ q, q < b + 127 → s3 q = u2 q := g3
  have e2 : ∀ q, q < b + 6 → s2 q = u1 q := g1
  have low : ∀ q, q < b + 5 → s5 q = t1 q := fun q h => by rw [e5 q (by omega), v3 q (by omega), e3 q (by omega), v2 q (by omega), e2 q (by omega), v1 q (by omega)]
  refine gkRet (r := none) dM_32_126 (fun _ => rfl) (Or.inr rfl) ⟨rfl, rfl, rfl, rfl, fun q hq => ?_, ⟨?_, ?_, ?_, ?_, ?_, ?_, ?_⟩, fun i hi j hj => ?_, fun i hi j hj => ?_, b1, fun j hj => ?_, b4, b5, b6, b7, b8, b9, b10, b11, b12, ?_⟩
  · rw [b2 q (Or.inl hq), low q (by omega), k1 q (by omega) (by omega)]
  · rw [b2 _ (Or.inr (Or.inr (by omega))), low _ (by omega)]; exact f1.1
  · rw [b2 _ (Or.inr (Or.inr (by omega))), low _ (by omega)]; exact f1.2.1
  · rw [b2 _ (Or.inr (Or.inr (by omega))), low _ (by omega)]; exact f1.2.2.1
  · rw [b2 _ (Or.inr (Or.inr (by omega))), low _ (by omega)]; exact f1.2.2.2.1
  · rw [b2 _ (Or.inr (Or.inr (by omega))), low _ (by omega)]; exact f1.2.2.2.2.1
  · rw [b2 _ (Or.inr (Or.inr (by omega))), low _ (by omega)]; exact f1.2.2.2.2.2.1
  · rw [b2 _ (Or.inr (Or.inr (by omega))), low _ (by omega)]; exact f1.2.2.2.2.2.2
  · have hg := (g2 i hi).1 j hj
    have h9 : s5 (b + 6 + 3 * i + 1) j = -1 := by rw [e5 _ (by omega), v3 _ (by omega), e3 _ (by omega), v2 _ (by omega)]; exact hg
    by_cases hi0 : i = 0
    · subst hi0
      by_cases hj6 : j < 6
      · exact b13 j hj6
      · rw [show b + 6 + 3 * 0 + 1 = b + 7 by omega] at h9 ⊢
        rw [b0 j (by omega)]; exact h9
    · rw [b15 _ (Or.inl (by omega))]; exact h9
  · have hg := (g4 i hi).1 j hj
    rw [b15 _ (Or.inl (by omega)), e5 _ (by omega), v3 _ (by omega)]
    exact hg
  · rw [b15 _ (Or.inr (by omega))]
    exact g8.1 j hj
  · rw [b14, low _ (by omega)]
    exact f1.2.2.1
