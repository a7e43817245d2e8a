/-! THAT THE TABLES ARE THE MACHINE'S: each entry by the place of its words -/
def rT : List Cond := lw_tbl.filter goodWord
def rEq (i : Nat) (w : Cond) : Bool := decide (lw_tbl[i]? = some w)
theorem rEq_mem {i : Nat} {w : Cond} (h : rEq i w = true) (hg : goodWord w = true) : w ∈ rT := List.mem_filter.mpr ⟨List.mem_of_getElem? (of_decide_eq_true h), hg⟩
def rLay : List (List Nat) := [[373],
  [322, 324, 326, 328, 330, 332, 334, 336],
  [385, 387],
  [173, 175, 177, 179, 181, 183, 185, 187, 189],
  [281, 283, 285, 287, 289, 291, 293, 295, 297, 299, 301, 303, 305],
  [220, 222, 224, 226, 228],
  [352, 354, 356, 358, 360, 362],
  [132, 134, 136, 138, 140, 142, 144],
  [406, 408, 410, 412, 414, 416, 418, 420, 422, 424, 426, 428, 430, 432],
  [975, 977, 979, 981, 983, 985, 987, 989, 991, 993, 995, 997, 999, 1001, 1003, 1005, 1007, 1009, 1011, 1013, 1015, 1017, 1019, 1021, 1023, 1025, 1027, 1029, 1031, 1033, 1035, 1037, 1039, 1041, 1043, 1045, 1047, 1049, 1051, 1053, 1055, 1057, 1059, 1061, 1063, 1065, 1067, 1069, 1071, 1073, 1075, 1077, 1079, 1081, 1083, 1085, 1087, 1089, 1091, 1093]]
def rTyp (ci : Nat) : Nat → FieldType := ([tyX0, tyX1, tyX2, tyX3, tyX4, tyX5, tyX6, tyX7, tyX8, tyX9] : List (Nat → FieldType)).getD ci (fun _ => .int)
def chkT (t : Nat) (ty : FieldType) : Bool := match t, ty with
  | 0, .int => true
  | 1, .boolean => true
  | 2, .object _ => true
  | 2, .array _ => true
  | _, _ => false
theorem chkT_ok {t : Nat} {ty : FieldType} (h : chkT t ty = true) : (t = 0 → ty = .int) ∧ (t = 1 → ty = .boolean) ∧ (t = 2 → (∃ n, ty = .object n) ∨ ∃ x, ty = .array x) := by
  unfold chkT at h
  split at h
  · exact ⟨fun _ => rfl, fun h => (by cases h), fun h => (by cases h)⟩
  · exact ⟨fun h => (by cases h), fun _ => rfl, fun h => (by cases h)⟩
  · exact ⟨fun h => (by cases h), fun h => (by cases h), fun _ => Or.inl ⟨_, rfl⟩⟩
  · exact ⟨fun h => (by cases h), fun h => (by cases h), fun _ => Or.inr ⟨_, rfl⟩⟩
  · cases h
def chkL (ci : Nat) : Bool := match rCl[ci]? with
  | some (C, T, N) => (List.range N).all (fun k => rEq ((rLay.getD ci []).getD k 0) (u_lay C T k))
  | none => true
theorem goodLay (C : String) (T : u_T) (k : Nat) : goodWord (u_lay C T k) = true := by
  unfold u_lay
  split <;> rfl
set_option maxRecDepth 100000 in
theorem chkL_all : (List.range 10).all chkL = true := by decide +kernel
theorem rCl_ws {ci : Nat} {C : String} {T : u_T} {N : Nat} (h : rCl[ci]? = some (C, T, N)) : ∀ w ∈ u_ws C T N, w ∈ rT := by
  have hlt : ci < 10 := (List.getElem?_eq_some_iff.mp h).1
  have hc := List.all_eq_true.mp chkL_all ci (List.mem_range.mpr hlt)
  unfold chkL at hc
  rw [h] at hc
  intro w hw
  obtain ⟨k, hk, rfl⟩ := List.mem_map.mp hw
  exact rEq_mem (List.all_eq_true.mp hc k hk) (goodLay C T k)
theorem rCl_ty {ci : Nat} {C : String} {T : u_T} {N : Nat} (h : rCl[ci]? = some (C, T, N)) : (∀ k, k < N → parseFieldDescriptor (T k).2.2.1 = some (rTyp ci k)) ∧ (∀ a, a < N → ∀ b, b < N → a ≠ b → (T a).2.1 ≠ (T b).2.1) := by
  have hlt : ci < 10 := (List.getElem?_eq_some_iff.mp h).1
  match ci, hlt, h with
  | 0, _, h => cases h; exact ⟨tyX0_ok, nmX0⟩
  | 1, _, h => cases h; exact ⟨tyX1_ok, nmX1⟩
  | 2, _, h => cases h; exact ⟨tyX2_ok, nmX2⟩
  | 3, _, h => cases h; exact ⟨tyX3_ok, nmX3⟩
  | 4, _, h => cases h; exact ⟨tyX4_ok, nmX4⟩
  | 5, _, h => cases h; exact ⟨tyX5_ok, nmX5⟩
  | 6, _, h => cases h; exact ⟨tyX6_ok, nmX6⟩
  | 7, _, h => cases h; exact ⟨tyX7_ok, nmX7⟩
  | 8, _, h => cases h; exact ⟨tyX8_ok, nmX8⟩
  | 9, _, h => cases h; exact ⟨tyX9_ok, nmX9⟩
def chkF (own : Nat) (e : Nat × rFld × Nat) : Bool := match e with
  | (i, (ci, j, t, fin, nest), pl) => match rCl[ci]? with
    | some (_, T, N) => decide (j < N) && (decide ((T j).2.2.2 = fin) && ((bif nest then decide (rNw[pl]? = some (.fieldLinkNest (rCn own) i (T j).1 (T j).2.1 (T j).2.2.1 "GoalsInAQueue")) else (decide ((T j).1 = rCn own) && rEq pl (.fieldLink (rCn own) i (T j).1 (T j).2.1 (T j).2.2.1))) && chkT t (rTyp ci j)))
    | none => false
set_option maxRecDepth 100000 in
theorem chkF_all : (List.range 15).all (fun own => (rFl.getD own []).all (chkF own)) = true := by decide +kernel
theorem rFind_in {α : Type} {l : List (List (Nat × α))} {own i : Nat} {a : α} {n : Nat} (hn : l.length = n) (h : rFind l own i = some a) : own < n ∧ (i, a) ∈ l.getD own [] := by
  unfold rFind at h
  cases hf : (l.getD own []).find? (fun e => e.1 == i) with
  | none => rw [hf] at h; cases h
  | some e =>
    rw [hf] at h
    cases h
    have h1 : e.1 = i := by simpa using List.find?_some hf
    have h2 := List.mem_of_find?_eq_some hf
    refine ⟨?_, by rw [← h1]; exact h2⟩
    by_cases hl : own < l.length
    · omega
    · rw [List.getD_eq_getElem?_getD, List.getElem?_eq_none (by omega)] at h2
      simp at h2
theorem rOKf_ok : rOKf rG rCn rT rNw rCl := by
  intro own i ci j t fin nest h
  have h1 : (rFind rFl own i).map (fun e => e.1) = some (ci, j, t, fin, nest) := h
  cases hf : rFind rFl own i with
  | none => rw [hf] at h1; cases h1
  | some e =>
    rw [hf] at h1
    obtain ⟨e1, pl⟩ := e
    cases h1
    obtain ⟨hlt, hmem⟩ := rFind_in (n := 15) rfl hf
    have hc := List.all_eq_true.mp (List.all_eq_true.mp chkF_all own (List.mem_range.mpr hlt)) _ hmem
    unfold chkF at hc
    simp only at hc
    split at hc
    · next C T N hcl =>
      simp only [Bool.and_eq_true, decide_eq_true_eq] at hc
      obtain ⟨c1, c2, c3, c4⟩ := hc
      obtain ⟨t0, t1, t2⟩ := chkT_ok c4
      obtain ⟨p1, p2⟩ := rCl_ty hcl
      refine ⟨C, T, N, rTyp ci, hcl, c1, rCl_ws hcl, p1, p2, c2, fun hn => ?_, fun hn => ?_, t0, t1, t2⟩
      · subst hn
        simp only [cond_false, Bool.and_eq_true, decide_eq_true_eq] at c3
        exact ⟨c3.1, rEq_mem c3.2 rfl⟩
      · subst hn
        simp only [cond_true, decide_eq_true_eq] at c3
        exact ⟨_, List.mem_of_getElem? c3⟩
    · cases hc
def rDv : rv → Value
  | .inl x => .int x
  | _ => .null
def chkD (ty : FieldType) (v : Option rv) : Bool := match ty, v with
  | .int, some (.inl x) => x == 0
  | .boolean, some (.inl x) => x == 0
  | .object _, some (.inr (.inr none)) => true
  | .array _, some (.inr (.inr none)) => true
  | _, _ => false
def chkN (own : Nat) (e : Nat × (Nat × List rv) × Nat × Nat × Nat) : Bool := match e with
  | (i, (ci, fs), p1, p2, p3) => match rCl[ci]? with
    | some (C, _, N) => rEq p1 (.classLink (rCn own) i C) && (rEq p2 (.instantiable C N) && (rEq p3 (.initialized C) && (decide (fs.length = N) && (List.range N).all (fun j => chkD (rTyp ci j) fs[j]?))))
    | none => false
set_option maxRecDepth 100000 in
theorem chkN_all : (List.range 15).all (fun own => (rNl.getD own []).all (chkN own)) = true := by decide +kernel
theorem chkD_ok {ty : FieldType} {v : rv} (h : chkD ty (some v) = true) : defaultValue ty = rDv v ∧ ∀ al, rvV al v = some (rDv v) := by
  unfold chkD at h
  split at h
  · next x hx => cases hx; have : x = 0 := by simpa using h
                 subst this; exact ⟨rfl, fun _ => rfl⟩
  · next x hx => cases hx; have : x = 0 := by simpa using h
                 subst this; exact ⟨rfl, fun _ => rfl⟩
  · next hx => cases hx; exact ⟨rfl, fun _ => rfl⟩
  · next hx => cases hx; exact ⟨rfl, fun _ => rfl⟩
  · cases h
theorem rOKn_ok : rOKn rG rCn rT rCl := by
  intro own i ci fs h
  have h1 : (rFind rNl own i).map (fun e => e.1) = some (ci, fs) := h
  cases hf : rFind rNl own i with
  | none => rw [hf] at h1; cases h1
  | some e =>
    rw [hf] at h1
    obtain ⟨e1, p1, p2, p3⟩ := e
    cases h1
    obtain ⟨hlt, hmem⟩ := rFind_in (n := 15) rfl hf
    have hc := List.all_eq_true.mp (List.all_eq_true.mp chkN_all own (List.mem_range.mpr hlt)) _ hmem
    unfold chkN at hc
    simp only at hc
    split at hc
    · next C T N hcl =>
      simp only [Bool.and_eq_true, decide_eq_true_eq] at hc
      obtain ⟨c1, c2, c3, c4, c5⟩ := hc
      obtain ⟨q1, q2⟩ := rCl_ty hcl
      have hd : ∀ j, j < N → ∃ v, fs[j]? = some v ∧ defaultValue (rTyp ci j) = rDv v ∧ ∀ al, rvV al v = some (rDv v) := fun j hj => by
        have h2 := List.all_eq_true.mp c5 j (List.mem_range.mpr hj)
        cases hv : fs[j]? with
        | none => rw [List.getElem?_eq_none_iff] at hv; omega
        | some v =>
          rw [hv] at h2
          exact ⟨v, rfl, chkD_ok h2⟩
      refine ⟨C, T, N, rTyp ci, fs.map rDv, hcl, rCl_ws hcl, q1, rEq_mem c1 rfl, rEq_mem c2 rfl, rEq_mem c3 rfl, c4, fun al => ?_, fun j hj => ?_⟩
      · unfold rRS
        rw [List.map_map]
        apply List.map_congr_left
        intro v hv
        obtain ⟨j, hj⟩ := List.getElem?_of_mem hv
        obtain ⟨v2, hv2, -, h3⟩ := hd j (by rw [← c4]; exact (List.getElem?_eq_some_iff.mp hj).1)
        rw [hj] at hv2
        cases hv2
        exact h3 al
      · obtain ⟨v, hv, h3, -⟩ := hd j hj
        rw [h3]
        unfold vp_V
        rw [List.getD_eq_getElem?_getD, List.getElem?_map, hv]
        rfl
    · cases hc
def chkC (own : Nat) (e : Nat × Int32 × Nat) : Bool := rEq e.2.2 (.constant (rCn own) e.1 e.2.1)
def chkCl (own : Nat) (e : Nat × Int64 × Nat) : Bool := rEq e.2.2 (.constantLong (rCn own) e.1 e.2.1)
set_option maxRecDepth 100000 in
theorem chkC_all : (List.range 15).all (fun own => (rCs.getD own []).all (chkC own)) = true := by decide +kernel
set_option maxRecDepth 100000 in
theorem chkCl_all : (List.range 15).all (fun own => (rLs.getD own []).all (chkCl own)) = true := by decide +kernel
theorem rOKc_ok : rOKc rG rCn rT := by
  refine ⟨fun own i v h => ?_, fun own i v h => ?_⟩
  · have h1 : (rFind rCs own i).map (fun e => e.1) = some v := h
    cases hf : rFind rCs own i with
    | none => rw [hf] at h1; cases h1
    | some e =>
      rw [hf] at h1
      cases h1
      obtain ⟨hlt, hmem⟩ := rFind_in (n := 15) rfl hf
      exact rEq_mem (List.all_eq_true.mp (List.all_eq_true.mp chkC_all own (List.mem_range.mpr hlt)) _ hmem) rfl
  · have h1 : (rFind rLs own i).map (fun e => e.1) = some v := h
    cases hf : rFind rLs own i with
    | none => rw [hf] at h1; cases h1
    | some e =>
      rw [hf] at h1
      cases h1
      obtain ⟨hlt, hmem⟩ := rFind_in (n := 15) rfl hf
      exact rEq_mem (List.all_eq_true.mp (List.all_eq_true.mp chkCl_all own (List.mem_range.mpr hlt)) _ hmem) rfl
