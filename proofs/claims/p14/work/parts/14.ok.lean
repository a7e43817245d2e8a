/-! the methods' words, and the calls' -/
def chkO (own : Nat) : Bool := match rCl[own]? with
  | some q => decide (q.1 = rCn own)
  | none => false
def chkM (y : Nat) : Bool := match rMs[y]?, rMp[y]? with
  | some (own, nm, _, nL, _, k, st), some (_, p2, p3) => rEq p2 (.initialized nm.cls) && (plainName nm.cls && (decide (nm.cls = rCn own) && (decide (nm.cls ≠ "java/lang/invoke/MethodHandle") && (decide (nm.cls ≠ "java/lang/invoke/VarHandle") && (decide (nL ≤ 21) && (bif st then (rEq p3 (.static nm) && decide ((parseMethodDescriptor nm.desc).map (fun d => d.parameters.length) = some k)) else (rEq p3 (.instanceMethod nm) && (decide ((parseMethodDescriptor nm.desc).map (fun d => d.parameters.length + 1) = some k) && chkO own))))))))
  | _, _ => false
set_option maxRecDepth 100000 in
theorem chkM_all0 : (List.range 210).all chkM = true := by decide +kernel
theorem chkM_all {y : Nat} (h : y < 210) : chkM y = true := List.all_eq_true.mp chkM_all0 y (List.mem_range.mpr h)
def rMc (y : Nat) : Option Cond := match rMs[y]? with
  | some (_, nm, cc, nL, ret, _, _) => some (.code nm cc nL ret)
  | none => none
def rMd (y : Nat) : Option Cond := match rMp[y]? with
  | some (p1, _, _) => lw_tbl[p1]?
  | none => none
set_option maxRecDepth 100000 in
set_option maxHeartbeats 4000000 in
theorem rMcd_0 : (List.range 20).map (fun y => rMc (0 + y)) = (List.range 20).map (fun y => rMd (0 + y)) := rfl
set_option maxRecDepth 100000 in
set_option maxHeartbeats 4000000 in
theorem rMcd_1 : (List.range 20).map (fun y => rMc (20 + y)) = (List.range 20).map (fun y => rMd (20 + y)) := rfl
set_option maxRecDepth 100000 in
set_option maxHeartbeats 4000000 in
theorem rMcd_2 : (List.range 20).map (fun y => rMc (40 + y)) = (List.range 20).map (fun y => rMd (40 + y)) := rfl
set_option maxRecDepth 100000 in
set_option maxHeartbeats 4000000 in
theorem rMcd_3 : (List.range 20).map (fun y => rMc (60 + y)) = (List.range 20).map (fun y => rMd (60 + y)) := rfl
set_option maxRecDepth 100000 in
set_option maxHeartbeats 4000000 in
theorem rMcd_4 : (List.range 20).map (fun y => rMc (80 + y)) = (List.range 20).map (fun y => rMd (80 + y)) := rfl
set_option maxRecDepth 100000 in
set_option maxHeartbeats 4000000 in
theorem rMcd_5 : (List.range 20).map (fun y => rMc (100 + y)) = (List.range 20).map (fun y => rMd (100 + y)) := rfl
set_option maxRecDepth 100000 in
set_option maxHeartbeats 4000000 in
theorem rMcd_6 : (List.range 20).map (fun y => rMc (120 + y)) = (List.range 20).map (fun y => rMd (120 + y)) := rfl
set_option maxRecDepth 100000 in
set_option maxHeartbeats 4000000 in
theorem rMcd_7 : (List.range 20).map (fun y => rMc (140 + y)) = (List.range 20).map (fun y => rMd (140 + y)) := rfl
set_option maxRecDepth 100000 in
set_option maxHeartbeats 4000000 in
theorem rMcd_8 : (List.range 20).map (fun y => rMc (160 + y)) = (List.range 20).map (fun y => rMd (160 + y)) := rfl
set_option maxRecDepth 100000 in
set_option maxHeartbeats 4000000 in
theorem rMcd_9 : (List.range 20).map (fun y => rMc (180 + y)) = (List.range 20).map (fun y => rMd (180 + y)) := rfl
set_option maxRecDepth 100000 in
set_option maxHeartbeats 4000000 in
theorem rMcd_10 : (List.range 10).map (fun y => rMc (200 + y)) = (List.range 10).map (fun y => rMd (200 + y)) := rfl
theorem rMcd_at {a n : Nat} (h : (List.range n).map (fun y => rMc (a + y)) = (List.range n).map (fun y => rMd (a + y))) {y : Nat} (h1 : a ≤ y) (h2 : y < a + n) : rMc y = rMd y := by
  have h3 := congrArg (fun l => l[y - a]?) h
  simp only [List.getElem?_map, List.getElem?_range (show y - a < n by omega), Option.map_some, Option.some.injEq] at h3
  rwa [show a + (y - a) = y by omega] at h3
theorem rMcd {y : Nat} (h : y < 210) : rMc y = rMd y := by
  by_cases h0 : y < 20
  · exact rMcd_at rMcd_0 (by omega) (by omega)
  by_cases h1 : y < 40
  · exact rMcd_at rMcd_1 (by omega) (by omega)
  by_cases h2 : y < 60
  · exact rMcd_at rMcd_2 (by omega) (by omega)
  by_cases h3 : y < 80
  · exact rMcd_at rMcd_3 (by omega) (by omega)
  by_cases h4 : y < 100
  · exact rMcd_at rMcd_4 (by omega) (by omega)
  by_cases h5 : y < 120
  · exact rMcd_at rMcd_5 (by omega) (by omega)
  by_cases h6 : y < 140
  · exact rMcd_at rMcd_6 (by omega) (by omega)
  by_cases h7 : y < 160
  · exact rMcd_at rMcd_7 (by omega) (by omega)
  by_cases h8 : y < 180
  · exact rMcd_at rMcd_8 (by omega) (by omega)
  by_cases h9 : y < 200
  · exact rMcd_at rMcd_9 (by omega) (by omega)
  by_cases h10 : y < 210
  · exact rMcd_at rMcd_10 (by omega) (by omega)
  omega
theorem rMs_len : rMs.length = 210 := by decide +kernel
theorem rOKm_ok : rOKm rG rCn rT rCl := by
  intro y own nm cc nL ret k st h
  have h1 : rMs[y]? = some (own, nm, cc, nL, ret, k, st) := h
  have hlt : y < 210 := by rw [← rMs_len]; exact (List.getElem?_eq_some_iff.mp h1).1
  have hc := chkM_all hlt
  have hcd := rMcd hlt
  have c1 : Cond.code nm cc nL ret ∈ rT := by
    unfold rMc rMd at hcd
    rw [h1] at hcd
    simp only at hcd
    split at hcd
    · exact List.mem_filter.mpr ⟨List.mem_of_getElem? hcd.symm, rfl⟩
    · cases hcd
  unfold chkM at hc
  rw [h1] at hc
  split at hc
  · next he _ =>
    cases he
    simp only [Bool.and_eq_true, decide_eq_true_eq] at hc
    obtain ⟨c2, c3, c4, c5, c6, c7, c8⟩ := hc
    refine ⟨c1, rEq_mem c2 rfl, c3, c4, c5, c6, c7, fun hs => ?_, fun hs => ?_⟩
    · subst hs
      simp only [cond_false, Bool.and_eq_true, decide_eq_true_eq] at c8
      obtain ⟨d1, d2, d3⟩ := c8
      refine ⟨rEq_mem d1 rfl, d2, ?_⟩
      unfold chkO at d3
      split at d3
      · next q hq => exact ⟨q, hq, by simpa using d3⟩
      · cases d3
    · subst hs
      simp only [cond_true, Bool.and_eq_true, decide_eq_true_eq] at c8
      exact ⟨rEq_mem c8.1 rfl, c8.2⟩
  · cases hc
def chkK (own : Nat) (e : Nat × (Nat × Nat) × Nat × Nat) : Bool := match e with
  | (i, (0, _), p1, _) => rEq p1 (.methodLink (rCn own) i Lib.objectInit)
  | (i, (1, y), p1, _) => match rMs[y]? with
    | some (_, nm, _, _, ret, _, st) => decide (nm.name = "<init>") && (decide (ret = none) && (decide (st = false) && rEq p1 (.methodLink (rCn own) i nm)))
    | none => false
  | (i, (2, y), p1, p2) => match rMs[y]? with
    | some (_, nm, _, _, _, _, st) => decide (st = false) && (rEq p1 (.methodLink (rCn own) i nm) && rEq p2 (.selects nm.cls nm nm))
    | none => false
  | (i, (3, y), p1, _) => match rMs[y]? with
    | some (_, nm, _, _, _, _, st) => decide (st = true) && rEq p1 (.methodLink (rCn own) i nm)
    | none => false
  | (i, (4, y), p1, _) => match rMs[y]? with
    | some (_, nm, _, _, _, _, st) => decide (st = true) && decide (rNw[p1]? = some (.methodLinkNest (rCn own) i nm "GoalsInAQueue"))
    | none => false
  | (i, (5, _), p1, _) => rEq p1 (.methodLink (rCn own) i arraycopyName)
  | (i, (6, _), p1, _) => rEq p1 (.classLink (rCn own) i sC)
  | (i, (7, _), p1, _) => rEq p1 (.classLink (rCn own) i ("[" ++ (FieldType.array .int).toString))
  | (i, (8, _), p1, _) => rEq p1 (.methodLink (rCn own) i Lib.Math.max.name)
  | (i, (9, _), p1, _) => rEq p1 (.methodLink (rCn own) i Lib.Math.min.name)
  | _ => false
set_option maxRecDepth 100000 in
theorem chkK_all : (List.range 15).all (fun own => (rKl.getD own []).all (chkK own)) = true := by decide +kernel
set_option maxRecDepth 100000 in
theorem rOb : rEq 116 (.instanceMethod Lib.objectInit) = true ∧ rEq 117 (.code Lib.objectInit ⟨#[0xb1]⟩ 1 none) = true ∧ rEq 260 (.native arraycopyName) = true ∧ rEq 259 (.static arraycopyName) = true ∧ rEq 103 (.initialized "java/lang/System") = true ∧ rEq 147 (.arrayClass .int) = true := by decide +kernel
set_option maxRecDepth 100000 in
theorem rOm : rEq 253 (.static Lib.Math.max.name) = true ∧ rEq 254 (.code Lib.Math.max.name Lib.Math.max.code 2 (some .int)) = true ∧ rEq 256 (.static Lib.Math.min.name) = true ∧ rEq 257 (.code Lib.Math.min.name Lib.Math.min.code 2 (some .int)) = true ∧ rEq 102 (.initialized "java/lang/Math") = true := by decide +kernel
theorem rOKk_ok : rOKk rG rCn rT rNw rCl := by
  intro own i kd y h
  have h1 : (rFind rKl own i).map (fun e => e.1) = some (kd, y) := h
  cases hf : rFind rKl own i with
  | none => rw [hf] at h1; cases h1
  | some e =>
    rw [hf] at h1
    obtain ⟨e1, p1, p2⟩ := e
    cases h1
    obtain ⟨hlt, hmem⟩ := rFind_in (n := 15) rfl hf
    have hc := List.all_eq_true.mp (List.all_eq_true.mp chkK_all own (List.mem_range.mpr hlt)) _ hmem
    obtain ⟨o1, o2, o3, o4, o5, o6⟩ := rOb
    obtain ⟨x1, x2, x3, x4, x5⟩ := rOm
    refine ⟨fun hk => ?_, fun hk => ?_, fun hk => ?_, fun hk => ?_, fun hk => ?_, fun hk => ?_, fun hk => ?_, fun hk => ?_, fun hk => ?_, fun hk => ?_⟩
    · subst hk
      exact ⟨rEq_mem hc rfl, rEq_mem o1 rfl, rEq_mem o2 rfl⟩
    · subst hk
      simp only [chkK] at hc
      split at hc
      · next own2 nm cc nL ret k st hm =>
        simp only [Bool.and_eq_true, decide_eq_true_eq] at hc
        obtain ⟨c1, rfl, rfl, c4⟩ := hc
        exact ⟨_, _, _, _, _, hm, c1, rEq_mem c4 rfl⟩
      · cases hc
    · subst hk
      simp only [chkK] at hc
      split at hc
      · next own2 nm cc nL ret k st hm =>
        simp only [Bool.and_eq_true, decide_eq_true_eq] at hc
        obtain ⟨rfl, c1, c2⟩ := hc
        exact ⟨_, _, _, _, _, _, hm, rEq_mem c1 rfl, rEq_mem c2 rfl⟩
      · cases hc
    · subst hk
      simp only [chkK] at hc
      split at hc
      · next own2 nm cc nL ret k st hm =>
        simp only [Bool.and_eq_true, decide_eq_true_eq] at hc
        obtain ⟨rfl, c1⟩ := hc
        exact ⟨_, _, _, _, _, _, hm, rEq_mem c1 rfl⟩
      · cases hc
    · subst hk
      simp only [chkK] at hc
      split at hc
      · next own2 nm cc nL ret k st hm =>
        simp only [Bool.and_eq_true, decide_eq_true_eq] at hc
        obtain ⟨rfl, c1⟩ := hc
        exact ⟨_, _, _, _, _, _, _, hm, List.mem_of_getElem? c1⟩
      · cases hc
    · subst hk
      exact ⟨rEq_mem hc rfl, rEq_mem o3 rfl, rEq_mem o4 rfl, rEq_mem o5 rfl⟩
    · subst hk
      exact rEq_mem hc rfl
    · subst hk
      exact rEq_mem hc rfl
    · subst hk
      exact ⟨rEq_mem hc rfl, rEq_mem x1 rfl, rEq_mem x5 rfl, rEq_mem x2 rfl⟩
    · subst hk
      exact ⟨rEq_mem hc rfl, rEq_mem x3 rfl, rEq_mem x5 rfl, rEq_mem x4 rfl⟩
def isNest : Cond → Bool
  | .fieldLinkNest _ _ _ _ _ _ => true
  | .methodLinkNest _ _ _ _ => true
  | _ => false
theorem isNest_ok {w : Cond} (h : isNest w = true) : (∃ a i b n d h, w = Cond.fieldLinkNest a i b n d h) ∨ ∃ a i x h, w = Cond.methodLinkNest a i x h := by
  unfold isNest at h
  split at h
  · exact Or.inl ⟨_, _, _, _, _, _, rfl⟩
  · exact Or.inr ⟨_, _, _, _, rfl⟩
  · cases h
theorem rNw_nest : rNw.all isNest = true := by decide +kernel
set_option maxRecDepth 100000 in
theorem rNw_in : (rNw.zip rNwP).all (fun q => rEq q.2 q.1) = true ∧ rNw.length = rNwP.length := by decide +kernel
theorem rOK_ok : rOK rG rCn rT rNw rCl := ⟨rOKf_ok, rOKn_ok, rOKc_ok, rOKm_ok, rOKk_ok, rEq_mem rOb.2.2.2.2.2 rfl, ⟨TX5, _, rfl⟩, fun w hw => (List.mem_filter.mp hw).2, fun w hw => isNest_ok (List.all_eq_true.mp rNw_nest w hw)⟩
