/-! MEET: the class, exactly, but for the turns -/
def fst1 (c : Nat) : Prop := c < 64 ∨ (128 ≤ c ∧ c < 256) ∨ (256 ≤ c ∧ c < 1280)
def unS2 (c : Nat) : Nat := if 1280 ≤ c then c - 1024 else c - 64
def shS : TV → TV
  | some (.inl e) => some (.inl (sec e))
  | some (.inr (.inr (a, b))) => some (.inr (.inr (sec a, sec b)))
  | x => x
/-- both answers side by side -/
noncomputable def jVw (V1 V2 : Nat → TV) (c : Nat) : TV := @ite _ (fst1 c) (Classical.propDecidable _) (V1 c) (shS (V2 (unS2 c)))
def jDm (D1 D2 : Nat → Prop) (c : Nat) : Prop := D1 c ∨ ∃ d, c = sec d ∧ D2 d
theorem jVw_1 {V1 V2 : Nat → TV} {c : Nat} (h : fst1 c) : jVw V1 V2 c = V1 c := if_pos h
theorem jVw_2 {V1 V2 : Nat → TV} {c : Nat} (h : ¬ fst1 c) : jVw V1 V2 c = shS (V2 (unS2 c)) := if_neg h
theorem unS2_sec {d : Nat} (h : d < 128 ∨ 256 ≤ d) (h9 : d < 64 ∨ 256 ≤ d) : unS2 (sec d) = d := by
  unfold unS2 sec
  rcases h9 with q | q
  · rw [if_neg (by omega : ¬ 256 ≤ d), if_pos (by omega : d < 128), if_neg (by omega)]
    omega
  · rw [if_pos q, if_pos (by omega)]
    omega
theorem sec_atom {d : Nat} (h : 128 ≤ d) (h2 : d < 256) : sec d = d := by
  unfold sec
  rw [if_neg (by omega), if_neg (by omega)]
theorem sec_nf {d : Nat} (h : d < 64 ∨ 256 ≤ d) : ¬ fst1 (sec d) := by
  unfold fst1 sec
  rcases h with q | q
  · rw [if_neg (by omega), if_pos (by omega)]
    omega
  · rw [if_pos q]
    omega
/-- codes of one answer -/
def cod1 (D : Nat → Prop) : Prop := ∀ c, D c → c < 64 ∨ (128 ≤ c ∧ c < 139) ∨ (256 ≤ c ∧ c < 896)
theorem cDm_cod {sg : rSg} {s kb tp np nv : Nat} {p : Nat → Nat} {fs ms : List Nat} {H : Nat → Prop} {K : Kx} (htn : tp ≤ np) (hn : np ≤ 640) (h : cCo sg s kb tp np p nv fs ms H K) : cod1 (cDm nv tp fs ms) := fun c hc => by
  have hnv := h.2.1.1
  rcases cFr_code h.2.1 htn hc with q | q | ⟨_, q⟩
  · exact Or.inl (by omega)
  · exact Or.inr (Or.inl q)
  · exact Or.inr (Or.inr (by omega))
/-- atoms mean themselves -/
def atm1 (V : Nat → TV) : Prop := ∀ c, 128 ≤ c → c < 139 → V c = some (.inr (.inl (c - 128)))
theorem jVw_D2 {V1 V2 : Nat → TV} {D2 : Nat → Prop} (c2 : cod1 D2) (a1 : atm1 V1) (a2 : atm1 V2) {d : Nat} (h : D2 d) : jVw V1 V2 (sec d) = shS (V2 d) := by
  rcases c2 d h with q | q | q
  · rw [jVw_2 (sec_nf (Or.inl q)), unS2_sec (Or.inl (by omega)) (Or.inl q)]
  · rw [sec_atom q.1 (by omega), jVw_1 (Or.inr (Or.inl (by omega))), a1 d q.1 q.2, a2 d q.1 q.2]
    rfl
  · rw [jVw_2 (sec_nf (Or.inr q.1)), unS2_sec (Or.inr q.1) (Or.inr q.1)]
theorem jVw_D1 {V1 V2 : Nat → TV} {D1 : Nat → Prop} (c1 : cod1 D1) {d : Nat} (h : D1 d) : jVw V1 V2 d = V1 d := jVw_1 (by
  rcases c1 d h with q | q | q
  · exact Or.inl q
  · exact Or.inr (Or.inl (by omega))
  · exact Or.inr (Or.inr (by omega)))
theorem sec_inj {a b : Nat} (ha : a < 64 ∨ (128 ≤ a ∧ a < 139) ∨ (256 ≤ a ∧ a < 896)) (hb : b < 64 ∨ (128 ≤ b ∧ b < 139) ∨ (256 ≤ b ∧ b < 896)) (h : sec a = sec b) : a = b := by
  unfold sec at h
  split at h <;> split at h <;> (try split at h) <;> (try split at h) <;> omega
/-- both are acyclic, so is what they make -/
theorem jOK {V1 V2 : Nat → TV} {D1 D2 : Nat → Prop} (c1 : cod1 D1) (c2 : cod1 D2) (a1 : atm1 V1) (a2 : atm1 V2) {rk1 rk2 : Nat → Nat} (o1 : vOK V1 D1 rk1) (o2 : vOK V2 D2 rk2) : ∃ rk, vOK (jVw V1 V2) (jDm D1 D2) rk := by
  have key : ∀ d, D2 d → ∃ r, r = (if 128 ≤ d ∧ d < 139 then 0 else rk2 d + 1) := fun d _ => ⟨_, rfl⟩
  refine ⟨fun c => if 128 ≤ c ∧ c < 139 then 0 else @ite _ (fst1 c) (Classical.propDecidable _) (rk1 c + 1) (rk2 (unS2 c) + 1), fun c hc => ?_⟩
  have r1 : ∀ d, D1 d → (if 128 ≤ d ∧ d < 139 then 0 else @ite _ (fst1 d) (Classical.propDecidable _) (rk1 d + 1) (rk2 (unS2 d) + 1)) = if 128 ≤ d ∧ d < 139 then 0 else rk1 d + 1 := fun d hd => by
    split
    · rfl
    · rw [if_pos]
      rcases c1 d hd with q | q | q
      · exact Or.inl q
      · exact Or.inr (Or.inl (by omega))
      · exact Or.inr (Or.inr (by omega))
  have r2 : ∀ d, D2 d → (if 128 ≤ sec d ∧ sec d < 139 then 0 else @ite _ (fst1 (sec d)) (Classical.propDecidable _) (rk1 (sec d) + 1) (rk2 (unS2 (sec d)) + 1)) = if 128 ≤ d ∧ d < 139 then 0 else rk2 d + 1 := fun d hd => by
    rcases c2 d hd with q | q | q
    · have e : sec d = d + 64 := by unfold sec; rw [if_neg (by omega), if_pos (by omega)]
      rw [if_neg (by omega), if_neg (sec_nf (Or.inl q)), unS2_sec (Or.inl (by omega)) (Or.inl q), if_neg (by omega)]
    · rw [sec_atom q.1 (by omega), if_pos q, if_pos q]
    · have e : sec d = d + 1024 := by unfold sec; rw [if_pos q.1]
      rw [if_neg (by omega), if_neg (sec_nf (Or.inr q.1)), unS2_sec (Or.inr q.1) (Or.inr q.1), if_neg (by omega)]
  rcases hc with hc | ⟨d, rfl, hd⟩
  · rw [jVw_D1 c1 hc]
    obtain ⟨p1, p2, p3⟩ := o1 c hc
    have na : (∃ x, V1 c = some (.inl x)) ∨ (∃ x y, V1 c = some (.inr (.inr (x, y)))) → ¬ (128 ≤ c ∧ c < 139) := fun h q => by
      rw [a1 c q.1 q.2] at h
      rcases h with ⟨_, h⟩ | ⟨_, _, h⟩ <;> cases h
    refine ⟨fun e he => ⟨Or.inl (p1 e he).1, ?_⟩, p2, fun a b he => ⟨⟨Or.inl (p3 a b he).1.1, ?_⟩, ⟨Or.inl (p3 a b he).2.1, ?_⟩⟩⟩
    · have := (p1 e he).2
      simp only
      rw [r1 e (p1 e he).1, r1 c hc, if_neg (na (Or.inl ⟨e, he⟩))]
      split <;> omega
    · have := (p3 a b he).1.2
      simp only
      rw [r1 a (p3 a b he).1.1, r1 c hc, if_neg (na (Or.inr ⟨a, b, he⟩))]
      split <;> omega
    · have := (p3 a b he).2.2
      simp only
      rw [r1 b (p3 a b he).2.1, r1 c hc, if_neg (na (Or.inr ⟨a, b, he⟩))]
      split <;> omega
  · rw [jVw_D2 c2 a1 a2 hd]
    obtain ⟨p1, p2, p3⟩ := o2 d hd
    cases ez : V2 d with
    | none => exact ⟨fun _ z => (by cases z), fun _ z => (by cases z), fun _ _ z => (by cases z)⟩
    | some x =>
      have na : (∃ x, V2 d = some (.inl x)) ∨ (∃ x y, V2 d = some (.inr (.inr (x, y)))) → ¬ (128 ≤ d ∧ d < 139) := fun h q => by
        rw [a2 d q.1 q.2] at h
        rcases h with ⟨_, h⟩ | ⟨_, _, h⟩ <;> cases h
      rcases x with y | y | ⟨a, b⟩
      · refine ⟨fun e z => ?_, fun _ z => (by cases z), fun _ _ z => (by cases z)⟩
        cases z
        have := p1 y ez
        refine ⟨Or.inr ⟨y, rfl, this.1⟩, ?_⟩
        simp only
        rw [r2 y this.1, r2 d hd, if_neg (na (Or.inl ⟨y, ez⟩))]
        split <;> omega
      · refine ⟨fun _ z => (by cases z), fun n z => ?_, fun _ _ z => (by cases z)⟩
        cases z
        exact p2 y ez
      · refine ⟨fun _ z => (by cases z), fun _ z => (by cases z), fun _ _ z => ?_⟩
        cases z
        have := p3 a b ez
        refine ⟨⟨Or.inr ⟨a, rfl, this.1.1⟩, ?_⟩, ⟨Or.inr ⟨b, rfl, this.2.1⟩, ?_⟩⟩
        · simp only
          rw [r2 a this.1.1, r2 d hd, if_neg (na (Or.inr ⟨a, b, ez⟩))]
          split <;> omega
        · simp only
          rw [r2 b this.2.1, r2 d hd, if_neg (na (Or.inr ⟨a, b, ez⟩))]
          split <;> omega
/-- a solution of both is one of each -/
theorem jSol {V1 V2 : Nat → TV} {D1 D2 : Nat → Prop} (c1 : cod1 D1) (c2 : cod1 D2) (a1 : atm1 V1) (a2 : atm1 V2) {K1 K2 : Kx} (k1 : vK V1 D1 K1) (k2 : vK V2 D2 K2) (n1 : ∀ v, v < 6 → D1 v) (n2 : ∀ v, v < 6 → D2 v) (cl1 : ∃ rk, vOK V1 D1 rk) (cl2 : ∃ rk, vOK V2 D2 rk) : (∃ th, vSol (jVw V1 V2) (jDm D1 D2) th ∧ ∀ v, v < 6 → th v = th (v + 64)) ↔ jn K1 K2 := by
  have s64 : ∀ v, v < 64 → sec v = v + 64 := fun v hv => by unfold sec; rw [if_neg (by omega), if_pos (by omega)]
  constructor
  · rintro ⟨th, hs, hv⟩
    refine ⟨th, fun v => th (sec v), (k1 th).mpr ⟨th, fun c hc => ?_, fun _ _ => rfl⟩, (k2 _).mpr ⟨fun d => th (sec d), fun d hd => ?_, fun _ _ => rfl⟩, fun v h6 => by show th v = th (sec v); rw [s64 v (by omega)]; exact hv v h6⟩
    · have := hs c (Or.inl hc)
      rwa [jVw_D1 c1 hc] at this
    · have := hs (sec d) (Or.inr ⟨d, rfl, hd⟩)
      rw [jVw_D2 c2 a1 a2 hd] at this
      refine ⟨fun e he => ?_, fun n he => ?_, fun a b he => ?_⟩
      · rw [he] at this; exact this.1 _ rfl
      · rw [he] at this; exact this.2.1 _ rfl
      · rw [he] at this; exact this.2.2 _ _ rfl
  · rintro ⟨r1, r2, q1, q2, hv⟩
    obtain ⟨t1, x1, x2⟩ := (k1 r1).mp q1
    obtain ⟨t2, y1, y2⟩ := (k2 r2).mp q2
    obtain ⟨_, o1⟩ := cl1
    obtain ⟨_, o2⟩ := cl2
    have e1 : ∀ d, D1 d → (@ite _ (fst1 d) (Classical.propDecidable _) (t1 d) (t2 (unS2 d))) = t1 d := fun d hd => if_pos (by
      rcases c1 d hd with q | q | q
      · exact Or.inl q
      · exact Or.inr (Or.inl (by omega))
      · exact Or.inr (Or.inr (by omega)))
    have e2 : ∀ d, D2 d → (@ite _ (fst1 (sec d)) (Classical.propDecidable _) (if 128 ≤ sec d ∧ sec d < 139 then sec d - 128 else t1 (sec d)) (t2 (unS2 (sec d)))) = t2 d := fun d hd => by
      rcases c2 d hd with q | q | q
      · rw [if_neg (sec_nf (Or.inl q)), unS2_sec (Or.inl (by omega)) (Or.inl q)]
      · rw [sec_atom q.1 (by omega), if_pos (show fst1 d from Or.inr (Or.inl (by omega))), if_pos q]
        exact ((y1 d hd).2.1 _ (a2 d q.1 q.2)).symm
      · rw [if_neg (sec_nf (Or.inr q.1)), unS2_sec (Or.inr q.1) (Or.inr q.1)]
    have e3 : ∀ d, D1 d → (@ite _ (fst1 d) (Classical.propDecidable _) (if 128 ≤ d ∧ d < 139 then d - 128 else t1 d) (t2 (unS2 d))) = t1 d := fun d hd => by
      have := e1 d hd
      by_cases q : 128 ≤ d ∧ d < 139
      · rw [if_pos (show fst1 d from Or.inr (Or.inl (by omega))), if_pos q]
        exact ((x1 d hd).2.1 _ (a1 d q.1 q.2)).symm
      · rw [if_neg q]; exact this
    refine ⟨fun c => @ite _ (fst1 c) (Classical.propDecidable _) (if 128 ≤ c ∧ c < 139 then c - 128 else t1 c) (t2 (unS2 c)), fun c hc => ?_, fun v h6 => ?_⟩
    · rcases hc with hc | ⟨d, rfl, hd⟩
      · rw [jVw_D1 c1 hc]
        obtain ⟨p1, p2, p3⟩ := o1 c hc
        have hh := x1 c hc
        refine ⟨fun e he => ?_, fun n he => ?_, fun a b he => ?_⟩
        · simp only
          rw [e3 c hc, e3 e (p1 e he).1]; exact hh.1 e he
        · simp only
          rw [e3 c hc]; exact hh.2.1 n he
        · simp only
          rw [e3 c hc, e3 a (p3 a b he).1.1, e3 b (p3 a b he).2.1]; exact hh.2.2 a b he
      · rw [jVw_D2 c2 a1 a2 hd]
        obtain ⟨p1, p2, p3⟩ := o2 d hd
        have hh := y1 d hd
        cases ez : V2 d with
        | none => exact ⟨fun _ z => (by cases z), fun _ z => (by cases z), fun _ _ z => (by cases z)⟩
        | some x =>
          rcases x with y | y | ⟨a, b⟩
          · refine ⟨fun e z => ?_, fun _ z => (by cases z), fun _ _ z => (by cases z)⟩
            cases z
            simp only
            rw [e2 d hd, e2 y (p1 y ez).1]; exact hh.1 y ez
          · refine ⟨fun _ z => (by cases z), fun n z => ?_, fun _ _ z => (by cases z)⟩
            cases z
            simp only
            rw [e2 d hd]; exact hh.2.1 y ez
          · refine ⟨fun _ z => (by cases z), fun _ z => (by cases z), fun _ _ z => ?_⟩
            cases z
            simp only
            rw [e2 d hd, e2 a (p3 a b ez).1.1, e2 b (p3 a b ez).2.1]; exact hh.2.2 a b ez
    · have z1 := e3 v (n1 v h6)
      have z2 := e2 v (n2 v h6)
      rw [s64 v (by omega)] at z2
      simp only
      rw [z1, z2, x2 v (by omega), y2 v (by omega)]
      exact hv v h6
