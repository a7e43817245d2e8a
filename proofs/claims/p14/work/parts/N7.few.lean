/-! MEET: two answers of one search -/
section
variable {sg : rSg} {s kb tp np nv : Nat} {p : Nat → Nat} {fs ms : List Nat} {H : Nat → Prop} {K : Kx}
theorem cCo_ans (htn : tp ≤ np) (hn9 : np ≤ 640) (hv : nv ≤ 60) (h : cCo sg s kb tp np p nv fs ms H K) : ansO (cV sg s kb 64) (cDm nv tp fs ms) H (cRt tp p fs ms) (cAb (cV sg s kb 64) fs) := by
  obtain ⟨f1, f2, f3, f4, f5, f6, ⟨rk, f7⟩, f8⟩ := id h.2.1
  refine ⟨cDm_cod htn hn9 h, cV_atm1 sg s kb 64, vCl_of f7, fun c hc => ?_, fun c hc => ?_, fun b hb => ?_, fun v hv => Or.inl (by omega)⟩
  · have := f4 c hc
    omega
  · rcases hc with q | q | q
    · exact ⟨Or.inr (Or.inr (Or.inl q.1)), q.1.1⟩
    · have := (f2 c q).1
      exact ⟨Or.inr (Or.inr (Or.inr (Or.inl q))), by omega⟩
    · have := (f3 c q).1
      exact ⟨Or.inr (Or.inr (Or.inr (Or.inr q))), by omega⟩
  · obtain ⟨_, c, hc, hv2⟩ := hb
    obtain ⟨_, x, t, e, k1, k2, _⟩ := f2 c hc
    rw [hv2] at e
    simp only [Option.some.injEq, Sum.inr.injEq, Prod.mk.injEq] at e
    have := f4 x k1
    exact ⟨Or.inl (by omega), by omega⟩
theorem cV_at {c n : Nat} (hc : c < 64 ∨ (128 ≤ c ∧ c < 139) ∨ (256 ≤ c ∧ c < 896)) (h : cV sg s kb 64 c = some (.inr (.inl n))) : 128 ≤ c ∧ c < 139 ∧ n = c - 128 := by
  rcases hc with q | q | q
  · unfold cV at h
    rw [if_pos (by omega)] at h
    split at h <;> cases h
  · rw [cV_atm1 sg s kb 64 c q.1 q.2] at h
    simp only [Option.some.injEq, Sum.inr.injEq, Sum.inl.injEq] at h
    omega
  · unfold cV at h
    rw [if_neg (by omega), if_neg (by omega), if_pos (by omega)] at h
    cases h
end
/-- what is wanting: of two answers with all that is kept of them, few leaves -/
def LvFew : Prop := ∀ (C : Cf) (s : rSg) (k1 k2 np gl nT : Nat) (X Y : Sx) (fs1 ms1 fs2 ms2 : List Nat) (H1 H2 : Nat → Prop), cfOK C → tSz C nT → nT ≤ 40 → cSc C s 7 np gl → cCo s 7 (k1 + 1) C.tp np C.p X.2.2.1 fs1 ms1 H1 X.2.2.2 → cNu C X fs1.length ms1.length → cHs C X (cV s 7 (k1 + 1) 64) fs1 ms1 → X.1 = [] → X.2.2.1 ≤ 60 → cCo s 7 (k2 + 1) C.tp np C.p Y.2.2.1 fs2 ms2 H2 Y.2.2.2 → cNu C Y fs2.length ms2.length → cHs C Y (cV s 7 (k2 + 1) 64) fs2 ms2 → Y.1 = [] → Y.2.2.1 ≤ 60 →
  ∀ (V0 Wf : Nat → TV) (th : Nat → Nat), vAg (jDm (cDm X.2.2.1 C.tp fs1 ms1) (cDm Y.2.2.1 C.tp fs2 ms2)) (jVw (cV s 7 (k1 + 1) 64) (cV s 7 (k2 + 1) 64)) V0 → jFin V0 (jDm (cDm X.2.2.1 C.tp fs1 ms1) (cDm Y.2.2.1 C.tp fs2 ms2)) (jHd H1 H2) (jHd (cRt C.tp C.p fs1 ms1) (cRt C.tp C.p fs2 ms2)) (jHd (cAb (cV s 7 (k1 + 1) 64) fs1) (cAb (cV s 7 (k2 + 1) 64) fs2)) th Wf → ∀ y, y < 6 → lam (nmO th) (tnF V0 (jDm (cDm X.2.2.1 C.tp fs1 ms1) (cDm Y.2.2.1 C.tp fs2 ms2)) th (tLR V0 (jDm (cDm X.2.2.1 C.tp fs1 ms1) (cDm Y.2.2.1 C.tp fs2 ms2)) (jHd H1 H2) (jHd (cRt C.tp C.p fs1 ms1) (cRt C.tp C.p fs2 ms2)) th) Wf) (sgF V0 (jDm (cDm X.2.2.1 C.tp fs1 ms1) (cDm Y.2.2.1 C.tp fs2 ms2)) th (tLR V0 (jDm (cDm X.2.2.1 C.tp fs1 ms1) (cDm Y.2.2.1 C.tp fs2 ms2)) (jHd H1 H2) (jHd (cRt C.tp C.p fs1 ms1) (cRt C.tp C.p fs2 ms2)) th)) (th y) ≤ 500000
theorem meetFew_of (h : LvFew) : MeetFew := by
  intro C s k1 k2 np gl nT X Y fs1 ms1 fs2 ms2 H1 H2 hC hT h40 hsc a6 a7 a8 tX x60 d6 d7 d8 tY y60 _
  have htn := hsc.1.1
  have hn9 := hsc.1.2.1
  have o1 := cCo_ans htn hn9 x60 a6
  have o2 := cCo_ans htn hn9 y60 d6
  exact MF_lam o1 o2 a6.2.1.2.2.2.2.2.2.1 d6.2.1.2.2.2.2.2.2.1 (cFr_stru a6.2.1 htn) (cFr_stru d6.2.1 htn) (fun c n dc hv => cV_at (o1.1 c dc) hv) (fun c n dc hv => cV_at (o2.1 c dc) hv) a6.2.2.2 d6.2.2.2 (fun V0 Wf th hag hf => h C s k1 k2 np gl nT X Y fs1 ms1 fs2 ms2 H1 H2 hC hT h40 hsc a6 a7 a8 tX x60 d6 d7 d8 tY y60 V0 Wf th hag hf)
