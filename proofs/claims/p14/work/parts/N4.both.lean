/-! MEET: the two answers' types and links -/
def jHd (P Q : Nat → Prop) (c : Nat) : Prop := P c ∨ ∃ d, c = sec d ∧ Q d
/-- what is known of one answer -/
def ansO (V : Nat → TV) (D H R A : Nat → Prop) : Prop := cod1 D ∧ atm1 V ∧ vCl V D ∧ (∀ c, H c → 6 ≤ c ∧ c < 64) ∧ (∀ c, R c → D c ∧ 256 ≤ c) ∧ (∀ b, A b → D b ∧ b + 2 < 64) ∧ ∀ v, v < 6 → D v
theorem cod_x {c d : Nat} (hc : c < 64 ∨ (128 ≤ c ∧ c < 139) ∨ (256 ≤ c ∧ c < 896)) (hd : d < 64 ∨ (128 ≤ d ∧ d < 139) ∨ (256 ≤ d ∧ d < 896)) (e : c = sec d) : (128 ≤ c ∧ c < 139) ∧ d = c := by
  unfold sec at e
  split at e
  · omega
  · split at e <;> omega
theorem cod_v {d : Nat} (hd : d < 64 ∨ (128 ≤ d ∧ d < 139) ∨ (256 ≤ d ∧ d < 896)) : (sec d < 128 ↔ d < 128) ∧ (sec d < 64 → False) := by
  unfold sec
  split
  · omega
  · split <;> omega
theorem shS_mp (x : TV) : shS x = mpV sec x := by
  match x with
  | some (.inl e) => rfl
  | some (.inr (.inr (a, b))) => rfl
  | some (.inr (.inl n)) => rfl
  | none => rfl
theorem mp_id (x : TV) : x = mpV (fun c => c) x := by
  match x with
  | some (.inl e) => rfl
  | some (.inr (.inr (a, b))) => rfl
  | some (.inr (.inl n)) => rfl
  | none => rfl
section
variable {V0 V1 V2 : Nat → TV} {D1 D2 H1 H2 R1 R2 A1 A2 : Nat → Prop} {th : Nat → Nat}
theorem jn_atm (o1 : ansO V1 D1 H1 R1 A1) (hag : vAg (jDm D1 D2) (jVw V1 V2) V0) (hs : vSol V0 (jDm D1 D2) th) {c : Nat} (dc : D1 c) (h : 128 ≤ c ∧ c < 139) : th c ≤ 11 := by
  have := (hs c (Or.inl dc)).2.1 (c - 128) (by rw [hag c (Or.inl dc), jVw_D1 o1.1 dc]; exact o1.2.1 c h.1 h.2)
  omega
theorem jn_1 (o1 : ansO V1 D1 H1 R1 A1) (o2 : ansO V2 D2 H2 R2 A2) (hag : vAg (jDm D1 D2) (jVw V1 V2) V0) (hs : vSol V0 (jDm D1 D2) th) : emS V0 (jDm D1 D2) (jHd H1 H2) (jHd R1 R2) V1 D1 H1 R1 th (fun c => c) ∧ emA (jHd A1 A2) A1 D1 (fun c => c) := by
  obtain ⟨c1, m1, cl1, hH1, hR1, hA1, n1⟩ := id o1
  obtain ⟨c2, m2, cl2, hH2, hR2, hA2, n2⟩ := id o2
  have low := fun {c : Nat} (dc : D1 c) (h : 128 ≤ c ∧ c < 139) => jn_atm o1 hag hs dc h
  refine ⟨⟨fun c dc => Or.inl dc, fun c dc => ?_, fun c d _ _ e => e, cl1, fun c _ => Iff.rfl, fun c dc => ⟨fun q => ?_, fun q => Or.inl q⟩, ⟨fun c _ q => Or.inl q, fun c dc q => ?_⟩, fun w => rfl, fun d a b dd hv => ?_⟩, fun b hb => ⟨Or.inl hb, (hA1 b hb).1, rfl, rfl⟩⟩
  · rw [hag c (Or.inl dc), jVw_D1 c1 dc]
    exact mp_id _
  · rcases q with q | ⟨d, e, q⟩
    · exact q
    · have := hH2 d q
      have := cod_x (c1 c dc) (Or.inl this.2) e
      omega
  · rcases q with q | ⟨d, e, q⟩
    · exact Or.inl q
    · have := cod_x (c1 c dc) (c2 d (hR2 d q).1) e
      exact Or.inr (low dc this.1)
  · rcases dd with dd | ⟨d2, rfl, dd⟩
    · exact Or.inl ⟨d, dd, rfl⟩
    · rw [hag _ (Or.inr ⟨d2, rfl, dd⟩), jVw_D2 c2 m1 m2 dd, shS_mp] at hv
      obtain ⟨a2, b2, hv2, rfl, rfl⟩ := mpV_pair hv
      have g := (cl2 d2 dd).2 a2 b2 hv2
      refine Or.inr ⟨fun c dc e => ?_, fun c dc e => ?_⟩
      · have := cod_x (c1 c dc) (c2 a2 g.1) e.symm
        rw [e]
        exact low dc this.1
      · have := cod_x (c1 c dc) (c2 b2 g.2) e.symm
        rw [e]
        exact low dc this.1
theorem jn_2 (o1 : ansO V1 D1 H1 R1 A1) (o2 : ansO V2 D2 H2 R2 A2) (hag : vAg (jDm D1 D2) (jVw V1 V2) V0) (hs : vSol V0 (jDm D1 D2) th) (hj : ∀ v, v < 6 → th v = th (v + 64)) : emS V0 (jDm D1 D2) (jHd H1 H2) (jHd R1 R2) V2 D2 H2 R2 th sec ∧ emA (jHd A1 A2) A2 D2 sec := by
  obtain ⟨c1, m1, cl1, hH1, hR1, hA1, n1⟩ := id o1
  obtain ⟨c2, m2, cl2, hH2, hR2, hA2, n2⟩ := id o2
  have dj := fun {d : Nat} (dd : D2 d) => (show jDm D1 D2 (sec d) from Or.inr ⟨d, rfl, dd⟩)
  have low : ∀ {d : Nat}, D2 d → 128 ≤ d ∧ d < 139 → th (sec d) ≤ 11 := fun {d} dd h => by
    have := (hs (sec d) (dj dd)).2.1 (d - 128) (by rw [hag _ (dj dd), jVw_D2 c2 m1 m2 dd, m2 d h.1 h.2]; rfl)
    omega
  have inj : ∀ {c d : Nat}, D2 c → D2 d → sec c = sec d → c = d := fun {c d} dc dd e => sec_inj (c2 c dc) (c2 d dd) e
  refine ⟨⟨fun c dc => dj dc, fun c dc => ?_, fun c d dc dd e => inj dc dd e, cl2, fun c dc => (cod_v (c2 c dc)).1, fun c dc => ⟨fun q => ?_, fun q => Or.inr ⟨c, rfl, q⟩⟩, ⟨fun c _ q => Or.inr ⟨c, rfl, q⟩, fun c dc q => ?_⟩, fun w => ?_, fun d a b dd hv => ?_⟩, fun b hb => ⟨Or.inr ⟨b, rfl, hb⟩, (hA2 b hb).1, ?_⟩⟩
  · rw [hag _ (dj dc), jVw_D2 c2 m1 m2 dc, shS_mp]
  · rcases q with q | ⟨d, e, q⟩
    · have h := hH1 (sec c) q
      exact ((cod_v (c2 c dc)).2 h.2).elim
    · have h := hH2 d q
      rw [sec_inj (c2 c dc) (Or.inl h.2) e]
      exact q
  · rcases q with q | ⟨d, e, q⟩
    · have := cod_x (c1 _ (hR1 _ q).1) (c2 c dc) rfl
      exact Or.inr (low dc (by omega))
    · rw [inj dc (hR2 d q).1 e]
      exact Or.inl q
  · have e : ∀ v, v < 6 → th (sec v) = th v := fun v hv => by rw [sec64 (by omega)]; exact (hj v hv).symm
    unfold nmO
    show (decide (11 < w) && (decide (th (sec 0) = w) || decide (th (sec 1) = w) || decide (th (sec 2) = w) || decide (th (sec 3) = w) || decide (th (sec 4) = w) || decide (th (sec 5) = w))) = _
    rw [e 0 (by decide), e 1 (by decide), e 2 (by decide), e 3 (by decide), e 4 (by decide), e 5 (by decide)]
  · rcases dd with dd | ⟨d2, rfl, dd⟩
    · rw [hag _ (Or.inl dd), jVw_D1 c1 dd] at hv
      have g := (cl1 d dd).2 a b hv
      refine Or.inr ⟨fun c dc e => ?_, fun c dc e => ?_⟩
      · have := cod_x (c1 a g.1) (c2 c dc) e
        rw [e]
        exact low dc (by omega)
      · have := cod_x (c1 b g.2) (c2 c dc) e
        rw [e]
        exact low dc (by omega)
    · exact Or.inl ⟨d2, dd, rfl⟩
  · have h := (hA2 b hb).2
    rw [sec64 (by omega), sec64 (by omega), sec64 (by omega)]
    omega
/-- both answers' types and links are those of the two side by side -/
theorem jn_J (o1 : ansO V1 D1 H1 R1 A1) (o2 : ansO V2 D2 H2 R2 A2) (hag : vAg (jDm D1 D2) (jVw V1 V2) V0) (hs : vSol V0 (jDm D1 D2) th) (hj : ∀ v, v < 6 → th v = th (v + 64)) (j1 : JSg V1 D1 H1 R1 A1) (j2 : JSg V2 D2 H2 R2 A2) : vTy V0 (jDm D1 D2) (tLR V0 (jDm D1 D2) (jHd H1 H2) (jHd R1 R2) th) (tLt V0 (jDm D1 D2) (jHd H1 H2) (jHd R1 R2) th) ∧ Jk V0 (jDm D1 D2) (tLR V0 (jDm D1 D2) (jHd H1 H2) (jHd R1 R2) th) (jHd H1 H2) (jHd A1 A2) th V0 := by
  obtain ⟨e1, a1⟩ := jn_1 o1 o2 hag hs
  obtain ⟨e2, a2⟩ := jn_2 o1 o2 hag hs hj
  have nO : ∀ {V : Nat → TV} {D H R A : Nat → Prop} {ph : Nat → Nat}, ansO V D H R A → nOK D ph := fun {V D H R A ph} o c dc hn h9 => by
    have : c < 6 := by
      have := o.1 c dc
      unfold isN at hn
      omega
    exact nmO_iff.mpr ⟨h9, c, this, rfl⟩
  have g1 := j1 (fun c => th c) (emS_sol e1 hs) (nO o1)
  have g2 := j2 (fun c => th (sec c)) (emS_sol e2 hs) (nO o2)
  refine emS_two e1 e2 a1 a2 (fun x hx => ?_) (fun x hx => ?_) (fun c d dc dd e => ?_) g1.1 g2.1 g1.2 g2.2
  · rcases hx with q | ⟨d, e, q⟩
    · exact Or.inl ⟨x, q, rfl⟩
    · exact Or.inr ⟨d, q, e⟩
  · rcases hx with q | ⟨d, e, q⟩
    · exact Or.inl ⟨x, q, rfl⟩
    · exact Or.inr ⟨d, q, e⟩
  · have k := cod_x (o1.1 c dc) (o2.1 d dd) e
    exact ⟨fun q => by have := o1.2.2.2.1 c q; omega, fun q => by have := o2.2.2.2.1 d q; omega⟩
end
