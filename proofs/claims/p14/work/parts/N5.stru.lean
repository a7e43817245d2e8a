/-! MEET: how the pairs of both lie; what holds in the view that is left -/
section
variable {V0 V1 V2 : Nat → TV} {D1 D2 H1 H2 R1 R2 A1 A2 T1 T2 : Nat → Prop} {th : Nat → Nat}
theorem jn_st (o1 : ansO V1 D1 H1 R1 A1) (o2 : ansO V2 D2 H2 R2 A2) (hag : vAg (jDm D1 D2) (jVw V1 V2) V0) (s1 : stru V1 D1 H1 R1 T1) (s2 : stru V2 D2 H2 R2 T2) : stru V0 (jDm D1 D2) (jHd H1 H2) (jHd R1 R2) (jHd T1 T2) := by
  obtain ⟨c1, m1, cl1, hH1, hR1, hA1, n1⟩ := id o1
  obtain ⟨c2, m2, cl2, hH2, hR2, hA2, n2⟩ := id o2
  have dj := fun {d : Nat} (dd : D2 d) => (show jDm D1 D2 (sec d) from Or.inr ⟨d, rfl, dd⟩)
  have v1 : ∀ {c}, D1 c → V0 c = V1 c := fun {c} dc => by rw [hag c (Or.inl dc), jVw_D1 c1 dc]
  have v2 : ∀ {d}, D2 d → V0 (sec d) = mpV sec (V2 d) := fun {d} dd => by rw [hag _ (dj dd), jVw_D2 c2 m1 m2 dd, shS_mp]
  have hd1 : ∀ {c}, D1 c → (jHd H1 H2 c ↔ H1 c) := fun {c} dc => ⟨fun q => q.elim id (fun ⟨d, e, q⟩ => by
    have h := hH2 d q
    have := cod_x (c1 c dc) (Or.inl h.2) e
    omega), Or.inl⟩
  have hd2 : ∀ {d}, D2 d → (jHd H1 H2 (sec d) ↔ H2 d) := fun {d} dd => ⟨fun q => q.elim (fun q => ((cod_v (c2 d dd)).2 (hH1 _ q).2).elim) (fun ⟨e, k, q⟩ => by rw [sec_inj (c2 d dd) (Or.inl (hH2 e q).2) k]; exact q), fun q => Or.inr ⟨d, rfl, q⟩⟩
  have tR1 : ∀ {c}, T1 c → D1 c ∧ 256 ≤ c := fun {c} q => hR1 c (s1.2.2.2.2.2 c q)
  have tR2 : ∀ {c}, T2 c → D2 c ∧ 256 ≤ c := fun {c} q => hR2 c (s2.2.2.2.2.2 c q)
  have tp1 : ∀ {c}, D1 c → (jHd T1 T2 c ↔ T1 c) := fun {c} dc => ⟨fun q => q.elim id (fun ⟨d, e, q⟩ => by
    have h := tR2 q
    have := cod_x (c1 c dc) (c2 d h.1) e
    omega), Or.inl⟩
  have tp2 : ∀ {d}, D2 d → (jHd T1 T2 (sec d) ↔ T2 d) := fun {d} dd => ⟨fun q => q.elim (fun q => by
    have h := tR1 q
    have := cod_x (c1 _ h.1) (c2 d dd) rfl
    omega) (fun ⟨e, k, q⟩ => by rw [sec_inj (c2 d dd) (c2 e (tR2 q).1) k]; exact q), fun q => Or.inr ⟨d, rfl, q⟩⟩
  have iv : ∀ {d}, D2 d → (isV (sec d) ↔ isV d) := fun {d} dd => (cod_v (c2 d dd)).1
  have iN : ∀ {d}, D2 d → isN d → isN (sec d) := fun {d} dd h => by
    have := c2 d dd
    unfold isN at h ⊢
    have h6 : d < 6 := by omega
    rw [sec64 (by omega)]
    omega
  refine ⟨fun c a b dc hv => ?_, fun c hc => ?_, fun c hc => ?_, fun c n dc hv => ?_, fun c dc hn => ?_, fun c hc => ?_⟩
  · rcases dc with dc | ⟨d, rfl, dd⟩
    · rw [v1 dc] at hv
      obtain ⟨p1, ⟨p2, p3⟩, p4, ⟨p5, p6⟩, p7, p8, p9⟩ := s1.1 c a b dc hv
      exact ⟨p1, ⟨Or.inl p2, Or.inl p3⟩, fun q => p4 ((hd1 p3).mp q), ⟨fun q => p5 ((tp1 p2).mp q), fun q => p6 ((tp1 p3).mp q)⟩, fun q => Or.inl (p7 ((hd1 p2).mp q)), fun q => (p8 q).imp Or.inl id, fun q => (p9 q).imp id Or.inl⟩
    · rw [v2 dd] at hv
      obtain ⟨a2, b2, hv2, rfl, rfl⟩ := mpV_pair hv
      obtain ⟨p1, ⟨p2, p3⟩, p4, ⟨p5, p6⟩, p7, p8, p9⟩ := s2.1 d a2 b2 dd hv2
      exact ⟨fun q => p1 ((iv dd).mp q), ⟨dj p2, dj p3⟩, fun q => p4 ((hd2 p3).mp q), ⟨fun q => p5 ((tp2 p2).mp q), fun q => p6 ((tp2 p3).mp q)⟩, fun q => (tp2 dd).mpr (p7 ((hd2 p2).mp q)), fun q => (p8 ((iv p2).mp q)).imp (hd2 p2).mpr (iN p2), fun q => (p9 ((iv p3).mp q)).imp (iN p3) (tp2 dd).mpr⟩
  · rcases hc with q | ⟨d, rfl, q⟩
    · have := hH1 c q
      unfold isV isN
      omega
    · have := hH2 d q
      rw [sec64 (by omega)]
      unfold isV isN
      omega
  · rcases hc with q | ⟨d, rfl, q⟩
    · have := (hR1 c q).2
      unfold isV
      omega
    · have h := hR2 d q
      intro z
      have := (iv h.1).mp z
      unfold isV at this
      omega
  · rcases dc with dc | ⟨d, rfl, dd⟩
    · rw [v1 dc] at hv
      exact s1.2.2.2.1 c n dc hv
    · rw [v2 dd] at hv
      match e : V2 d, hv with
      | some (.inr (.inl k)), hv =>
        simp only [mpV, Option.some.injEq, Sum.inr.injEq, Sum.inl.injEq] at hv
        rw [← hv]
        exact s2.2.2.2.1 d k dd e
      | some (.inr (.inr (x, y))), hv => simp [mpV] at hv
      | some (.inl x), hv => simp [mpV] at hv
      | none, hv => cases hv
  · rcases dc with dc | ⟨d, rfl, dd⟩
    · rw [v1 dc]
      exact s1.2.2.2.2.1 c dc hn
    · have k := s2.2.2.2.2.1 d dd (fun q => hn ((iv dd).mpr q))
      rw [v2 dd]
      refine ⟨fun q => ?_, fun e he => ?_⟩
      · match e : V2 d, q with
        | none, _ => exact k.1 e
        | some (.inr (.inl x)), q => simp [mpV] at q
        | some (.inr (.inr (x, y))), q => simp [mpV] at q
        | some (.inl x), q => simp [mpV] at q
      · obtain ⟨e2, q, _⟩ := mpV_ref he
        exact k.2 e2 q
  · rcases hc with q | ⟨d, rfl, q⟩
    · exact Or.inl (s1.2.2.2.2.2 c q)
    · exact Or.inr ⟨d, rfl, s2.2.2.2.2.2 d q⟩
/-- one code for an atom -/
theorem jn_at (o1 : ansO V1 D1 H1 R1 A1) (o2 : ansO V2 D2 H2 R2 A2) (hag : vAg (jDm D1 D2) (jVw V1 V2) V0) (q1 : ∀ c n, D1 c → V1 c = some (.inr (.inl n)) → 128 ≤ c ∧ c < 139 ∧ n = c - 128) (q2 : ∀ c n, D2 c → V2 c = some (.inr (.inl n)) → 128 ≤ c ∧ c < 139 ∧ n = c - 128) : atI V0 (jDm D1 D2) := by
  have key : ∀ c n, jDm D1 D2 c → V0 c = some (.inr (.inl n)) → c = 128 + n := fun c n dc hv => by
    rcases dc with dc | ⟨d, rfl, dd⟩
    · rw [hag c (Or.inl dc), jVw_D1 o1.1 dc] at hv
      have := q1 c n dc hv
      omega
    · rw [hag _ (Or.inr ⟨d, rfl, dd⟩), jVw_D2 o2.1 o1.2.1 o2.2.1 dd] at hv
      match e : V2 d, hv with
      | some (.inr (.inl k)), hv =>
        simp only [shS, Option.some.injEq, Sum.inr.injEq, Sum.inl.injEq] at hv
        have := q2 d k dd e
        rw [sec_atom (by omega) (by omega)]
        omega
      | some (.inr (.inr (x, y))), hv => simp [shS] at hv
      | some (.inl x), hv => simp [shS] at hv
      | none, hv => simp [shS] at hv
  exact fun c d n dc dd h1 h2 => by rw [key c n dc h1, key d n dd h2]
end
