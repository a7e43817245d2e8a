/-! MEET: the view that all six unifies leave -/
theorem uSt_back {D : Nat → Prop} {V W : Nat → TV} {ps rs : List (Nat × Nat)} {th : Nat → Nat} (h : uSt D V ps W rs) (hs : vSol W D th) (hq : ∀ q ∈ rs, th q.1 = th q.2) : vSol V D th ∧ ∀ q ∈ ps, th q.1 = th q.2 := by
  obtain ⟨x0, y0, x, y, qs, rfl, ⟨d1, d2, d3, d4⟩, ⟨w1, w2, r1, r2⟩, h⟩ := h
  have fin : vSol V D th → th x = th y → (∀ q ∈ qs, th q.1 = th q.2) → vSol V D th ∧ ∀ q ∈ (x0, y0) :: qs, th q.1 = th q.2 := fun hv e hqs => ⟨hv, fun q h => by
    rcases List.mem_cons.mp h with rfl | h
    · show th x0 = th y0
      rw [w1.1 th hv, w2.1 th hv, e]
    · exact hqs q h⟩
  rcases h with ⟨rfl, rfl, rfl⟩ | ⟨i, c, hic, hne, ho, _, rfl, rfl⟩ | ⟨a, b, c, d, hne, hx, hy, rfl, rfl⟩
  · exact fin hs rfl hq
  · have hi : D i := by rcases hic with ⟨rfl, rfl⟩ | ⟨rfl, rfl⟩ <;> assumption
    have e : th i = th c := (hs i hi).1 c (by simp [vB])
    have hv : vSol V D th := fun z dz => by
      by_cases q : z = i
      · rw [q, ho]
        exact ⟨fun _ h => (by cases h), fun _ h => (by cases h), fun _ _ h => (by cases h)⟩
      · have := hs z dz
        unfold vB at this
        rw [if_neg q] at this
        exact this
    refine fin hv ?_ hq
    rcases hic with ⟨rfl, rfl⟩ | ⟨rfl, rfl⟩
    · exact e
    · exact e.symm
  · have e1 := hq (a, c) List.mem_cons_self
    have e2 := hq (b, d) (List.mem_cons_of_mem _ List.mem_cons_self)
    refine fin hs ?_ (fun q h => hq q (List.mem_cons_of_mem _ (List.mem_cons_of_mem _ h)))
    rw [(hs x d3).2.2 a b hx, (hs y d4).2.2 c d hy]
    show nd (th a) (th b) = nd (th c) (th d)
    rw [show th a = th c from e1, show th b = th d from e2]
theorem uRun_back {D : Nat → Prop} {V : Nat → TV} {qs : List (Nat × Nat)} {th : Nat → Nat} : ∀ {n : Nat} {W : Nat → TV} {rs : List (Nat × Nat)}, uRun D V qs n W rs → vSol W D th → (∀ q ∈ rs, th q.1 = th q.2) → vSol V D th ∧ ∀ q ∈ qs, th q.1 = th q.2
  | 0, W, rs, h, hs, hq => by
    obtain ⟨rfl, rfl⟩ := h
    exact ⟨hs, hq⟩
  | n + 1, W, rs, h, hs, hq => by
    obtain ⟨W1, rs1, h1, h2⟩ := h
    obtain ⟨g1, g2⟩ := uSt_back h2 hs hq
    exact uRun_back h1 g1 g2
theorem uRun_ok {D : Nat → Prop} {V : Nat → TV} {qs : List (Nat × Nat)} (hok : ∃ rk, vOK V D rk) : ∀ {n : Nat} {W : Nat → TV} {rs : List (Nat × Nat)}, uRun D V qs n W rs → ∃ rk, vOK W D rk
  | 0, W, rs, h => by
    obtain ⟨rfl, rfl⟩ := h
    exact hok
  | n + 1, W, rs, h => by
    obtain ⟨W1, rs1, h1, h2⟩ := h
    exact uSt_ok (uRun_ok hok h1) h2
theorem uRch_in {D : Nat → Prop} {V0 : Nat → TV} (hok : ∃ rk, vOK V0 D rk) : ∀ {y : Nat} {W : Nat → TV}, uRch D V0 y W → vExt V0 W ∧ (∃ rk, vOK W D rk) ∧ ∀ th, vSol W D th → vSol V0 D th ∧ ∀ v, v < y → th v = th (v + 64)
  | 0, W, h => by
    have h : W = V0 := h
    subst h
    exact ⟨vExt_rfl, hok, fun th hs => ⟨hs, fun v hv => absurd hv (by omega)⟩⟩
  | y + 1, W, h => by
    obtain ⟨U, n, h1, h2⟩ := h
    obtain ⟨g1, g2, g3⟩ := uRch_in hok h1
    refine ⟨vExt_trans g1 (uRun_ext h2), uRun_ok g2 h2, fun th hs => ?_⟩
    obtain ⟨k1, k2⟩ := uRun_back h2 hs (fun q h => by cases h)
    obtain ⟨k3, k4⟩ := g3 th k1
    refine ⟨k3, fun v hv => ?_⟩
    by_cases q : v = y
    · subst q; exact k2 (v, v + 64) List.mem_cons_self
    · exact k4 v (by omega)
theorem uRch_sol {D : Nat → Prop} {V0 : Nat → TV} {th : Nat → Nat} (hs : vSol V0 D th) (hj : ∀ v, v < 6 → th v = th (v + 64)) : ∀ {y : Nat} {W : Nat → TV}, y ≤ 6 → uRch D V0 y W → vSol W D th
  | 0, W, _, h => by
    have h : W = V0 := h
    subst h
    exact hs
  | y + 1, W, hy, h => by
    obtain ⟨U, n, h1, h2⟩ := h
    exact (uRun_gz (uRch_sol hs hj (by omega) h1) (fun q h => by
      rw [List.mem_singleton.mp h]
      exact hj y (by omega)) h2).1
/-- what is begun is done -/
theorem uRch_fin {D : Nat → Prop} {V0 : Nat → TV} {th : Nat → Nat} (hok : ∃ rk, vOK V0 D rk) (ha : atI V0 D) (hs : vSol V0 D th) (hj : ∀ v, v < 6 → th v = th (v + 64)) (hD : ∀ v, v < 6 → D v ∧ D (v + 64)) : ∀ (k y : Nat) (W : Nat → TV), y + k = 6 → uRch D V0 y W → ∃ Wf, uRch D V0 6 Wf ∧ vExt W Wf
  | 0, y, W, hy, h => by
    obtain rfl : y = 6 := by omega
    exact ⟨W, h, vExt_rfl⟩
  | k + 1, y, W, hy, h => by
    obtain ⟨g1, g2, _⟩ := uRch_in hok h
    obtain ⟨n, U, hr⟩ := uRun_all (th := th) (gzs th [(y, y + 64)]) W [(y, y + 64)] (Nat.le_refl _) g2 (atI_ext g1 ha) (uRch_sol hs hj (by omega) h) (fun q h => by
      rw [List.mem_singleton.mp h]
      exact ⟨hj y (by omega), hD y (by omega)⟩)
    obtain ⟨Wf, e1, e2⟩ := uRch_fin hok ha hs hj hD k (y + 1) U (by omega) ⟨W, n, h, hr⟩
    exact ⟨Wf, e1, vExt_trans (uRun_ext hr) e2⟩
theorem uRch_all {D : Nat → Prop} {V0 W W2 : Nat → TV} {th : Nat → Nat} {y n : Nat} {rs : List (Nat × Nat)} (hok : ∃ rk, vOK V0 D rk) (ha : atI V0 D) (hs : vSol V0 D th) (hj : ∀ v, v < 6 → th v = th (v + 64)) (hD : ∀ v, v < 6 → D v ∧ D (v + 64)) (hy : y < 6) (hc : uRch D V0 y W) (hr : uRun D W [(y, y + 64)] n W2 rs) : ∃ Wf, uRch D V0 6 Wf ∧ vExt W2 Wf := by
  obtain ⟨g1, g2, _⟩ := uRch_in hok hc
  have sW := uRch_sol hs hj (by omega) hc
  have q0 : ∀ q ∈ [(y, y + 64)], th q.1 = th q.2 := fun q h => by
    rw [List.mem_singleton.mp h]
    exact hj y hy
  obtain ⟨s2, q2, _⟩ := uRun_gz sW q0 hr
  obtain ⟨rk, okW⟩ := g2
  obtain ⟨_, c2⟩ := uRun_cl (S := D) (vCl_of okW) (fun q h => by
    rw [List.mem_singleton.mp h]
    exact hD y hy) hr
  obtain ⟨m, U, hu⟩ := uRun_all (th := th) (gzs th rs) W2 rs (Nat.le_refl _) (uRun_ok ⟨rk, okW⟩ hr) (atI_ext (vExt_trans g1 (uRun_ext hr)) ha) s2 (fun q h => ⟨q2 q h, c2 q h⟩)
  obtain ⟨k, hk⟩ := uRun_app hr hu
  obtain ⟨Wf, e1, e2⟩ := uRch_fin hok ha hs hj hD (5 - y) (y + 1) U (by omega) ⟨W, k, hc, hk⟩
  exact ⟨Wf, e1, vExt_trans (uRun_ext hu) e2⟩
