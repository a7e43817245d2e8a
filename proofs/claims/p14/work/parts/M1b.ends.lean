/-! WALKS: while a solution stands, unify can go on to its end -/
theorem wlk_to {V : Nat → TV} {D : Nat → Prop} {rk : Nat → Nat} (hok : vOK V D rk) : ∀ (n c : Nat), rk c < n → D c → ∃ x, D x ∧ wlk V D c x ∧ vRes V x
  | 0, c, h, _ => by omega
  | n + 1, c, h, hc => by
    by_cases hv : vRes V c
    · exact ⟨c, hc, wlk.rfl', hv⟩
    · have : ∃ e, V c = some (.inl e) := Classical.byContradiction (fun q => hv (fun e he => q ⟨e, he⟩))
      obtain ⟨e, he⟩ := this
      have h1 := (hok c hc).1 e he
      obtain ⟨x, g1, g2, g3⟩ := wlk_to hok n e (by omega) h1.1
      exact ⟨x, g1, wlk.step hc he g2, g3⟩
/-- one code for an atom -/
def atI (V : Nat → TV) (D : Nat → Prop) : Prop := ∀ c d n, D c → D d → V c = some (.inr (.inl n)) → V d = some (.inr (.inl n)) → c = d
theorem atI_ext {V W : Nat → TV} {D : Nat → Prop} (h : vExt V W) (ha : atI V D) : atI W D := by
  have back : ∀ {c n}, W c = some (.inr (.inl n)) → V c = some (.inr (.inl n)) := fun {c n} q => by
    rcases h c with g | ⟨_, e, g⟩
    · rw [← g]; exact q
    · rw [g] at q; cases q
  exact fun c d n dc dd h1 h2 => ha c d n dc dd (back h1) (back h2)
theorem noreach {V : Nat → TV} {D : Nat → Prop} {rk th : Nat → Nat} (hok : vOK V D rk) (hs : vSol V D th) {i c : Nat} (hi : V i = none) (hc : D c) (rc : vRes V c) (hne : i ≠ c) (he : th i = th c) : ¬ reach V c i := by
  intro hr
  rcases hr.inv with q | ⟨e, q, _⟩ | ⟨a, b, q, _⟩
  · exact hne q.symm
  · exact rc e q
  · have := vSol_lt hok hs hc q hr (Ne.symm hne)
    omega
theorem uSt_ex {V : Nat → TV} {D : Nat → Prop} {th : Nat → Nat} (hok : ∃ rk, vOK V D rk) (ha : atI V D) (hs : vSol V D th) {a b : Nat} {qs : List (Nat × Nat)} (da : D a) (db : D b) (hab : th a = th b) (hq : ∀ q ∈ qs, D q.1 ∧ D q.2) : ∃ W rs, uSt D V ((a, b) :: qs) W rs ∧ ∀ q ∈ rs, D q.1 ∧ D q.2 := by
  obtain ⟨rk, hok⟩ := hok
  obtain ⟨x, dx, wx, rx⟩ := wlk_to hok (rk a + 1) a (by omega) da
  obtain ⟨y, dy, wy, ry⟩ := wlk_to hok (rk b + 1) b (by omega) db
  have hx : th a = th x := wx.1 th hs
  have hy : th b = th y := wy.1 th hs
  have hxy : th x = th y := by omega
  by_cases e : x = y
  · exact ⟨V, qs, ⟨a, b, x, y, qs, rfl, ⟨da, db, dx, dy⟩, ⟨wx, wy, rx, ry⟩, Or.inl ⟨e, rfl, rfl⟩⟩, hq⟩
  · cases vx : V x with
    | none => exact ⟨_, qs, ⟨a, b, x, y, qs, rfl, ⟨da, db, dx, dy⟩, ⟨wx, wy, rx, ry⟩, Or.inr (Or.inl ⟨x, y, Or.inl ⟨rfl, rfl⟩, e, vx, noreach hok hs vx dy ry e hxy, rfl, rfl⟩)⟩, hq⟩
    | some ux =>
      cases vy : V y with
      | none => exact ⟨_, qs, ⟨a, b, x, y, qs, rfl, ⟨da, db, dx, dy⟩, ⟨wx, wy, rx, ry⟩, Or.inr (Or.inl ⟨y, x, Or.inr ⟨rfl, rfl⟩, Ne.symm e, vy, noreach hok hs vy dx rx (Ne.symm e) hxy.symm, rfl, rfl⟩)⟩, hq⟩
      | some uy =>
        rcases ux with ex | nx | ⟨p, q⟩
        · exact absurd vx (rx ex)
        · rcases uy with ey | ny | ⟨c, d⟩
          · exact absurd vy (ry ey)
          · have e1 := (hs x dx).2.1 nx vx
            have e2 := (hs y dy).2.1 ny vy
            have : nx = ny := by omega
            subst this
            exact absurd (ha x y nx dx dy vx vy) e
          · have e1 := (hs x dx).2.1 nx vx
            have e2 := (hs y dy).2.2 c d vy
            have := (hok x dx).2.1 nx vx
            have := nd_big (th c) (th d)
            omega
        · rcases uy with ey | ny | ⟨c, d⟩
          · exact absurd vy (ry ey)
          · have e1 := (hs y dy).2.1 ny vy
            have e2 := (hs x dx).2.2 p q vx
            have := (hok y dy).2.1 ny vy
            have := nd_big (th p) (th q)
            omega
          · refine ⟨V, (p, c) :: (q, d) :: qs, ⟨a, b, x, y, qs, rfl, ⟨da, db, dx, dy⟩, ⟨wx, wy, rx, ry⟩, Or.inr (Or.inr ⟨p, q, c, d, e, vx, vy, rfl, rfl⟩)⟩, fun z hz => ?_⟩
            have g1 := (hok x dx).2.2 p q vx
            have g2 := (hok y dy).2.2 c d vy
            rcases List.mem_cons.mp hz with rfl | hz
            · exact ⟨g1.1.1, g2.1.1⟩
            · rcases List.mem_cons.mp hz with rfl | hz
              · exact ⟨g1.2.1, g2.2.1⟩
              · exact hq z hz
theorem uRun_cons {D : Nat → Prop} {V V1 : Nat → TV} {qs qs1 : List (Nat × Nat)} (h : uSt D V qs V1 qs1) : ∀ {n : Nat} {W : Nat → TV} {rs : List (Nat × Nat)}, uRun D V1 qs1 n W rs → uRun D V qs (n + 1) W rs
  | 0, W, rs, g => by
    obtain ⟨rfl, rfl⟩ := g
    exact ⟨V, qs, ⟨rfl, rfl⟩, h⟩
  | n + 1, W, rs, g => by
    obtain ⟨W1, rs1, g1, g2⟩ := g
    exact ⟨W1, rs1, uRun_cons h g1, g2⟩
theorem uRun_app {D : Nat → Prop} {V W : Nat → TV} {qs rs : List (Nat × Nat)} {n : Nat} (h : uRun D V qs n W rs) : ∀ {m : Nat} {U : Nat → TV} {ts : List (Nat × Nat)}, uRun D W rs m U ts → ∃ k, uRun D V qs k U ts
  | 0, U, ts, g => by
    obtain ⟨rfl, rfl⟩ := g
    exact ⟨n, h⟩
  | m + 1, U, ts, g => by
    obtain ⟨W1, rs1, g1, g2⟩ := g
    obtain ⟨k, hk⟩ := uRun_app h g1
    exact ⟨k + 1, W1, rs1, hk, g2⟩
theorem uSt_ok {D : Nat → Prop} {V W : Nat → TV} {ps rs : List (Nat × Nat)} (hok : ∃ rk, vOK V D rk) (h : uSt D V ps W rs) : ∃ rk, vOK W D rk := by
  obtain ⟨rk, hok⟩ := hok
  obtain ⟨x0, y0, x, y, qs, _, ⟨_, _, d3, d4⟩, _, h⟩ := h
  rcases h with ⟨_, rfl, _⟩ | ⟨i, c, hic, _, ho, hr, rfl, _⟩ | ⟨_, _, _, _, _, _, _, rfl, _⟩
  · exact ⟨rk, hok⟩
  · rcases hic with ⟨rfl, rfl⟩ | ⟨rfl, rfl⟩
    · exact vOK_bind ho hok d4 hr
    · exact vOK_bind ho hok d3 hr
  · exact ⟨rk, hok⟩
theorem uRun_all {D : Nat → Prop} {th : Nat → Nat} : ∀ (m : Nat) (V : Nat → TV) (qs : List (Nat × Nat)), gzs th qs ≤ m → (∃ rk, vOK V D rk) → atI V D → vSol V D th → (∀ q ∈ qs, th q.1 = th q.2 ∧ D q.1 ∧ D q.2) → ∃ n W, uRun D V qs n W [] := by
  intro m
  induction m with
  | zero =>
    intro V qs hm hok ha hs hq
    cases qs with
    | nil => exact ⟨0, V, rfl, rfl⟩
    | cons q qs =>
      have := gz_pos (th q.1)
      simp only [gzs] at hm
      omega
  | succ m ih =>
    intro V qs hm hok ha hs hq
    cases qs with
    | nil => exact ⟨0, V, rfl, rfl⟩
    | cons q qs =>
      obtain ⟨a, b⟩ := q
      have h0 := hq (a, b) List.mem_cons_self
      obtain ⟨W, rs, h1, h2⟩ := uSt_ex hok ha hs h0.2.1 h0.2.2 h0.1 (fun q h => (hq q (List.mem_cons_of_mem _ h)).2)
      have g := uSt_gz h1 hs (fun q h => (hq q h).1)
      simp only at g
      have g3 : gzs th rs + 1 ≤ gzs th ((a, b) :: qs) := g.2.2
      obtain ⟨n, U, hr⟩ := ih W rs (by omega) (uSt_ok hok h1) (atI_ext (uSt_ext h1) ha) g.1 (fun q h => ⟨g.2.1 q h, h2 q h⟩)
      exact ⟨n + 1, U, uRun_cons h1 hr⟩
