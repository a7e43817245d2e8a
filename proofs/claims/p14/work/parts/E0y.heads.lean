/-! WHAT A NEW HEAD COMES TO -/
theorem xvRfl {V : Nat → TV} : vExt V V := fun c => Or.inl rfl
theorem xvTr {U V W : Nat → TV} (h1 : vExt U V) (h2 : vExt V W) : vExt U W := fun c => by
  rcases h2 c with q | ⟨q1, e, q2⟩
  · rcases h1 c with z | ⟨z1, e, z2⟩
    · exact Or.inl (q.trans z)
    · exact Or.inr ⟨z1, e, q.trans z2⟩
  · rcases h1 c with z | ⟨z1, e2, z2⟩
    · exact Or.inr ⟨by rw [← z]; exact q1, e, q2⟩
    · rw [z2] at q1; cases q1
theorem uxSt {D : Nat → Prop} {V W : Nat → TV} {ps rs : List (Nat × Nat)} (h : uSt D V ps W rs) : vExt V W := by
  obtain ⟨x0, y0, x, y, qs, _, _, _, h⟩ := h
  rcases h with ⟨_, rfl, _⟩ | ⟨i, c, _, _, ho, _, rfl, _⟩ | ⟨_, _, _, _, _, _, _, rfl, _⟩
  · exact xvRfl
  · exact vExt.bind xvRfl ho
  · exact xvRfl
theorem uxRun {D : Nat → Prop} {V : Nat → TV} {qs : List (Nat × Nat)} : ∀ {n : Nat} {W : Nat → TV} {rs : List (Nat × Nat)}, uRun D V qs n W rs → vExt V W
  | 0, W, rs, h => by
    obtain ⟨rfl, rfl⟩ := h
    exact xvRfl
  | n + 1, W, rs, h => by
    obtain ⟨W1, rs1, h1, h2⟩ := h
    exact xvTr (uxRun h1) (uxSt h2)
theorem tgUp {V W : Nat → TV} (h : vExt V W) : ∀ {n c x z : Nat}, tgN V n c x → tg W x z → tg W c z
  | 0, c, x, z, ⟨e, _⟩, g => by rw [e]; exact g
  | n + 1, c, x, z, ⟨e, he, q⟩, g => by
    refine tg_step ?_ (tgUp h q g)
    rcases h c with y | ⟨y, _⟩
    · rw [y]; exact he
    · rw [he] at y; cases y
theorem tgX {W : Nat → TV} {D : Nat → Prop} {rk : Nat → Nat} (hok : vOK W D rk) : ∀ (n c : Nat), rk c < n → D c → ∃ x, tg W c x
  | 0, c, h, _ => by omega
  | n + 1, c, h, hc => by
    by_cases hv : vRes W c
    · exact ⟨c, tg_self hv⟩
    · have hv2 : ∃ e, W c = some (.inl e) := Classical.byContradiction (fun q => hv (fun e he => q ⟨e, he⟩))
      obtain ⟨e, he⟩ := hv2
      have h1 := (hok c hc).1 e he
      obtain ⟨x, hx⟩ := tgX hok n e (by omega) h1.1
      exact ⟨x, tg_step he hx⟩
theorem new_head {D : Nat → Prop} {V W : Nat → TV} {x c1 h t n : Nat} (hok : ∃ rk, vOK V D rk) (hok2 : ∃ rk, vOK W D rk) (hv : V c1 = some (.inr (.inr (h, t)))) (ho : V h = none) (hr : uRun D V [(x, c1)] n W []) : (∃ i, tg V x i ∧ W i = some (.inl c1)) ∨ ∃ c0, tg V x c0 ∧ (c0 = c1 ∨ ∃ a b, V c0 = some (.inr (.inr (a, b))) ∧ ∃ y, tg W a y ∧ tg W h y) := by
  obtain ⟨rk, hok⟩ := hok
  obtain ⟨rk2, hok2⟩ := hok2
  match n, hr with
  | 0, hr => exact absurd hr.2 (by intro q; cases q)
  | n + 1, hr =>
    obtain ⟨V1, qs1, g1, g2⟩ := uRun_head hr
    obtain ⟨x0, y0, xr, yr, qs, e, ⟨d1, d2, d3, d4⟩, ⟨w1, w2, r1, r2⟩, g⟩ := g1
    cases e
    have t1 := tg_wlk hok d1 w1 r1
    have t2 := tg_wlk hok d2 w2 r2
    have hy : yr = c1 := tg_uniq t2 (tg_self (fun e he => by rw [hv] at he; cases he))
    subst hy
    rcases g with ⟨e1, _, _⟩ | ⟨i, c, hic, hne, ho2, _, hV1, _⟩ | ⟨a, b, c, d, hne, e1, e2, rfl, rfl⟩
    · exact Or.inr ⟨yr, e1 ▸ t1, Or.inl rfl⟩
    · rcases hic with ⟨e3, e4⟩ | ⟨e3, e4⟩
      · rw [e3, e4] at hV1
        refine Or.inl ⟨xr, t1, ?_⟩
        have hx := uxRun g2 xr
        rw [hV1, vB_same] at hx
        rcases hx with z | ⟨z, _⟩
        · exact z
        · cases z
      · rw [e3, hv] at ho2
        cases ho2
    · rw [hv] at e2
      cases e2
      refine Or.inr ⟨xr, t1, Or.inr ⟨a, b, e1, ?_⟩⟩
      match n, g2 with
      | 0, g2 => exact absurd g2.2 (by intro q; cases q)
      | n + 1, g2 =>
        obtain ⟨V2, qs2, k1, k2⟩ := uRun_head g2
        obtain ⟨x1, y1, ar, hr1, qs3, e, ⟨d5, d6, d7, d8⟩, ⟨w3, w4, r3, r4⟩, k⟩ := k1
        simp only [List.cons.injEq, Prod.mk.injEq] at e
        obtain ⟨⟨rfl, rfl⟩, rfl⟩ := e
        have t3 := tg_wlk hok d5 w3 r3
        have t4 := tg_wlk hok d6 w4 r4
        have hh : hr1 = h := tg_uniq t4 (tg_self (fun e he => by rw [ho] at he; cases he))
        subst hh
        have up : ∃ y, tg V2 a y ∧ tg V2 hr1 y ∧ D y := by
          rcases k with ⟨e3, rfl, _⟩ | ⟨i, c, hic, hne2, ho2, _, rfl, _⟩ | ⟨_, _, _, _, _, _, e4, _⟩
          · exact ⟨hr1, e3 ▸ t3, t4, d8⟩
          · rcases hic with ⟨rfl, rfl⟩ | ⟨rfl, rfl⟩
            · exact ⟨c, (tg_bind ho2 r4 (Ne.symm hne2)).mpr (Or.inr ⟨t3, rfl⟩), (tg_bind ho2 r4 (Ne.symm hne2)).mpr (Or.inl ⟨t4, Ne.symm hne2⟩), d8⟩
            · exact ⟨c, (tg_bind ho2 r3 (Ne.symm hne2)).mpr (Or.inl ⟨t3, Ne.symm hne2⟩), (tg_bind ho2 r3 (Ne.symm hne2)).mpr (Or.inr ⟨t4, rfl⟩), d7⟩
          · rw [ho] at e4; cases e4
        obtain ⟨y, u1, u2, dy⟩ := up
        have hx := uxRun k2
        obtain ⟨z, hz⟩ := tgX hok2 (rk2 y + 1) y (by omega) dy
        obtain ⟨m1, u1⟩ := u1
        obtain ⟨m2, u2⟩ := u2
        exact ⟨z, tgUp hx u1 hz, tgUp hx u2 hz⟩
theorem tgCl {V : Nat → TV} {S : Nat → Prop} (h : vCl V S) : ∀ {n c x : Nat}, S c → tgN V n c x → S x
  | 0, _, _, hc, e => e.1 ▸ hc
  | _ + 1, c, _, hc, ⟨e, he, q⟩ => tgCl h ((h c hc).1 e he) q
theorem tgTh {V : Nat → TV} {D : Nat → Prop} {th rk : Nat → Nat} (hok : vOK V D rk) (hs : vSol V D th) : ∀ {n c x : Nat}, D c → tgN V n c x → th c = th x
  | 0, _, _, _, e => by rw [e.1]
  | _ + 1, c, _, hc, ⟨e, he, q⟩ => ((hs c hc).1 e he).trans (tgTh hok hs ((hok c hc).1 e he).1 q)
theorem xv_pr {V W : Nat → TV} (h : vExt V W) {c a b : Nat} (hv : V c = some (.inr (.inr (a, b)))) : W c = some (.inr (.inr (a, b))) := by
  rcases h c with z | ⟨z, _⟩
  · rw [z]; exact hv
  · rw [hv] at z; cases z
