/-! MEET: types and links of two views side by side -/
def mpV (f : Nat → Nat) : TV → TV
  | some (.inl e) => some (.inl (f e))
  | some (.inr (.inr (a, b))) => some (.inr (.inr (f a, f b)))
  | x => x
/-- a view Vi that lies in another by f -/
def emS (V : Nat → TV) (D Hd Rt : Nat → Prop) (Vi : Nat → TV) (Di Hi Ri : Nat → Prop) (th : Nat → Nat) (f : Nat → Nat) : Prop :=
  (∀ c, Di c → D (f c)) ∧ (∀ c, Di c → V (f c) = mpV f (Vi c)) ∧ (∀ c d, Di c → Di d → f c = f d → c = d) ∧ vCl Vi Di ∧ (∀ c, Di c → (isV (f c) ↔ isV c)) ∧ (∀ c, Di c → (Hd (f c) ↔ Hi c)) ∧ ((∀ c, Di c → Ri c → Rt (f c)) ∧ ∀ c, Di c → Rt (f c) → Ri c ∨ th (f c) ≤ 11) ∧ (∀ w, nmO (fun c => th (f c)) w = nmO th w) ∧
  ∀ d a b, D d → V d = some (.inr (.inr (a, b))) → (∃ d2, Di d2 ∧ d = f d2) ∨ ((∀ c, Di c → a = f c → th a ≤ 11) ∧ ∀ c, Di c → b = f c → th b ≤ 11)
section
variable {V Vi : Nat → TV} {D Hd Rt Di Hi Ri : Nat → Prop} {th f : Nat → Nat}
theorem mpV_pair {x : TV} {a b : Nat} (h : mpV f x = some (.inr (.inr (a, b)))) : ∃ a2 b2, x = some (.inr (.inr (a2, b2))) ∧ a = f a2 ∧ b = f b2 := by
  match x, h with
  | some (.inr (.inr (a2, b2))), h =>
    simp only [mpV, Option.some.injEq, Sum.inr.injEq, Prod.mk.injEq] at h
    exact ⟨a2, b2, rfl, h.1.symm, h.2.symm⟩
  | some (.inr (.inl _)), h => simp [mpV] at h
  | some (.inl _), h => simp [mpV] at h
  | none, h => cases h
theorem mpV_ref {x : TV} {e : Nat} (h : mpV f x = some (.inl e)) : ∃ e2, x = some (.inl e2) ∧ e = f e2 := by
  match x, h with
  | some (.inl e2), h =>
    simp only [mpV, Option.some.injEq, Sum.inl.injEq] at h
    exact ⟨e2, rfl, h.symm⟩
  | some (.inr (.inr (a2, b2))), h => simp [mpV] at h
  | some (.inr (.inl _)), h => simp [mpV] at h
  | none, h => cases h
theorem emS_sol (h : emS V D Hd Rt Vi Di Hi Ri th f) (hs : vSol V D th) : vSol Vi Di (fun c => th (f c)) := fun c dc => by
  have := hs (f c) (h.1 c dc)
  rw [h.2.1 c dc] at this
  refine ⟨fun e he => this.1 (f e) (by rw [he]; rfl), fun n hn => this.2.1 n (by rw [hn]; rfl), fun a b hp => this.2.2 (f a) (f b) (by rw [hp]; rfl)⟩
theorem emS_ty (h : emS V D Hd Rt Vi Di Hi Ri th f) : (∀ c, Di c → (tLR V D Hd Rt th (f c) ↔ tLR Vi Di Hi Ri (fun c => th (f c)) c)) ∧ ∀ c, Di c → (tLt V D Hd Rt th (f c) ↔ tLt Vi Di Hi Ri (fun c => th (f c)) c) := by
  obtain ⟨e1, e2, e3, e4, e5, e6, ⟨e7, e7b⟩, e8, e9⟩ := h
  have up := gL_ind (V := Vi) (D := Di) (R0 := tR0 Di Hi Ri (fun c => th (f c))) (L0 := tL0 Di Hi (fun c => th (f c))) (th := fun c => th (f c)) (nm := nmO (fun c => th (f c))) (A := fun c => Di c → tLR V D Hd Rt th (f c)) (B := fun c => Di c → tLt V D Hd Rt th (f c)) (fun c hc dc => ?_) (fun c hc dc => ?_) (fun d a b dd hv => ?_)
  · have down := gL_ind (V := V) (D := D) (R0 := tR0 D Hd Rt th) (L0 := tL0 D Hd th) (th := th) (nm := nmO th) (A := fun x => ∀ c, Di c → x = f c → tLR Vi Di Hi Ri (fun c => th (f c)) c) (B := fun x => ∀ c, Di c → x = f c → tLt Vi Di Hi Ri (fun c => th (f c)) c) (fun x hx c dc e => ?_) (fun x hx c dc e => ?_) (fun d a b dd hv => ?_)
    · exact ⟨fun c dc => ⟨fun q => down.1 (f c) q c dc rfl, fun q => up.1 c q dc⟩, fun c dc => ⟨fun q => down.2 (f c) q c dc rfl, fun q => up.2 c q dc⟩⟩
    · subst e
      refine tLR_of ⟨dc, ?_⟩
      rcases hx.2 with q | q | q | q
      · exact Or.inl q
      · exact Or.inr (Or.inl ⟨(e5 c dc).mp q.1, fun z => q.2 ((e6 c dc).mpr z)⟩)
      · exact Or.inr (Or.inr (Or.inl ⟨(e6 c dc).mp q.1, by rw [e8]; exact q.2⟩))
      · rcases e7b c dc q with z | z
        · exact Or.inr (Or.inr (Or.inr z))
        · exact Or.inl z
    · subst e
      refine tLt_of ⟨dc, ?_⟩
      rcases hx.2 with q | q
      · exact Or.inl q
      · exact Or.inr ⟨(e6 c dc).mp q.1, by rw [e8]; exact q.2⟩
    · have low : ∀ c, Di c → th (f c) ≤ 11 → tLR Vi Di Hi Ri (fun c => th (f c)) c ∧ tLt Vi Di Hi Ri (fun c => th (f c)) c := fun c dc q => ⟨tLR_of ⟨dc, Or.inl q⟩, tLt_of ⟨dc, Or.inl q⟩⟩
      rcases e9 d a b dd hv with ⟨d2, dd2, rfl⟩ | ⟨z1, z2⟩
      · rw [e2 d2 dd2] at hv
        obtain ⟨a2, b2, hv2, rfl, rfl⟩ := mpV_pair hv
        have da := (e4 d2 dd2).2 a2 b2 hv2
        refine ⟨fun g c dc e => ?_, fun g => ⟨fun q c dc e => ?_, fun q c dc e => ?_⟩, fun g => ⟨fun q c dc e => ?_, fun q c dc e => ?_⟩⟩
        · rw [← e3 b2 c da.2 dc e]
          exact gLR_right dd2 hv2 (g d2 dd2 rfl)
        · rw [← e3 a2 c da.1 dc e]
          exact (gL_left dd2 hv2 (g.imp (fun k => k d2 dd2 rfl) (fun k => k d2 dd2 rfl))).1 (by rw [e8]; exact q)
        · rw [← e3 a2 c da.1 dc e]
          exact (gL_left dd2 hv2 (g.imp (fun k => k d2 dd2 rfl) (fun k => k d2 dd2 rfl))).2 (by rw [e8]; exact q)
        · rw [← e3 b2 c da.2 dc e]
          exact (gLt_right dd2 hv2 (g d2 dd2 rfl)).1 (by rw [e8]; exact q)
        · rw [← e3 b2 c da.2 dc e]
          exact (gLt_right dd2 hv2 (g d2 dd2 rfl)).2 (by rw [e8]; exact q)
      · refine ⟨fun g c dc e => (low c dc (by rw [← e]; exact z2 c dc e)).1, fun g => ⟨fun q c dc e => (low c dc (by rw [← e]; exact z1 c dc e)).1, fun q c dc e => (low c dc (by rw [← e]; exact z1 c dc e)).2⟩, fun g => ⟨fun q c dc e => (low c dc (by rw [← e]; exact z2 c dc e)).1, fun q c dc e => (low c dc (by rw [← e]; exact z2 c dc e)).2⟩⟩
  · refine tLR_of ⟨e1 c dc, ?_⟩
    rcases hc.2 with q | q | q | q
    · exact Or.inl q
    · exact Or.inr (Or.inl ⟨(e5 c dc).mpr q.1, fun z => q.2 ((e6 c dc).mp z)⟩)
    · exact Or.inr (Or.inr (Or.inl ⟨(e6 c dc).mpr q.1, by rw [← e8]; exact q.2⟩))
    · exact Or.inr (Or.inr (Or.inr (e7 c dc q)))
  · refine tLt_of ⟨e1 c dc, ?_⟩
    rcases hc.2 with q | q
    · exact Or.inl q
    · exact Or.inr ⟨(e6 c dc).mpr q.1, by rw [← e8]; exact q.2⟩
  · have hv2 : V (f d) = some (.inr (.inr (f a, f b))) := by rw [e2 d dd, hv]; rfl
    have d2 := e1 d dd
    refine ⟨fun g _ => gLR_right d2 hv2 (g dd), fun g => ⟨fun q _ => (gL_left d2 hv2 (g.imp (fun k => k dd) (fun k => k dd))).1 (by rw [← e8]; exact q), fun q _ => (gL_left d2 hv2 (g.imp (fun k => k dd) (fun k => k dd))).2 (by rw [← e8]; exact q)⟩, fun g => ⟨fun q _ => (gLt_right d2 hv2 (g dd)).1 (by rw [← e8]; exact q), fun q _ => (gLt_right d2 hv2 (g dd)).2 (by rw [← e8]; exact q)⟩⟩
theorem emS_tgu (h : emS V D Hd Rt Vi Di Hi Ri th f) : ∀ {n c x : Nat}, Di c → tgN Vi n c x → tgN V n (f c) (f x)
  | 0, c, x, dc, ⟨e, hr⟩ => by
    subst e
    refine ⟨rfl, fun y hy => ?_⟩
    rw [h.2.1 c dc] at hy
    obtain ⟨e2, q, _⟩ := mpV_ref hy
    exact hr e2 q
  | n + 1, c, x, dc, ⟨e, he, g⟩ => ⟨f e, by rw [h.2.1 c dc, he]; rfl, emS_tgu h ((h.2.2.2.1 c dc).1 e he) g⟩
theorem emS_tgd (h : emS V D Hd Rt Vi Di Hi Ri th f) : ∀ {n c x : Nat}, Di c → tgN V n (f c) x → ∃ x2, Di x2 ∧ x = f x2 ∧ tgN Vi n c x2
  | 0, c, x, dc, ⟨e, hr⟩ => by
    subst e
    refine ⟨c, dc, rfl, rfl, fun y hy => hr (f y) ?_⟩
    rw [h.2.1 c dc, hy]
    rfl
  | n + 1, c, x, dc, ⟨e, he, g⟩ => by
    rw [h.2.1 c dc] at he
    obtain ⟨e2, q, rfl⟩ := mpV_ref he
    obtain ⟨x2, k1, k2, k3⟩ := emS_tgd h ((h.2.2.2.1 c dc).1 e2 q) g
    exact ⟨x2, k1, k2, e2, q, k3⟩
end
