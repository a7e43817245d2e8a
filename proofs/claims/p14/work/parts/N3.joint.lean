/-! MEET: links of two views side by side -/
def emA (Ab Ai Di : Nat → Prop) (f : Nat → Nat) : Prop := ∀ b, Ai b → Ab (f b) ∧ Di b ∧ f (b + 1) = f b + 1 ∧ f (b + 2) = f b + 2
section
variable {V Vi : Nat → TV} {D Hd Rt Di Hi Ri Ab Ai : Nat → Prop} {th f : Nat → Nat}
theorem emS_eg (h : emS V D Hd Rt Vi Di Hi Ri th f) (ha : emA Ab Ai Di f) {x w u : Nat} (g : egV Ai (fun c => th (f c)) Vi x w u) : egV Ab th V (f x) w u := by
  obtain ⟨b, hb, ⟨n, t⟩, q⟩ := g
  obtain ⟨a1, a2, a3, a4⟩ := ha b hb
  simp only [a3, a4] at q
  exact ⟨f b, a1, ⟨n, emS_tgu h a2 t⟩, q⟩
theorem emS_lk (h : emS V D Hd Rt Vi Di Hi Ri th f) (ha : emA Ab Ai Di f) {x w : Nat} : ∀ {n u : Nat}, lkN Ai (fun c => th (f c)) Vi x n w u → lkN Ab th V (f x) n w u
  | 0, u, g => g
  | n + 1, u, ⟨e, g1, g2⟩ => ⟨e, emS_lk h ha g1, emS_eg h ha g2⟩
theorem emS_it (h : emS V D Hd Rt Vi Di Hi Ri th f) {c x : Nat} (g : itm Vi Di (tLR Vi Di Hi Ri (fun c => th (f c))) Vi c x) : itm V D (tLR V D Hd Rt th) V (f c) (f x) := by
  obtain ⟨d, l, a, b, hv, n, t⟩ := g
  exact ⟨h.1 c d, ((emS_ty h).1 c d).mpr l, f a, f b, by rw [h.2.1 c d, hv]; rfl, n, emS_tgu h ((h.2.2.2.1 c d).2 a b hv).1 t⟩
theorem emS_an (h : emS V D Hd Rt Vi Di Hi Ri th f) {x w : Nat} (g : anV Vi Di (tLR Vi Di Hi Ri (fun c => th (f c))) Hi (fun c => th (f c)) Vi x w) : anV V D (tLR V D Hd Rt th) Hd th V (f x) w := by
  obtain ⟨c, hi, e, a, b, hv, hn⟩ := g
  have d := hi.1
  exact ⟨f c, emS_it h hi, e, f a, f b, by rw [h.2.1 c d, hv]; rfl, fun q => hn ((h.2.2.2.2.2.1 a ((h.2.2.2.1 c d).2 a b hv).1).mp q)⟩
/-- an item of this side, an unfold of this side -/
theorem emS_itd (h : emS V D Hd Rt Vi Di Hi Ri th f) {c x : Nat} (d : Di c) (g : itm V D (tLR V D Hd Rt th) V (f c) x) : ∃ x2, Di x2 ∧ x = f x2 ∧ itm Vi Di (tLR Vi Di Hi Ri (fun c => th (f c))) Vi c x2 := by
  obtain ⟨_, l, a, b, hv, n, t⟩ := g
  rw [h.2.1 c d] at hv
  obtain ⟨a2, b2, hv2, rfl, rfl⟩ := mpV_pair hv
  obtain ⟨x2, k1, k2, k3⟩ := emS_tgd h ((h.2.2.2.1 c d).2 a2 b2 hv2).1 t
  exact ⟨x2, k1, k2, d, ((emS_ty h).1 c d).mp l, a2, b2, hv2, n, k3⟩
theorem emS_egd (h : emS V D Hd Rt Vi Di Hi Ri th f) (ha : emA Ab Ai Di f) {b x w u : Nat} (hb : Ai b) (t : tg V (f b) x) (q : (w = nd (th (f b)) (th (f b + 1)) ∧ u = nd (th (f b)) (th (f b + 2))) ∨ (w = nd (th (f b)) (th (f b + 2)) ∧ u = nd (th (f b)) (th (f b + 1)))) : ∃ x2, Di x2 ∧ x = f x2 ∧ egV Ai (fun c => th (f c)) Vi x2 w u := by
  obtain ⟨a1, a2, a3, a4⟩ := ha b hb
  obtain ⟨n, t⟩ := t
  obtain ⟨x2, k1, k2, k3⟩ := emS_tgd h a2 t
  exact ⟨x2, k1, k2, b, hb, ⟨n, k3⟩, by simp only [a3, a4]; exact q⟩
/-- what is bound is of its kind, on this side -/
theorem emS_vTy (h : emS V D Hd Rt Vi Di Hi Ri th f) (hv : vTy Vi Di (tLR Vi Di Hi Ri (fun c => th (f c))) (tLt Vi Di Hi Ri (fun c => th (f c)))) {c e : Nat} (d : Di c) (he : V (f c) = some (.inl e)) : (tLR V D Hd Rt th (f c) → tLR V D Hd Rt th e) ∧ (tLt V D Hd Rt th (f c) → tLt V D Hd Rt th e) := by
  rw [h.2.1 c d] at he
  obtain ⟨e2, q, rfl⟩ := mpV_ref he
  have de := (h.2.2.2.1 c d).1 e2 q
  have g := hv c e2 d q
  exact ⟨fun k => ((emS_ty h).1 e2 de).mpr (g.1 (((emS_ty h).1 c d).mp k)), fun k => ((emS_ty h).2 e2 de).mpr (g.2 (((emS_ty h).2 c d).mp k))⟩
end
/-- both sides' types and links are those of the whole -/
theorem emS_two {V V1 V2 : Nat → TV} {D Hd Rt Ab D1 H1 R1 A1 D2 H2 R2 A2 : Nat → Prop} {th f1 f2 : Nat → Nat} (h1 : emS V D Hd Rt V1 D1 H1 R1 th f1) (h2 : emS V D Hd Rt V2 D2 H2 R2 th f2) (a1 : emA Ab A1 D1 f1) (a2 : emA Ab A2 D2 f2)
    (hD : ∀ x, D x → (∃ c, D1 c ∧ x = f1 c) ∨ ∃ c, D2 c ∧ x = f2 c) (hA : ∀ x, Ab x → (∃ b, A1 b ∧ x = f1 b) ∨ ∃ b, A2 b ∧ x = f2 b) (hX : ∀ c d, D1 c → D2 d → f1 c = f2 d → ¬ H1 c ∧ ¬ H2 d)
    (t1 : vTy V1 D1 (tLR V1 D1 H1 R1 (fun c => th (f1 c))) (tLt V1 D1 H1 R1 (fun c => th (f1 c)))) (t2 : vTy V2 D2 (tLR V2 D2 H2 R2 (fun c => th (f2 c))) (tLt V2 D2 H2 R2 (fun c => th (f2 c))))
    (j1 : Jk V1 D1 (tLR V1 D1 H1 R1 (fun c => th (f1 c))) H1 A1 (fun c => th (f1 c)) V1) (j2 : Jk V2 D2 (tLR V2 D2 H2 R2 (fun c => th (f2 c))) H2 A2 (fun c => th (f2 c)) V2) :
    vTy V D (tLR V D Hd Rt th) (tLt V D Hd Rt th) ∧ Jk V D (tLR V D Hd Rt th) Hd Ab th V := by
  have splt : ∀ {x w}, xv V D (tLR V D Hd Rt th) Ab th V x w → (∃ y, D1 y ∧ x = f1 y ∧ xv V1 D1 (tLR V1 D1 H1 R1 (fun c => th (f1 c))) A1 (fun c => th (f1 c)) V1 y w) ∨ ∃ y, D2 y ∧ x = f2 y ∧ xv V2 D2 (tLR V2 D2 H2 R2 (fun c => th (f2 c))) A2 (fun c => th (f2 c)) V2 y w := by
    rintro x w (⟨c, hi, e⟩ | ⟨u, b, hb, t, q⟩)
    · rcases hD c hi.1 with ⟨c2, d, rfl⟩ | ⟨c2, d, rfl⟩
      · obtain ⟨y, k1, k2, k3⟩ := emS_itd h1 d hi
        exact Or.inl ⟨y, k1, k2, Or.inl ⟨c2, k3, e⟩⟩
      · obtain ⟨y, k1, k2, k3⟩ := emS_itd h2 d hi
        exact Or.inr ⟨y, k1, k2, Or.inl ⟨c2, k3, e⟩⟩
    · rcases hA b hb with ⟨b2, k, rfl⟩ | ⟨b2, k, rfl⟩
      · obtain ⟨y, k1, k2, k3⟩ := emS_egd h1 a1 k t q
        exact Or.inl ⟨y, k1, k2, Or.inr ⟨u, k3⟩⟩
      · obtain ⟨y, k1, k2, k3⟩ := emS_egd h2 a2 k t q
        exact Or.inr ⟨y, k1, k2, Or.inr ⟨u, k3⟩⟩
  -- what comes to something comes from something
  have own1 : ∀ {y w}, xv V1 D1 (tLR V1 D1 H1 R1 (fun c => th (f1 c))) A1 (fun c => th (f1 c)) V1 y w → vRes V1 y := by
    rintro y w (⟨c, ⟨_, _, _, _, _, t⟩, _⟩ | ⟨_, _, _, t, _⟩)
    · exact tg_res t
    · exact tg_res t
  have own2 : ∀ {y w}, xv V2 D2 (tLR V2 D2 H2 R2 (fun c => th (f2 c))) A2 (fun c => th (f2 c)) V2 y w → vRes V2 y := by
    rintro y w (⟨c, ⟨_, _, _, _, _, t⟩, _⟩ | ⟨_, _, _, t, _⟩)
    · exact tg_res t
    · exact tg_res t
  refine ⟨fun c e dc he => ?_, fun x w hw => ?_⟩
  · rcases hD c dc with ⟨c2, d, rfl⟩ | ⟨c2, d, rfl⟩
    · exact emS_vTy h1 t1 d he
    · exact emS_vTy h2 t2 d he
  · rcases splt hw with ⟨y, dy, rfl, hy⟩ | ⟨y, dy, rfl, hy⟩
    · rcases j1 y w hy with ⟨u, hu, n, hl⟩ | ⟨ho, hl⟩
      · exact Or.inl ⟨u, emS_an h1 hu, n, emS_lk h1 a1 hl⟩
      · have hh := ho y dy (tg_self (own1 hy))
        refine Or.inr ⟨fun e de ⟨n, te⟩ => ?_, fun u hu => ?_⟩
        · rcases hD e de with ⟨e2, d, rfl⟩ | ⟨e2, d, rfl⟩
          · obtain ⟨z, k1, k2, k3⟩ := emS_tgd h1 d te
            obtain rfl := h1.2.2.1 y z dy k1 k2
            exact (h1.2.2.2.2.2.1 e2 d).mpr (ho e2 d ⟨n, k3⟩)
          · obtain ⟨z, k1, k2, k3⟩ := emS_tgd h2 d te
            exact absurd hh (hX y z dy k1 k2).1
        · rcases splt hu with ⟨z, dz, e, hz⟩ | ⟨z, dz, e, hz⟩
          · obtain rfl := h1.2.2.1 y z dy dz e
            obtain ⟨n, q⟩ := hl u hz
            exact ⟨n, emS_lk h1 a1 q⟩
          · exact absurd hh (hX y z dy dz e).1
    · rcases j2 y w hy with ⟨u, hu, n, hl⟩ | ⟨ho, hl⟩
      · exact Or.inl ⟨u, emS_an h2 hu, n, emS_lk h2 a2 hl⟩
      · have hh := ho y dy (tg_self (own2 hy))
        refine Or.inr ⟨fun e de ⟨n, te⟩ => ?_, fun u hu => ?_⟩
        · rcases hD e de with ⟨e2, d, rfl⟩ | ⟨e2, d, rfl⟩
          · obtain ⟨z, k1, k2, k3⟩ := emS_tgd h1 d te
            exact absurd hh (hX z y k1 dy k2.symm).2
          · obtain ⟨z, k1, k2, k3⟩ := emS_tgd h2 d te
            obtain rfl := h2.2.2.1 y z dy k1 k2
            exact (h2.2.2.2.2.2.1 e2 d).mpr (ho e2 d ⟨n, k3⟩)
        · rcases splt hu with ⟨z, dz, e, hz⟩ | ⟨z, dz, e, hz⟩
          · exact absurd hh (hX z y dz dy e.symm).2
          · obtain rfl := h2.2.2.1 y z dy dz e
            obtain ⟨n, q⟩ := hl u hz
            exact ⟨n, emS_lk h2 a2 q⟩
