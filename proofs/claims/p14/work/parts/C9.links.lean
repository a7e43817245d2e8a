/-! LINKS: what comes to one thing is linked, over values, to something told -/
section
variable (V : Nat → TV) (D LR Hd Ab : Nat → Prop) (th : Nat → Nat)
/-- a list's pair whose left half comes to x -/
def itm (W : Nat → TV) (c x : Nat) : Prop := D c ∧ LR c ∧ ∃ a b, V c = some (.inr (.inr (a, b))) ∧ tg W a x
/-- an unfold whose head comes to x joins two values -/
def egV (W : Nat → TV) (x w u : Nat) : Prop := ∃ b, Ab b ∧ tg W b x ∧ ((w = nd (th b) (th (b + 1)) ∧ u = nd (th b) (th (b + 2))) ∨ (w = nd (th b) (th (b + 2)) ∧ u = nd (th b) (th (b + 1))))
def lkN (W : Nat → TV) (x : Nat) : Nat → Nat → Nat → Prop
  | 0, w, u => w = u
  | n + 1, w, u => ∃ e, lkN W x n w e ∧ egV Ab th W x e u
def Lk (W : Nat → TV) (x w u : Nat) : Prop := ∃ n, lkN Ab th W x n w u
/-- the values at x -/
def xv (W : Nat → TV) (x w : Nat) : Prop := (∃ c, itm V D LR W c x ∧ th c = w) ∨ ∃ u, egV Ab th W x w u
/-- told: with a left half that is no head -/
def anV (W : Nat → TV) (x w : Nat) : Prop := ∃ c, itm V D LR W c x ∧ th c = w ∧ ∃ a b, V c = some (.inr (.inr (a, b))) ∧ ¬ Hd a
/-- nothing but heads comes to x -/
def HO (W : Nat → TV) (x : Nat) : Prop := ∀ e, D e → tg W e x → Hd e
def Jk (W : Nat → TV) : Prop := ∀ x w, xv V D LR Ab th W x w → (∃ u, anV V D LR Hd th W x u ∧ Lk Ab th W x w u) ∨ (HO D Hd W x ∧ ∀ u, xv V D LR Ab th W x u → Lk Ab th W x w u)
/-- a pair of codes that may meet: no heads, or the left halves of lists of one value -/
def wit (q : Nat × Nat) : Prop := (¬ Hd q.1 ∧ ¬ Hd q.2) ∨ ∃ c d b e, (D c ∧ LR c ∧ V c = some (.inr (.inr (q.1, b)))) ∧ (D d ∧ LR d ∧ V d = some (.inr (.inr (q.2, e)))) ∧ th c = th d
end
section
variable {V : Nat → TV} {D LR Hd Ab : Nat → Prop} {th : Nat → Nat}
theorem egV.symm' {W : Nat → TV} {x w u : Nat} (h : egV Ab th W x w u) : egV Ab th W x u w := by
  obtain ⟨b, h1, h2, h3⟩ := h
  exact ⟨b, h1, h2, h3.elim (fun q => Or.inr ⟨q.2, q.1⟩) (fun q => Or.inl ⟨q.2, q.1⟩)⟩
theorem Lk.self' {W : Nat → TV} {x w : Nat} : Lk Ab th W x w w := ⟨0, rfl⟩
theorem Lk.step' {W : Nat → TV} {x w u v : Nat} (h : Lk Ab th W x w u) (g : egV Ab th W x u v) : Lk Ab th W x w v := by
  obtain ⟨n, h⟩ := h
  exact ⟨n + 1, u, h, g⟩
theorem lkN_trans {W : Nat → TV} {x w u : Nat} (h : Lk Ab th W x w u) : ∀ {n v : Nat}, lkN Ab th W x n u v → Lk Ab th W x w v
  | 0, _, q => q ▸ h
  | _ + 1, _, ⟨_, h1, h2⟩ => Lk.step' (lkN_trans h h1) h2
theorem Lk.trans' {W : Nat → TV} {x w u v : Nat} (h : Lk Ab th W x w u) (g : Lk Ab th W x u v) : Lk Ab th W x w v := by
  obtain ⟨_, g⟩ := g
  exact lkN_trans h g
theorem lkN_symm {W : Nat → TV} {x : Nat} : ∀ {n w u : Nat}, lkN Ab th W x n w u → Lk Ab th W x u w
  | 0, _, _, h => by
    have h : _ = _ := h
    subst h
    exact Lk.self'
  | n + 1, w, u, ⟨e, h1, h2⟩ => (Lk.step' Lk.self' h2.symm').trans' (lkN_symm h1)
theorem Lk.symm' {W : Nat → TV} {x w u : Nat} (h : Lk Ab th W x w u) : Lk Ab th W x u w := by
  obtain ⟨n, h⟩ := h
  exact lkN_symm h
/-- a link stays where its heads still come to one thing -/
theorem Lk.mono {W U : Nat → TV} {x y : Nat} (hm : ∀ b, Ab b → tg W b x → tg U b y) {w u : Nat} (h : Lk Ab th W x w u) : Lk Ab th U y w u := by
  obtain ⟨n, h⟩ := h
  refine ⟨n, ?_⟩
  induction n generalizing u with
  | zero => exact h
  | succ n ih =>
    obtain ⟨e, g1, b, g2, g3, g4⟩ := h
    exact ⟨e, ih g1, b, g2, hm b g2 g3, g4⟩
theorem HO_anc {W : Nat → TV} (hD : ∀ c a b, D c → V c = some (.inr (.inr (a, b))) → D a) {x u : Nat} (ho : HO D Hd W x) (ha : anV V D LR Hd th W x u) : False := by
  obtain ⟨c, ⟨d1, _, a2, b2, e2, t⟩, _, a, b, e, hn⟩ := ha
  rw [e2] at e
  cases e
  exact hn (ho a2 (hD c a2 b2 d1 e2) t)
/-- a binding keeps the links -/
theorem Jk_bind {W : Nat → TV} {i c p q : Nat} (hD : ∀ c a b, D c → V c = some (.inr (.inr (a, b))) → D a) (h : Jk V D LR Hd Ab th W) (ho : W i = none) (hc : vRes W c) (hne : c ≠ i) (dp : D p) (dq : D q) (tp : tg W p i) (tq : tg W q c) (hw : wit V D LR Hd th (p, q)) : Jk V D LR Hd Ab th (vB W i c) := by
  have upx : ∀ {x b}, x ≠ i → tg W b x → tg (vB W i c) b x := fun hx t => (tg_bind ho hc hne).mpr (Or.inl ⟨t, hx⟩)
  have upi : ∀ {b}, tg W b i → tg (vB W i c) b c := fun t => (tg_bind ho hc hne).mpr (Or.inr ⟨t, rfl⟩)
  have itx : ∀ {x d}, x ≠ i → itm V D LR W d x → itm V D LR (vB W i c) d x := fun hx ⟨d1, d2, a, b, e, t⟩ => ⟨d1, d2, a, b, e, upx hx t⟩
  have iti : ∀ {d}, itm V D LR W d i → itm V D LR (vB W i c) d c := fun ⟨d1, d2, a, b, e, t⟩ => ⟨d1, d2, a, b, e, upi t⟩
  have back : ∀ {x w}, xv V D LR Ab th (vB W i c) x w → (xv V D LR Ab th W x w ∧ x ≠ i) ∨ (xv V D LR Ab th W i w ∧ x = c) := by
    rintro x w (⟨d, ⟨d1, d2, a, b, e, t⟩, hw⟩ | ⟨u, b, hb, t, hu⟩)
    · exact ((tg_bind ho hc hne).mp t).imp (fun z => ⟨Or.inl ⟨d, ⟨d1, d2, a, b, e, z.1⟩, hw⟩, z.2⟩) (fun z => ⟨Or.inl ⟨d, ⟨d1, d2, a, b, e, z.1⟩, hw⟩, z.2⟩)
    · exact ((tg_bind ho hc hne).mp t).imp (fun z => ⟨Or.inr ⟨u, b, hb, z.1, hu⟩, z.2⟩) (fun z => ⟨Or.inr ⟨u, b, hb, z.1, hu⟩, z.2⟩)
  have anx : ∀ {x u}, x ≠ i → anV V D LR Hd th W x u → anV V D LR Hd th (vB W i c) x u := fun hx ⟨d, g1, g2, g3⟩ => ⟨d, itx hx g1, g2, g3⟩
  have ani : ∀ {u}, anV V D LR Hd th W i u → anV V D LR Hd th (vB W i c) c u := fun ⟨d, g1, g2, g3⟩ => ⟨d, iti g1, g2, g3⟩
  have lix : ∀ {x w u}, x ≠ i → Lk Ab th W x w u → Lk Ab th (vB W i c) x w u := fun hx z => z.mono (fun b _ t => upx hx t)
  have lii : ∀ {w u}, Lk Ab th W i w u → Lk Ab th (vB W i c) c w u := fun z => z.mono (fun b _ t => upi t)
  -- status of a class
  have sA : ∀ y, ¬ HO D Hd W y → ∀ w, xv V D LR Ab th W y w → ∃ u, anV V D LR Hd th W y u ∧ Lk Ab th W y w u := fun y hy w hd => by
    rcases h y w hd with z | z
    · exact z
    · exact absurd z.1 hy
  have sH : ∀ y, HO D Hd W y → ∀ w, xv V D LR Ab th W y w → ∀ u, xv V D LR Ab th W y u → Lk Ab th W y w u := fun y hy w hd => by
    rcases h y w hd with ⟨e, z1, _⟩ | z
    · exact (HO_anc hD hy z1).elim
    · exact z.2
  have wits : (HO D Hd W i ∨ HO D Hd W c) → ∃ w, xv V D LR Ab th W i w ∧ xv V D LR Ab th W c w := by
    intro hh
    have hhd : ¬ (¬ Hd p ∧ ¬ Hd q) := fun z => by
      rcases hh with g | g
      · exact z.1 (g p dp tp)
      · exact z.2 (g q dq tq)
    rcases hw with z | ⟨i1, i2, b, e, ⟨u1, u2, u3⟩, ⟨v1, v2, v3⟩, w⟩
    · exact absurd z hhd
    · exact ⟨th i1, Or.inl ⟨i1, ⟨u1, u2, p, b, u3, tp⟩, rfl⟩, Or.inl ⟨i2, ⟨v1, v2, q, e, v3, tq⟩, w.symm⟩⟩
  intro x w hd
  by_cases hx : x = c
  · subst hx
    by_cases hi : HO D Hd W i
    · obtain ⟨v, w1, w2⟩ := wits (Or.inl hi)
      by_cases hcc : HO D Hd W x
      · refine Or.inr ⟨fun e de te => ?_, fun u hu => ?_⟩
        · rcases (tg_bind ho hc hne).mp te with ⟨z, _⟩ | ⟨z, _⟩
          · exact hcc e de z
          · exact hi e de z
        · have to1 : ∀ u, xv V D LR Ab th (vB W i x) x u → Lk Ab th (vB W i x) x u v := by
            intro u hu
            rcases back hu with ⟨z, _⟩ | ⟨z, _⟩
            · exact lix hne (sH x hcc u z v w2)
            · exact lii (sH i hi u z v w1)
          exact (to1 w hd).trans' (to1 u hu).symm'
      · obtain ⟨u, e1, e2⟩ := sA x hcc v w2
        rcases back hd with ⟨z, _⟩ | ⟨z, _⟩
        · obtain ⟨u2, e3, e4⟩ := sA x hcc w z
          exact Or.inl ⟨u2, anx hne e3, lix hne e4⟩
        · exact Or.inl ⟨u, anx hne e1, (lii (sH i hi w z v w1)).trans' (lix hne e2)⟩
    · by_cases hcc : HO D Hd W x
      · obtain ⟨v, w1, w2⟩ := wits (Or.inr hcc)
        obtain ⟨u, e1, e2⟩ := sA i hi v w1
        rcases back hd with ⟨z, _⟩ | ⟨z, _⟩
        · exact Or.inl ⟨u, ani e1, (lix hne (sH x hcc w z v w2)).trans' (lii e2)⟩
        · obtain ⟨u2, e3, e4⟩ := sA i hi w z
          exact Or.inl ⟨u2, ani e3, lii e4⟩
      · rcases back hd with ⟨z, _⟩ | ⟨z, _⟩
        · obtain ⟨u2, e3, e4⟩ := sA x hcc w z
          exact Or.inl ⟨u2, anx hne e3, lix hne e4⟩
        · obtain ⟨u2, e3, e4⟩ := sA i hi w z
          exact Or.inl ⟨u2, ani e3, lii e4⟩
  · rcases back hd with ⟨g, hxi⟩ | ⟨_, g⟩
    · rcases h x w g with ⟨u, e1, e2⟩ | ⟨e1, e2⟩
      · exact Or.inl ⟨u, anx hxi e1, lix hxi e2⟩
      · refine Or.inr ⟨fun e de te => ?_, fun u hu => ?_⟩
        · rcases (tg_bind ho hc hne).mp te with ⟨z, _⟩ | ⟨_, z⟩
          · exact e1 e de z
          · exact absurd z hx
        · rcases back hu with ⟨z, _⟩ | ⟨_, z⟩
          · exact lix hxi (e2 u z)
          · exact absurd z hx
    · exact absurd g hx
/-- the codes on unify's pile -/
def pIn (V : Nat → TV) (D LR Lt Hd : Nat → Prop) (th : Nat → Nat) (q : Nat × Nat) : Prop := ((LR q.1 ∧ LR q.2) ∨ (Lt q.1 ∧ Lt q.2)) ∧ wit V D LR Hd th q
theorem uSt_J {nm : Nat → Bool} {Lt : Nat → Prop} {W U : Nat → TV} {ps rs : List (Nat × Nat)} (hst : uSt D W ps U rs) (hty : tyOK V D th nm LR Lt) (hD : ∀ c a b, D c → V c = some (.inr (.inr (a, b))) → D a) (hH : ∀ c a b, D c → V c = some (.inr (.inr (a, b))) → (Hd a → ¬ Lt c) ∧ ¬ Hd b) (hpr : ∀ c a b, W c = some (.inr (.inr (a, b))) ↔ V c = some (.inr (.inr (a, b)))) (hok : ∃ rk, vOK W D rk) (hs : vSol W D th) (hvt : vTy W D LR Lt) (hJ : Jk V D LR Hd Ab th W) (hq : ∀ q ∈ ps, th q.1 = th q.2 ∧ pIn V D LR Lt Hd th q) :
    (∃ rk, vOK U D rk) ∧ vSol U D th ∧ vTy U D LR Lt ∧ (∀ c a b, U c = some (.inr (.inr (a, b))) ↔ V c = some (.inr (.inr (a, b)))) ∧ Jk V D LR Hd Ab th U ∧ ∀ q ∈ rs, th q.1 = th q.2 ∧ pIn V D LR Lt Hd th q := by
  obtain ⟨rk, hok⟩ := hok
  obtain ⟨y1, y2, y3, y4, y5, y6⟩ := hty
  obtain ⟨x0, y0, x, y, qs, rfl, ⟨d1, d2, d3, d4⟩, ⟨w1, w2, r1, r2⟩, h⟩ := hst
  have hqs : ∀ q ∈ qs, th q.1 = th q.2 ∧ pIn V D LR Lt Hd th q := fun q h => hq q (List.mem_cons_of_mem _ h)
  obtain ⟨hxy, hty, hwt⟩ := hq (x0, y0) List.mem_cons_self
  have hx : th x0 = th x := w1.1 th hs
  have hy : th y0 = th y := w2.1 th hs
  have t1 := tg_wlk hok d1 w1 r1
  have t2 := tg_wlk hok d2 w2 r2
  have g1 := tg_ty hok hvt d1 t1
  have g2 := tg_ty hok hvt d2 t2
  have hxe : th x = th y := by
    have : th x0 = th y0 := hxy
    omega
  have both : (LR x ∧ LR y) ∨ (Lt x ∧ Lt y) := hty.imp (fun q => ⟨g1.1 q.1, g2.1 q.2⟩) (fun q => ⟨g1.2 q.1, g2.2 q.2⟩)
  rcases h with ⟨_, rfl, rfl⟩ | ⟨i, c, hic, hne, ho, hr, rfl, rfl⟩ | ⟨a, b, c, d, hne, e1, e2, rfl, rfl⟩
  · exact ⟨⟨rk, hok⟩, hs, hvt, hpr, hJ, hqs⟩
  · have di : D i := by rcases hic with ⟨rfl, rfl⟩ | ⟨rfl, rfl⟩ <;> assumption
    have dc : D c := by rcases hic with ⟨rfl, rfl⟩ | ⟨rfl, rfl⟩ <;> assumption
    have hth : th i = th c := by rcases hic with ⟨rfl, rfl⟩ | ⟨rfl, rfl⟩ <;> omega
    have both2 : (LR i ∧ LR c) ∨ (Lt i ∧ Lt c) := by
      rcases hic with ⟨rfl, rfl⟩ | ⟨rfl, rfl⟩
      · exact both
      · exact both.imp (fun q => ⟨q.2, q.1⟩) (fun q => ⟨q.2, q.1⟩)
    have hnp : ∀ a b, V i ≠ some (.inr (.inr (a, b))) := fun a b q => by
      rw [← hpr, ho] at q
      cases q
    have tyi : (LR i → LR c) ∧ (Lt i → Lt c) := by
      by_cases hl : th i ≤ 11
      · have := y5 c dc (by omega)
        exact ⟨fun _ => this.1, fun _ => this.2⟩
      · rcases both2 with q | q
        · exact ⟨fun _ => q.2, fun z => absurd (y3 i di hnp (by omega) q.1 z) id⟩
        · exact ⟨fun z => absurd (y3 i di hnp (by omega) z q.1) id, fun _ => q.2⟩
    refine ⟨?_, (vSol_bind ho di).mpr ⟨hs, hth⟩, fun z e dz he => ?_, fun z a b => ?_, ?_, hqs⟩
    · exact vOK_bind ho hok dc hr
    · by_cases hz : z = i
      · subst hz
        rw [vB_same] at he
        cases he
        exact tyi
      · rw [vB_ne W i c hz] at he
        exact hvt z e dz he
    · by_cases hz : z = i
      · subst hz
        rw [vB_same]
        exact ⟨fun q => (by cases q), fun q => absurd q (hnp a b)⟩
      · rw [vB_ne W i c hz]
        exact hpr z a b
    · rcases hic with ⟨rfl, rfl⟩ | ⟨rfl, rfl⟩
      · exact Jk_bind hD hJ ho r2 (Ne.symm hne) d1 d2 t1 t2 hwt
      · refine Jk_bind hD hJ ho r1 (Ne.symm hne) d2 d1 t2 t1 ?_
        rcases hwt with z | ⟨c1, c2, b, e, u, v, w⟩
        · exact Or.inl ⟨z.2, z.1⟩
        · exact Or.inr ⟨c2, c1, e, b, v, u, w.symm⟩
  · have ea := (hs x d3).2.2 a b e1
    have ec := (hs y d4).2.2 c d e2
    have hi := nd_inj (a := th a) (b := th b) (a2 := th c) (b2 := th d) (by rw [← ea, ← ec]; exact hxe)
    have va := (hpr x a b).mp e1
    have vc := (hpr y c d).mp e2
    refine ⟨⟨rk, hok⟩, hs, hvt, hpr, hJ, fun q hq2 => ?_⟩
    have hxH := hH x a b d3 va
    have hyH := hH y c d d4 vc
    have two : ∀ {u v : Nat}, th u = th v → ((nm (th u) = true → LR u) ∧ (nm (th u) = false → Lt u)) → ((nm (th v) = true → LR v) ∧ (nm (th v) = false → Lt v)) → (LR u ∧ LR v) ∨ (Lt u ∧ Lt v) := fun {u v} e q1 q2 => by
      cases hn : nm (th u) with
      | true => exact Or.inl ⟨q1.1 hn, q2.1 (by rw [← e]; exact hn)⟩
      | false => exact Or.inr ⟨q1.2 hn, q2.2 (by rw [← e]; exact hn)⟩
    rcases List.mem_cons.mp hq2 with rfl | hq2
    · refine ⟨hi.1, ?_, ?_⟩
      · rcases both with ⟨l1, l2⟩ | ⟨l1, l2⟩
        · exact two hi.1 (y1 x a b d3 va l1).2 (y1 y c d d4 vc l2).2
        · exact two hi.1 (y2 x a b d3 va l1).1 (y2 y c d d4 vc l2).1
      · rcases both with ⟨l1, l2⟩ | ⟨l1, l2⟩
        · exact Or.inr ⟨x, y, b, d, ⟨d3, l1, va⟩, ⟨d4, l2, vc⟩, hxe⟩
        · exact Or.inl ⟨fun z => hxH.1 z l1, fun z => hyH.1 z l2⟩
    · rcases List.mem_cons.mp hq2 with rfl | hq2
      · refine ⟨hi.2, ?_, Or.inl ⟨hxH.2, hyH.2⟩⟩
        rcases both with ⟨l1, l2⟩ | ⟨l1, l2⟩
        · exact Or.inl ⟨(y1 x a b d3 va l1).1, (y1 y c d d4 vc l2).1⟩
        · exact two hi.2 (y2 x a b d3 va l1).2 (y2 y c d d4 vc l2).2
      · exact hqs q hq2
theorem uRun_J {nm : Nat → Bool} {Lt : Nat → Prop} {U : Nat → TV} {qs : List (Nat × Nat)} (hty : tyOK V D th nm LR Lt) (hD : ∀ c a b, D c → V c = some (.inr (.inr (a, b))) → D a) (hH : ∀ c a b, D c → V c = some (.inr (.inr (a, b))) → (Hd a → ¬ Lt c) ∧ ¬ Hd b) (hpr : ∀ c a b, U c = some (.inr (.inr (a, b))) ↔ V c = some (.inr (.inr (a, b)))) (hok : ∃ rk, vOK U D rk) (hs : vSol U D th) (hvt : vTy U D LR Lt) (hJ : Jk V D LR Hd Ab th U) (hq : ∀ q ∈ qs, th q.1 = th q.2 ∧ pIn V D LR Lt Hd th q) : ∀ {n : Nat} {W : Nat → TV} {rs : List (Nat × Nat)}, uRun D U qs n W rs → (∃ rk, vOK W D rk) ∧ vSol W D th ∧ vTy W D LR Lt ∧ (∀ c a b, W c = some (.inr (.inr (a, b))) ↔ V c = some (.inr (.inr (a, b)))) ∧ Jk V D LR Hd Ab th W ∧ ∀ q ∈ rs, th q.1 = th q.2 ∧ pIn V D LR Lt Hd th q
  | 0, W, rs, h => by
    obtain ⟨rfl, rfl⟩ := h
    exact ⟨hok, hs, hvt, hpr, hJ, hq⟩
  | n + 1, W, rs, h => by
    obtain ⟨W1, rs1, h1, h2⟩ := h
    obtain ⟨g1, g2, g3, g4, g5, g6⟩ := uRun_J hty hD hH hpr hok hs hvt hJ hq h1
    exact uSt_J h2 hty hD hH g4 g1 g2 g3 g5 g6
end
