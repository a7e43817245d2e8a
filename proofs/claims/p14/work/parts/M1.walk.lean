/-! WALKS: the turns of unify, lists and letters told apart, against the view that all ends in -/
theorem uSt_ext {D : Nat → Prop} {V W : Nat → TV} {ps rs : List (Nat × Nat)} (h : uSt D V ps W rs) : vExt V W := by
  obtain ⟨x0, y0, x, y, qs, _, _, _, h⟩ := h
  rcases h with ⟨_, rfl, _⟩ | ⟨i, c, _, _, ho, _, rfl, _⟩ | ⟨_, _, _, _, _, _, _, rfl, _⟩
  · exact vExt_rfl
  · exact vExt.bind vExt_rfl ho
  · exact vExt_rfl
theorem uRun_ext {D : Nat → Prop} {V : Nat → TV} {qs : List (Nat × Nat)} : ∀ {n : Nat} {W : Nat → TV} {rs : List (Nat × Nat)}, uRun D V qs n W rs → vExt V W
  | 0, W, rs, h => by
    obtain ⟨rfl, rfl⟩ := h
    exact vExt_rfl
  | n + 1, W, rs, h => by
    obtain ⟨W1, rs1, h1, h2⟩ := h
    exact vExt_trans (uRun_ext h1) (uSt_ext h2)
def cW (th : Nat → Nat) (nm tn sg : Nat → Bool) (Wf : Nat → TV) (LR Lt : Nat → Prop) : List (Nat × Nat) → Nat → Prop
  | [], n => n = 0
  | q :: qs, n => ∃ k m, n = k + m ∧ cW th nm tn sg Wf LR Lt qs m ∧ ((LR q.1 ∧ LR q.2 ∧ (k + 1 = 2 * lam nm tn sg (th q.1) ∨ (k = 1 ∧ tgE Wf q.1 q.2))) ∨ (Lt q.1 ∧ Lt q.2 ∧ (k + 1 = 2 * muL nm tn sg (th q.1) ∨ (k = 1 ∧ tgE Wf q.1 q.2))))
def tnOK (V : Nat → TV) (D : Nat → Prop) (th : Nat → Nat) (LR : Nat → Prop) (tn : Nat → Bool) (Wf : Nat → TV) : Prop := ∀ c d a b e f, D c → D d → LR c → LR d → V c = some (.inr (.inr (a, b))) → V d = some (.inr (.inr (e, f))) → th c = th d → tn (th c) = false → tgE Wf a e
def sgOK (V : Nat → TV) (D : Nat → Prop) (th : Nat → Nat) (LR : Nat → Prop) (sg : Nat → Bool) : Prop := ∀ c d a b e f, D c → D d → LR c → LR d → V c = some (.inr (.inr (a, b))) → V d = some (.inr (.inr (e, f))) → th c = th d → sg (th c) = true → c = d
theorem tg_up {W Wf : Nat → TV} {D : Nat → Prop} {rk : Nat → Nat} (he : vExt W Wf) (hok : vOK Wf D rk) {c x : Nat} (hc : D c) (h : tg W c x) (hx : W x ≠ none) : tg Wf c x := by
  have hr := tg_res h
  obtain ⟨n, hn⟩ := h
  refine (tgN_ext he hok hc hn).2 x (tg_self (fun e q => ?_))
  rcases he x with g | ⟨g, _⟩
  · rw [g] at q; exact hr e q
  · exact hx g
section
variable {V Wf : Nat → TV} {D LR Lt : Nat → Prop} {th : Nat → Nat} {nm tn sg : Nat → Bool}
theorem uSt_w {W U : Nat → TV} {ps rs : List (Nat × Nat)} (hst : uSt D W ps U rs) (hty : tyOK V D th nm LR Lt) (hTn : tnOK V D th LR tn Wf) (hSg : sgOK V D th LR sg) (hWf : vExt U Wf) (hokf : ∃ rk, vOK Wf D rk) (hpr : ∀ c a b, W c = some (.inr (.inr (a, b))) ↔ V c = some (.inr (.inr (a, b)))) (hok : ∃ rk, vOK W D rk) (hs : vSol W D th) (hvt : vTy W D LR Lt) (hq : ∀ q ∈ ps, th q.1 = th q.2) {n : Nat} (hn : cW th nm tn sg Wf LR Lt ps n) :
    (∃ rk, vOK U D rk) ∧ vSol U D th ∧ vTy U D LR Lt ∧ (∀ c a b, U c = some (.inr (.inr (a, b))) ↔ V c = some (.inr (.inr (a, b)))) ∧ (∀ q ∈ rs, th q.1 = th q.2) ∧ ∃ m, m < n ∧ cW th nm tn sg Wf LR Lt rs m := by
  have hE := uSt_ext hst
  obtain ⟨rk, hok⟩ := hok
  obtain ⟨rkf, hokf⟩ := hokf
  obtain ⟨y1, y2, y3, y4, y5, y6⟩ := hty
  obtain ⟨x0, y0, x, y, qs, rfl, ⟨d1, d2, d3, d4⟩, ⟨w1, w2, r1, r2⟩, h⟩ := hst
  obtain ⟨k, m, rfl, hm, hk⟩ := hn
  have hqs : ∀ q ∈ qs, th q.1 = th q.2 := fun q h => hq q (List.mem_cons_of_mem _ h)
  have hxy : th x0 = th y0 := hq (x0, y0) List.mem_cons_self
  have hx : th x0 = th x := w1.1 th hs
  have hy : th y0 = th y := w2.1 th hs
  have t1 := tg_wlk hok d1 w1 r1
  have t2 := tg_wlk hok d2 w2 r2
  have g1 := tg_ty hok hvt d1 t1
  have g2 := tg_ty hok hvt d2 t2
  have lp := lm_pos (nm := nm) (tn := tn) (sg := sg) (th x0)
  have hkp : 0 < k := by
    rcases hk with ⟨_, _, q⟩ | ⟨_, _, q⟩
    · rcases q with q | q
      · simp only at q; omega
      · omega
    · rcases q with q | q
      · simp only at q; omega
      · omega
  rcases h with ⟨_, rfl, rfl⟩ | ⟨i, c, hic, hne, ho, hr, rfl, rfl⟩ | ⟨a, b, c, d, hne, e1, e2, rfl, rfl⟩
  · exact ⟨⟨rk, hok⟩, hs, hvt, hpr, hqs, m, by omega, hm⟩
  · have hxe : th x = th y := by omega
    have both : (LR x ∧ LR y) ∨ (Lt x ∧ Lt y) := by
      rcases hk with ⟨k1, k2, _⟩ | ⟨k1, k2, _⟩
      · exact Or.inl ⟨g1.1 k1, g2.1 k2⟩
      · exact Or.inr ⟨g1.2 k1, g2.2 k2⟩
    have di : D i := by rcases hic with ⟨rfl, rfl⟩ | ⟨rfl, rfl⟩ <;> assumption
    have dc : D c := by rcases hic with ⟨rfl, rfl⟩ | ⟨rfl, rfl⟩ <;> assumption
    have hth : th i = th c := by rcases hic with ⟨rfl, rfl⟩ | ⟨rfl, rfl⟩ <;> omega
    have both2 : (LR i ∧ LR c) ∨ (Lt i ∧ Lt c) := by
      rcases hic with ⟨rfl, rfl⟩ | ⟨rfl, rfl⟩
      · exact both
      · exact both.imp (fun q => ⟨q.2, q.1⟩) (fun q => ⟨q.2, q.1⟩)
    have hnp : ∀ a b, V i ≠ some (.inr (.inr (a, b))) := fun a b q => by
      rw [← hpr, ho] at q
      cases q
    have tyi : (LR i → LR c) ∧ (Lt i → Lt c) := by
      by_cases hl : th i ≤ 11
      · have := y5 c dc (by omega)
        exact ⟨fun _ => this.1, fun _ => this.2⟩
      · rcases both2 with q | q
        · exact ⟨fun _ => q.2, fun z => absurd (y3 i di hnp (by omega) q.1 z) id⟩
        · exact ⟨fun z => absurd (y3 i di hnp (by omega) z q.1) id, fun _ => q.2⟩
    refine ⟨?_, (vSol_bind ho di).mpr ⟨hs, hth⟩, fun z e dz he => ?_, fun z a b => ?_, hqs, m, by omega, hm⟩
    · exact vOK_bind ho hok dc hr
    · by_cases hz : z = i
      · subst hz
        rw [vB_same] at he
        cases he
        exact tyi
      · rw [vB_ne W i c hz] at he
        exact hvt z e dz he
    · by_cases hz : z = i
      · subst hz
        rw [vB_same]
        exact ⟨fun q => (by cases q), fun q => absurd q (hnp a b)⟩
      · rw [vB_ne W i c hz]
        exact hpr z a b
  · have ea := (hs x d3).2.2 a b e1
    have ec := (hs y d4).2.2 c d e2
    have hxe : th x = th y := by omega
    have hi := nd_inj (a := th a) (b := th b) (a2 := th c) (b2 := th d) (by rw [← ea, ← ec]; exact hxe)
    have va := (hpr x a b).mp e1
    have vc := (hpr y c d).mp e2
    have da := ((hok x d3).2.2 a b e1)
    have dc := ((hok y d4).2.2 c d e2)
    have nog : ¬ tgE Wf x0 y0 := by
      rintro ⟨z, z1, z2⟩
      have u1 := tg_up hWf hokf d1 t1 (by rw [e1]; exact fun q => by cases q)
      have u2 := tg_up hWf hokf d2 t2 (by rw [e2]; exact fun q => by cases q)
      exact hne ((tg_uniq u1 z1).trans (tg_uniq u2 z2).symm)
    have hq2 : ∀ q ∈ (a, c) :: (b, d) :: qs, th q.1 = th q.2 := fun q hq2 => by
      rcases List.mem_cons.mp hq2 with rfl | hq2
      · exact hi.1
      · rcases List.mem_cons.mp hq2 with rfl | hq2
        · exact hi.2
        · exact hqs q hq2
    refine ⟨⟨rk, hok⟩, hs, hvt, hpr, hq2, ?_⟩
    -- the left halves
    have left : ((nm (th a) = true → LR a) ∧ (nm (th a) = false → Lt a)) → ((nm (th c) = true → LR c) ∧ (nm (th c) = false → Lt c)) → ∀ k2, (k2 + 1 = 2 * muL nm tn sg (th a) ∨ (k2 = 1 ∧ tgE Wf a c)) → ((LR a ∧ LR c ∧ (k2 + 1 = 2 * lam nm tn sg (th a) ∨ (k2 = 1 ∧ tgE Wf a c))) ∨ (Lt a ∧ Lt c ∧ (k2 + 1 = 2 * muL nm tn sg (th a) ∨ (k2 = 1 ∧ tgE Wf a c)))) := by
      intro q1 q2 k2 hk2
      cases hnm : nm (th a) with
      | true =>
        refine Or.inl ⟨q1.1 hnm, q2.1 (by rw [← hi.1]; exact hnm), hk2.imp (fun z => ?_) id⟩
        obtain ⟨u, v, e⟩ := nd_ex (y6 _ hnm)
        rw [z, e, muL_nm (by rw [← e]; exact hnm)]
      | false => exact Or.inr ⟨q1.2 hnm, q2.2 (by rw [← hi.1]; exact hnm), hk2⟩
    have pa := lm_pos (nm := nm) (tn := tn) (sg := sg) (th a)
    have pb := lm_pos (nm := nm) (tn := tn) (sg := sg) (th b)
    rcases hk with ⟨k1, k2, k3⟩ | ⟨k1, k2, k3⟩
    · have l1 := g1.1 k1
      have l2 := g2.1 k2
      have k3 : k + 1 = 2 * lam nm tn sg (th x) := by
        rcases k3 with q | ⟨_, q⟩
        · rw [← hx]; exact q
        · exact absurd q nog
      have hsg : sg (th x) = false := by
        cases z : sg (th x) with
        | false => rfl
        | true => exact absurd (hSg x y a b c d d3 d4 l1 l2 va vc hxe z) hne
      have v1 := y1 x a b d3 va l1
      have v2 := y1 y c d d4 vc l2
      rw [ea] at k3 hsg
      rw [lam_nd hsg] at k3
      cases htn : tn (nd (th a) (th b)) with
      | true =>
        rw [htn, if_pos rfl] at k3
        refine ⟨(2 * muL nm tn sg (th a) - 1) + ((2 * lam nm tn sg (th b) - 1) + m), by omega, _, _, rfl, ⟨_, m, rfl, hm, Or.inl ⟨v1.1, v2.1, Or.inl ?_⟩⟩, left v1.2 v2.2 _ (Or.inl ?_)⟩
        · simp only; omega
        · omega
      | false =>
        rw [htn, if_neg (by decide)] at k3
        refine ⟨1 + ((2 * lam nm tn sg (th b) - 1) + m), by omega, _, _, rfl, ⟨_, m, rfl, hm, Or.inl ⟨v1.1, v2.1, Or.inl ?_⟩⟩, left v1.2 v2.2 _ (Or.inr ⟨rfl, hTn x y a b c d d3 d4 l1 l2 va vc hxe (by rw [ea]; exact htn)⟩)⟩
        simp only; omega
    · have l1 := g1.2 k1
      have l2 := g2.2 k2
      have k3 : k + 1 = 2 * muL nm tn sg (th x) := by
        rcases k3 with q | ⟨_, q⟩
        · rw [← hx]; exact q
        · exact absurd q nog
      have hun := y4 x d3 l1
      have v1 := y2 x a b d3 va l1
      have v2 := y2 y c d d4 vc l2
      rw [ea] at k3 hun
      rw [muL_un hun] at k3
      refine ⟨(2 * muL nm tn sg (th a) - 1) + ((2 * muL nm tn sg (th b) - 1) + m), by omega, _, _, rfl, ⟨_, m, rfl, hm, ?_⟩, left v1.1 v2.1 _ (Or.inl (by omega))⟩
      cases hnm : nm (th b) with
      | true =>
        refine Or.inl ⟨v1.2.1 hnm, v2.2.1 (by rw [← hi.2]; exact hnm), Or.inl ?_⟩
        obtain ⟨u, v, e⟩ := nd_ex (y6 _ hnm)
        simp only
        have : muL nm tn sg (th b) = lam nm tn sg (th b) := by rw [e, muL_nm (by rw [← e]; exact hnm)]
        omega
      | false =>
        refine Or.inr ⟨v1.2.2 hnm, v2.2.2 (by rw [← hi.2]; exact hnm), Or.inl ?_⟩
        simp only; omega
theorem uRun_w {U : Nat → TV} {qs : List (Nat × Nat)} (hty : tyOK V D th nm LR Lt) (hTn : tnOK V D th LR tn Wf) (hSg : sgOK V D th LR sg) (hokf : ∃ rk, vOK Wf D rk) (hpr : ∀ c a b, U c = some (.inr (.inr (a, b))) ↔ V c = some (.inr (.inr (a, b)))) (hok : ∃ rk, vOK U D rk) (hs : vSol U D th) (hvt : vTy U D LR Lt) (hq : ∀ q ∈ qs, th q.1 = th q.2) {N : Nat} (hN : cW th nm tn sg Wf LR Lt qs N) : ∀ {n : Nat} {W : Nat → TV} {rs : List (Nat × Nat)}, uRun D U qs n W rs → vExt W Wf → (∃ rk, vOK W D rk) ∧ vSol W D th ∧ vTy W D LR Lt ∧ (∀ c a b, W c = some (.inr (.inr (a, b))) ↔ V c = some (.inr (.inr (a, b)))) ∧ (∀ q ∈ rs, th q.1 = th q.2) ∧ ∃ m, n + m ≤ N ∧ cW th nm tn sg Wf LR Lt rs m
  | 0, W, rs, h, _ => by
    obtain ⟨rfl, rfl⟩ := h
    exact ⟨hok, hs, hvt, hpr, hq, N, by omega, hN⟩
  | n + 1, W, rs, h, he => by
    obtain ⟨W1, rs1, h1, h2⟩ := h
    obtain ⟨g1, g2, g3, g4, g5, m, g6, g7⟩ := uRun_w hty hTn hSg hokf hpr hok hs hvt hq hN h1 (vExt_trans (uSt_ext h2) he)
    obtain ⟨k1, k2, k3, k4, k5, m2, k6, k7⟩ := uSt_w h2 hty hTn hSg he hokf g4 g1 g2 g3 g5 g7
    exact ⟨k1, k2, k3, k4, k5, m2, by omega, k7⟩
/-- so many turns as twice the leaves, at most -/
theorem uRun_lam {U : Nat → TV} {a b : Nat} (hty : tyOK V D th nm LR Lt) (hTn : tnOK V D th LR tn Wf) (hSg : sgOK V D th LR sg) (hokf : ∃ rk, vOK Wf D rk) (hpr : ∀ c a b, U c = some (.inr (.inr (a, b))) ↔ V c = some (.inr (.inr (a, b)))) (hok : ∃ rk, vOK U D rk) (hs : vSol U D th) (hvt : vTy U D LR Lt) (hab : th a = th b) (la : LR a) (lb : LR b) {n : Nat} {W : Nat → TV} {rs : List (Nat × Nat)} (hr : uRun D U [(a, b)] n W rs) (he : vExt W Wf) : n + 1 ≤ 2 * lam nm tn sg (th a) := by
  have hp := (lm_pos (nm := nm) (tn := tn) (sg := sg) (th a)).1
  obtain ⟨k, hk⟩ : ∃ k, k + 1 = 2 * lam nm tn sg (th a) := ⟨2 * lam nm tn sg (th a) - 1, by omega⟩
  obtain ⟨_, _, _, _, _, m, g, _⟩ := uRun_w hty hTn hSg hokf hpr hok hs hvt (qs := [(a, b)]) (fun q hq => by
    rcases List.mem_cons.mp hq with rfl | hq
    · exact hab
    · cases hq) (N := k + 0) ⟨k, 0, rfl, rfl, Or.inl ⟨la, lb, Or.inl hk⟩⟩ hr he
  omega
end
