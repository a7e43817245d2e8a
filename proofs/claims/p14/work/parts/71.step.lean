/-! SAFETY OF THE CLASS: a step, a run -/
section
variable {b : Nat}
theorem s_42b (hb : isSeaA rSkel b) {k : Nat} (hk : isSt k) (hk2 : b + 125 < k) (hk3 : k + 2 ≤ b + 223) {s0 : rSg} {P : Option rv → rSg → Prop} (hP : ∀ t, SI b (32 * 129) s0 t → P none t) : ∀ (m y : Nat) (s : rSg), y + m = 32 → SI b (y * 129) s0 s → g_42_2 b k (nI y) s P := by
  have b5 : 5 < b := hb.1.1
  have hsc : isScr (b + 1) := hb.1.2.2.2.2.2.1
  have harr : isArr (k + 1) 64 := ⟨by have := hk.1; omega, hk.2.2.1⟩
  intro m
  induction m with
  | zero =>
    intro y s hy hs
    obtain rfl : y = 32 := by omega
    refine w_42_2 s b hb.1 k hk (nI 32) ⟨fun _ => (s_34 hb hk hk2 hs.2.2).imp ?_, fun q => absurd (by decide) q⟩
    rintro _ t ⟨rfl, ht⟩
    exact ⟨rfl, hP t (hs.trans ht)⟩
  | succ m ih =>
    intro y s hy hs
    have enq : EvS rSkel 2 34 [.inr (.inr (some b)), .inr (.inr (some k))] s (fun v t => v = none ∧ P none t) := by
      refine (s_34 hb hk hk2 hs.2.2).imp ?_
      rintro _ t ⟨rfl, ht⟩
      exact ⟨rfl, hP t ((hs.trans ht).mono (by omega))⟩
    refine w_42_2 s b hb.1 k hk (nI y) ⟨fun _ => enq, fun _ => ⟨fun _ => enq, fun _ => ⟨fun _ => ?_, fun _ => ?_⟩⟩⟩
    · refine (s_28 hsc s _ _).imp ?_
      rintro _ _ ⟨n1, rfl, rfl⟩
      refine ⟨_, rfl, (s_28 hsc _ _ _).imp ?_⟩
      rintro _ s ⟨n2, rfl, rfl⟩
      refine ⟨_, rfl, (s_65 hsc harr (by decide) s _ _).imp ?_⟩
      rintro _ t ⟨n3, rfl, _, tb, tl⟩
      have ht := hs.un b5 ⟨by omega, by omega⟩ tb tl
      rw [nI_1]
      have und : ∀ (Q : rSg → Prop), (∀ u, SI b ((y + 1) * 129) s0 u → Q u) → EvS rSkel 1 69 [.inr (.inr (some 1)), .inr (.inr (some (k + 1)))] t (fun v u => v = none ∧ Q u) := fun Q hQ => by
        refine (s_69 harr (by decide) t).imp ?_
        rintro _ u ⟨rfl, ub, ul⟩
        exact ⟨rfl, hQ u ((ht.un b5 ⟨by omega, by omega⟩ ub ul).mono (by omega))⟩
      have nxt : ∀ u, SI b ((y + 1) * 129) s0 u → (¬ n3 = 0 → g_42_2 b k (nI (y + 1)) u P) ∧ (¬ (¬ n3 = 0) → g_42_2 b k (nI (y + 1)) (up2 u k 4 ((u k 4) &&& ((1 <<< (nI y &&& 31)) ^^^ ((-1))))) P) := fun u hu => ⟨fun _ => ih (y + 1) u (by omega) hu, fun _ => ih (y + 1) _ (by omega) (hu.st b5 (k := k) ⟨by omega, hk3⟩ (bt.rfl'.up (by omega)))⟩
      refine ⟨_, rfl, fun _ => und _ nxt, fun _ => ⟨fun _ => und _ nxt, fun _ => und _ (fun u hu => hP u (hu.mono (by omega)))⟩⟩
    · rw [nI_1]
      exact ih (y + 1) s (by omega) (hs.mono (by omega))
theorem s_42 (hb : isSeaA rSkel b) {k : Nat} (hk : isSt k) (hk2 : b + 125 < k) (hk3 : k + 2 ≤ b + 223) {s : rSg} (hI : seaI s b) : EvS rSkel 5 42 [.inr (.inr (some b)), .inr (.inr (some k))] s (fun v t => v = none ∧ SI b (32 * 129) s t) :=
  w_42 s b hb.1 k hk (s_42b hb hk hk2 hk3 (fun t ht => ⟨rfl, ht⟩) 32 0 s rfl ((SI.rfl' hI).mono (by omega)))
theorem s_43 (hb : isSeaA rSkel b) {s : rSg} (hI : seaI s b) (x y z : Int32) : EvS rSkel 5 43 [.inr (.inr (some b)), .inl x, .inl y, .inl z] s (fun v t => ∃ n, v = some (.inl n) ∧ SI b 258 s t) := by
  have b5 : 5 < b := hb.1.1
  have hsc : isScr (b + 1) := hb.1.2.2.2.2.2.1
  have harr : isArr (b + 222) 64 := ⟨by omega, hb.1.2.2.2.2.2.2.2.2.2.1⟩
  refine w_43 s b hb.1 x y z ((s_65 hsc harr (by decide) s _ _).imp ?_)
  rintro _ t ⟨n1, rfl, _, tb, tl⟩
  have ht := (SI.rfl' hI).un b5 ⟨by omega, by omega⟩ tb tl
  refine ⟨_, rfl, fun _ => ⟨_, rfl, ht.mono (by omega)⟩, fun _ => (s_65 hsc harr (by decide) t _ _).imp ?_⟩
  rintro _ u ⟨n2, rfl, _, ub, ul⟩
  have hu := (ht.un b5 ⟨by omega, by omega⟩ ub ul).mono (E := 258) (by omega)
  exact ⟨_, rfl, fun _ => ⟨_, rfl, hu⟩, fun _ => ⟨_, rfl, hu⟩⟩
theorem s_45 (hb : isSeaA rSkel b) {s : rSg} (hI : seaI s b) (x y z w : Int32) : EvS rSkel 2 45 [.inr (.inr (some b)), .inl x, .inl y, .inl z, .inl w] s (fun v t => ∃ n, v = some (.inl n) ∧ SI b 0 s t) := by
  have b5 : 5 < b := hb.1.1
  have hsc : isScr (b + 1) := hb.1.2.2.2.2.2.1
  refine w_45 s b hb.1 x y z w ((s_21 hsc s _).imp ?_)
  rintro _ t1 ⟨n1, rfl, h1⟩
  refine ⟨_, rfl, (s_22 hsc t1 _ _ _).imp ?_⟩
  rintro _ t2 ⟨rfl, h2⟩
  refine ⟨rfl, (s_22 hsc t2 _ _ _).imp ?_⟩
  rintro _ t3 ⟨rfl, h3⟩
  refine ⟨rfl, (s_22 hsc t3 _ _ _).imp ?_⟩
  rintro _ t4 ⟨rfl, h4⟩
  exact ⟨rfl, _, rfl, (SI.rfl' hI).sc b5 (((h1.trans h2).trans h3).trans h4)⟩
theorem s_44 (hb : isSeaA rSkel b) {s : rSg} (hI : seaI s b) (x y z : Int32) : EvS rSkel 5 44 [.inr (.inr (some b)), .inl x, .inl y, .inl z] s (fun v t => ∃ n, v = some (.inl n) ∧ SI b 258 s t) := by
  have b5 : 5 < b := hb.1.1
  have hsc : isScr (b + 1) := hb.1.2.2.2.2.2.1
  have hst : isSt (b + 218) := hb.1.2.2.2.2.2.2.1
  have harr : isArr (b + 219) 64 := ⟨by omega, hst.2.2.1⟩
  refine w_44 s b hb.1 x y z ((s_56 hst s).imp ?_)
  rintro _ t1 ⟨n1, rfl, h1⟩
  refine ⟨_, rfl, (s_56 hst t1).imp ?_⟩
  rintro _ t2 ⟨n2, rfl, h2⟩
  refine ⟨_, rfl, (s_56 hst t2).imp ?_⟩
  rintro _ t3 ⟨n3, rfl, h3⟩
  have g3 := (SI.rfl' hI).st b5 ⟨by omega, by omega⟩ ((h1.trans h2).trans h3)
  refine ⟨_, rfl, ((s_45 hb g3.2.2 _ _ _ _).up (by decide)).imp ?_⟩
  rintro _ t4 ⟨n4, rfl, h4⟩
  refine ⟨_, rfl, (s_52 hst t4 _).imp ?_⟩
  rintro _ t5 ⟨rfl, h5⟩
  have g5 := (g3.trans h4).st b5 ⟨by omega, by omega⟩ h5
  refine ⟨rfl, (s_23 hsc t5 _ _).imp ?_⟩
  rintro _ t6 ⟨n6, rfl, h6⟩
  have g6 := g5.sc b5 h6
  refine ⟨_, rfl, (s_65 hsc harr (by decide) t6 _ _).imp ?_⟩
  rintro _ t7 ⟨n7, rfl, _, h7, l7⟩
  have g7 := g6.un b5 ⟨by omega, by omega⟩ h7 l7
  refine ⟨_, rfl, fun _ => ⟨_, rfl, g7.mono (by omega)⟩, fun _ => (s_23 hsc t7 _ _).imp ?_⟩
  rintro _ t8 ⟨n8, rfl, h8⟩
  have g8 := g7.sc b5 h8
  refine ⟨_, rfl, (s_65 hsc harr (by decide) t8 _ _).imp ?_⟩
  rintro _ t9 ⟨n9, rfl, _, h9, l9⟩
  have g9 := (g8.un b5 ⟨by omega, by omega⟩ h9 l9).mono (E := 258) (by omega)
  exact ⟨_, rfl, fun _ => ⟨_, rfl, g9⟩, fun _ => ⟨_, rfl, g9⟩⟩
theorem s_46 (hb : isSeaA rSkel b) {s : rSg} (hI : seaI s b) (x y : Int32) : EvS rSkel 5 46 [.inr (.inr (some b)), .inl x, .inl y] s (fun v t => ∃ n, v = some (.inl n) ∧ SI b 258 s t) := by
  have b5 : 5 < b := hb.1.1
  have hsc : isScr (b + 1) := hb.1.2.2.2.2.2.1
  have hst : isSt (b + 221) := hb.1.2.2.2.2.2.2.2
  have harr : isArr (b + 222) 64 := ⟨by omega, hst.2.2.1⟩
  refine w_46 s b hb.1 x y ((s_56 hst s).imp ?_)
  rintro _ t1 ⟨n1, rfl, h1⟩
  have g1 := (SI.rfl' hI).st b5 ⟨by omega, by omega⟩ h1
  refine ⟨_, rfl, (s_23 hsc t1 _ _).imp ?_⟩
  rintro _ t2 ⟨n2, rfl, h2⟩
  have g2 := g1.sc b5 h2
  refine ⟨_, rfl, (s_65 hsc harr (by decide) t2 _ _).imp ?_⟩
  rintro _ t3 ⟨n3, rfl, hn, h3, l3⟩
  have g3 := (g2.un b5 ⟨by omega, by omega⟩ h3 l3).mono (E := 258) (by omega)
  refine ⟨_, rfl, ?_, _, rfl, g3⟩
  rcases hn with rfl | rfl <;> decide
theorem s_47 (hb : isSeaA rSkel b) {s : rSg} (hI : seaI s b) (x y : Int32) : EvS rSkel 5 47 [.inr (.inr (some b)), .inl x, .inl y] s (fun v t => ∃ n, v = some (.inl n) ∧ SI b 258 s t) := by
  have b5 : 5 < b := hb.1.1
  have hsc : isScr (b + 1) := hb.1.2.2.2.2.2.1
  have hst : isSt (b + 218) := hb.1.2.2.2.2.2.2.1
  have harr : isArr (b + 219) 64 := ⟨by omega, hst.2.2.1⟩
  refine w_47 s b hb.1 x y ((s_56 hst s).imp ?_)
  rintro _ t1 ⟨n1, rfl, h1⟩
  refine ⟨_, rfl, (s_56 hst t1).imp ?_⟩
  rintro _ t2 ⟨n2, rfl, h2⟩
  have g2 := (SI.rfl' hI).st b5 ⟨by omega, by omega⟩ (h1.trans h2)
  refine ⟨_, rfl, ((s_45 hb g2.2.2 _ _ _ _).up (by decide)).imp ?_⟩
  rintro _ t4 ⟨n4, rfl, h4⟩
  refine ⟨_, rfl, (s_52 hst t4 _).imp ?_⟩
  rintro _ t5 ⟨rfl, h5⟩
  have g5 := (g2.trans h4).st b5 ⟨by omega, by omega⟩ h5
  refine ⟨rfl, (s_23 hsc t5 _ _).imp ?_⟩
  rintro _ t6 ⟨n6, rfl, h6⟩
  have g6 := g5.sc b5 h6
  refine ⟨_, rfl, (s_65 hsc harr (by decide) t6 _ _).imp ?_⟩
  rintro _ t7 ⟨n7, rfl, hn, h7, l7⟩
  have g7 := (g6.un b5 ⟨by omega, by omega⟩ h7 l7).mono (E := 258) (by omega)
  refine ⟨_, rfl, ?_, _, rfl, g7⟩
  rcases hn with rfl | rfl <;> decide
/-- looks of a step at most: four unifies, and two times the kept ones -/
abbrev stL : Nat := 8772
theorem s_41 (hb : isSeaA rSkel b) {s : rSg} (hI : seaI s b) (x : Int32) : EvS rSkel 6 41 [.inr (.inr (some b)), .inl x] s (fun v t => v = none ∧ SI b stL s t) := by
  have b5 : 5 < b := hb.1.1
  have hsc : isScr (b + 1) := hb.1.2.2.2.2.2.1
  have hst : isSt (b + 218) := hb.1.2.2.2.2.2.2.1
  have hbr : isSt (b + 221) := hb.1.2.2.2.2.2.2.2
  have harr : isArr (b + 219) 64 := ⟨by omega, hst.2.2.1⟩
  have settle : ∀ {k : Nat}, (k = b + 218 ∨ k = b + 221) → ∀ {D : Nat} {t : rSg} (Q : rSg → Prop), SI b D s t → (∀ u, SI b (D + 32 * 129) s u → Q u) → EvS rSkel 5 42 [.inr (.inr (some b)), .inr (.inr (some k))] t (fun v u => v = none ∧ Q u) := by
    intro k hk D t Q ht hQ
    have hks : isSt k := by rcases hk with rfl | rfl <;> assumption
    refine (s_42 hb hks (by omega) (by omega) ht.2.2).imp ?_
    rintro _ u ⟨rfl, hu⟩
    exact ⟨rfl, hQ u (ht.trans hu)⟩
  have enq : ∀ {k : Nat}, (k = b + 218 ∨ k = b + 221) → ∀ {D : Nat} {t : rSg} (Q : rSg → Prop), SI b D s t → (∀ u, SI b D s u → Q u) → EvS rSkel 2 34 [.inr (.inr (some b)), .inr (.inr (some k))] t (fun v u => v = none ∧ Q u) := by
    intro k hk D t Q ht hQ
    have hks : isSt k := by rcases hk with rfl | rfl <;> assumption
    refine (s_34 hb hks (by omega) ht.2.2).imp ?_
    rintro _ u ⟨rfl, hu⟩
    exact ⟨rfl, hQ u (ht.trans hu)⟩
  refine w_41 s b hb.1 x ((s_28 hsc s _ _).imp ?_)
  rintro _ _ ⟨a, rfl, rfl⟩
  refine ⟨_, rfl, (s_28 hsc _ _ _).imp ?_⟩
  rintro _ _ ⟨c, rfl, rfl⟩
  refine ⟨_, rfl, (s_29 hsc _ _).imp ?_⟩
  rintro _ s ⟨kd, rfl, rfl⟩
  have h0 := SI.rfl' hI
  have fin : ∀ u, SI b (0 + 32 * 129) s u → (none : Option rv) = none ∧ SI b stL s u := fun u hu => ⟨rfl, hu.mono (by unfold stL; omega)⟩
  refine ⟨_, rfl, fun _ => ?_, fun _ => ?_, fun _ => ?_, fun _ => ?_, fun _ => ?_, fun _ => ?_, fun _ => ?_, fun _ => ⟨rfl, h0.mono (by unfold stL; omega)⟩⟩
  · refine (s_55 hst s _).imp ?_
    rintro _ t ⟨rfl, ht⟩
    exact ⟨rfl, settle (Or.inl rfl) _ (h0.st b5 ⟨by omega, by omega⟩ ht) fin⟩
  · refine (s_52 hst s _).imp ?_
    rintro _ t ⟨rfl, ht⟩
    refine ⟨rfl, (s_52 hst t _).imp ?_⟩
    rintro _ u ⟨rfl, hu⟩
    exact ⟨rfl, enq (Or.inl rfl) _ (h0.st b5 ⟨by omega, by omega⟩ (ht.trans hu)) (fun w hw => ⟨rfl, hw.mono (by unfold stL; omega)⟩)⟩
  · exact enq (Or.inl rfl) _ h0 (fun w hw => ⟨rfl, hw.mono (by unfold stL; omega)⟩)
  · refine (s_65 hsc harr (by decide) s _ _).imp ?_
    rintro _ t ⟨n, rfl, _, tb, tl⟩
    have ht := h0.un b5 ⟨by omega, by omega⟩ tb tl
    exact ⟨_, rfl, fun _ => ⟨rfl, ht.mono (by unfold stL; omega)⟩, fun _ => settle (Or.inl rfl) _ ht (fun u hu => ⟨rfl, hu.mono (by unfold stL; omega)⟩)⟩
  · refine (s_53 hbr hst (by omega) s).imp ?_
    rintro _ t1 ⟨rfl, h1⟩
    have g1 := h0.st b5 ⟨by omega, by omega⟩ h1
    refine ⟨rfl, (s_28 hsc t1 _ _).imp ?_⟩
    rintro _ t1 ⟨n1, rfl, rfl⟩
    refine ⟨_, rfl, (s_43 hb g1.2.2 _ _ _).imp ?_⟩
    rintro _ t2 ⟨n2, rfl, h2⟩
    have g2 := g1.trans h2
    have rest : ∀ {D : Nat} {t : rSg}, D ≤ 4386 → SI b D s t → EvS rSkel 1 28 [.inr (.inr (some (b + 1))), .inl x, .inl 2] t (fun v52 t53 => ∃ n55, v52 = some (.inl n55) ∧ EvS rSkel 5 44 [.inr (.inr (some b)), .inl a, .inl c, .inl n55] t53 (fun v56 t57 => ∃ n59, v56 = some (.inl n59) ∧ (n59 = 0 → (none : Option rv) = none ∧ SI b stL s t57) ∧ (¬ (n59 = 0) → EvS rSkel 5 42 [.inr (.inr (some b)), .inr (.inr (some (b + 218)))] t57 (fun v61 t62 => v61 = none ∧ (none : Option rv) = none ∧ SI b stL s t62)))) := by
      intro D t hD ht
      refine (s_28 hsc t _ _).imp ?_
      rintro _ t ⟨n3, rfl, rfl⟩
      refine ⟨_, rfl, (s_44 hb ht.2.2 _ _ _).imp ?_⟩
      rintro _ u ⟨n4, rfl, hu⟩
      have hu := ht.trans hu
      exact ⟨_, rfl, fun _ => ⟨rfl, hu.mono (by unfold stL; omega)⟩, fun _ => settle (Or.inl rfl) _ hu (fun w hw => ⟨rfl, hw.mono (by unfold stL; omega)⟩)⟩
    exact ⟨_, rfl, fun _ => rest (by omega) g2, fun _ => settle (Or.inr rfl) _ g2 (fun u hu => rest (by omega) hu)⟩
  · refine (s_53 hbr hst (by omega) s).imp ?_
    rintro _ t1 ⟨rfl, h1⟩
    have g1 := h0.st b5 ⟨by omega, by omega⟩ h1
    refine ⟨rfl, (s_46 hb g1.2.2 _ _).imp ?_⟩
    rintro _ t2 ⟨n2, rfl, h2⟩
    have g2 := g1.trans h2
    have rest : ∀ {D : Nat} {t : rSg}, D ≤ 4386 → SI b D s t → EvS rSkel 5 47 [.inr (.inr (some b)), .inl a, .inl c] t (fun v56 t57 => ∃ n59, v56 = some (.inl n59) ∧ (n59 = 0 → (none : Option rv) = none ∧ SI b stL s t57) ∧ (¬ (n59 = 0) → EvS rSkel 5 42 [.inr (.inr (some b)), .inr (.inr (some (b + 218)))] t57 (fun v61 t62 => v61 = none ∧ (none : Option rv) = none ∧ SI b stL s t62))) := by
      intro D t hD ht
      refine (s_47 hb ht.2.2 _ _).imp ?_
      rintro _ u ⟨n4, rfl, hu⟩
      have hu := ht.trans hu
      exact ⟨_, rfl, fun _ => ⟨rfl, hu.mono (by unfold stL; omega)⟩, fun _ => settle (Or.inl rfl) _ hu (fun w hw => ⟨rfl, hw.mono (by unfold stL; omega)⟩)⟩
    exact ⟨_, rfl, fun _ => rest (by omega) g2, fun _ => settle (Or.inr rfl) _ g2 (fun u hu => rest (by omega) hu)⟩
  · refine (s_53 hbr hst (by omega) s).imp ?_
    rintro _ t1 ⟨rfl, h1⟩
    have g1 := h0.st b5 ⟨by omega, by omega⟩ h1
    refine ⟨rfl, (s_52 hbr t1 _).imp ?_⟩
    rintro _ t2 ⟨rfl, h2⟩
    have g2 := g1.st b5 ⟨by omega, by omega⟩ h2
    refine ⟨rfl, enq (Or.inr rfl) _ g2 (fun t3 g3 => (s_52 hst t3 _).imp ?_)⟩
    rintro _ t4 ⟨rfl, h4⟩
    exact ⟨rfl, enq (Or.inl rfl) _ (g3.st b5 ⟨by omega, by omega⟩ h4) (fun w hw => ⟨rfl, hw.mono (by unfold stL; omega)⟩)⟩
end
