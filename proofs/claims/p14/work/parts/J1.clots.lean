/-! LOTS: the class, exactly, in every state -/
def pL (c : Nat) : Nat := if c < 256 then 1 else 3
def cL (s : rSg) (np : Nat) (E : List (At × At)) : Prop := cCo s 231 449 np np pL 6 [] [] (fun _ => False) (fun r => sat E r)
theorem hc_T {h : Nat} (h9 : h < 9) (np : Nat) : cTd np (hc h) := by
  unfold hc cTd
  split <;> omega
theorem hc_256 {h : Nat} (h9 : h < 9) : hc h < 256 := by
  unfold hc
  split <;> omega
theorem cL_D {np c : Nat} (h : cDm 6 np [] [] c) : c < 6 ∨ (128 ≤ c ∧ c < 139) ∨ (256 ≤ c ∧ c < 256 + np) := by
  rcases h with q | q | q | q | q
  · exact Or.inl q
  · exact Or.inr (Or.inl q)
  · exact Or.inr (Or.inr q)
  · cases q
  · cases q
theorem cL_ext {s t : rSg} {np : Nat} {E : List (At × At)} (hn : np < 600) (h1 : ∀ j, j < 2 * np → t 234 j = s 234 j) (h2 : t 449 = s 449) (h : cL s np E) : cL t np E :=
  cCo_same (Nat.le_refl _) (Nat.le_refl _) (by omega) h ⟨fun i _ => by rw [h2], fun c hc => by
    have : 256 ≤ c ∧ c < 256 + np := by
      rcases hc with q | q | q
      · exact q
      · cases q
      · cases q
    exact ⟨h1 _ (by omega), h1 _ (by omega)⟩⟩
/-- a pair more -/
theorem cL_pair {s t : rSg} {np p q : Nat} {E : List (At × At)} (hn : np < 600) (h1 : ∀ j, j < 2 * np → t 234 j = s 234 j) (h2 : t 449 = s 449) (hp : p < 9) (hq : q < 9) (h3 : t 234 (2 * np) = nI (hc p)) (h4 : t 234 (2 * np + 1) = nI (hc q)) (h : cL s np E) : cL t (np + 1) E ∧ cV t 231 449 64 (256 + np) = some (.inr (.inr (hc p, hc q))) := by
  obtain ⟨hw, hf, hk, hj⟩ := cL_ext hn h1 h2 h
  obtain ⟨f1, _, _, _, f5, f6, ⟨rk, hok⟩, _⟩ := id hf
  have hcp := hc_256 hp
  have hcq := hc_256 hq
  have e9 : cV t 231 449 64 (256 + np) = some (.inr (.inr (hc p, hc q))) := by
    unfold cV
    rw [if_neg (by omega), if_neg (by omega), if_pos (by omega), show 2 * (256 + np - 256) = 2 * np by omega, h3, h4, nI_clamp (by omega), nI_clamp (by omega)]
  have Tp := hc_T hp np
  have Tq := hc_T hq np
  have Dp : cDm 6 np [] [] (hc p) := cTd_D (by decide) Tp
  have Dq : cDm 6 np [] [] (hc q) := cTd_D (by decide) Tq
  have tdm' : ∀ c, cTd np c → cTd (np + 1) c := fun c hc => by unfold cTd at *; omega
  have mono : ∀ c, cDm 6 np [] [] c → cDm 6 (np + 1) [] [] c := fun c hc => by
    rcases cL_D hc with z | z | z
    · exact Or.inl z
    · exact Or.inr (Or.inl z)
    · exact Or.inr (Or.inr (Or.inl (by omega)))
  have ne : ∀ c, cDm 6 np [] [] c → c ≠ 256 + np := fun c hc => by have := cL_D hc; omega
  have split1 : ∀ c, cDm 6 (np + 1) [] [] c → c = 256 + np ∨ (cDm 6 np [] [] c ∧ c ≠ 256 + np) := fun c hc => by
    by_cases e : c = 256 + np
    · exact Or.inl e
    · refine Or.inr ⟨?_, e⟩
      rcases cL_D hc with z | z | z
      · exact Or.inl z
      · exact Or.inr (Or.inl z)
      · exact Or.inr (Or.inr (Or.inl (by omega)))
  have key : cWG t 231 449 64 (np + 1) (cDm 6 (np + 1) [] []) ∧ cFr (cV t 231 449 64) (np + 1) (np + 1) pL 6 [] [] (fun _ => False) ∧ vK (cV t 231 449 64) (cDm 6 (np + 1) [] []) (fun r => sat E r) := by
    refine ⟨⟨Or.inl rfl, by omega, fun c hD => ?_, fun c hD h1 h2 => ?_, fun c hD h1 => ?_, fun i hi h1 => ?_⟩, ⟨f1, fun c hc => (by cases hc), fun c hc => (by cases hc), fun h q => q.elim, fun c h1 h2 => ?_, fun c hc => ?_, ⟨fun c => if c = 256 + np then rk (hc p) + rk (hc q) + 1 else rk c, fun c hc9 => ?_⟩, fun h _ q => q.elim⟩, fun r => ⟨fun hr => ?_, fun hr => ?_⟩⟩
    · rcases cL_D hD with z | z | z
      · exact Or.inl (Or.inl (by omega))
      · exact Or.inl (Or.inr (Or.inl z))
      · exact Or.inl (Or.inr (Or.inr z))
    · rcases split1 c hD with rfl | ⟨hc8, hne⟩
      · exact ⟨hc p, hc q, by rw [show 2 * (256 + np - 256) = 2 * np by omega]; exact h3, by rw [show 2 * (256 + np - 256) + 1 = 2 * np + 1 by omega]; exact h4, mono _ Dp, mono _ Dq⟩
      · obtain ⟨a, b, g1, g2, g3, g4⟩ := hw.2.2.2.1 c hc8 h1 h2
        exact ⟨a, b, g1, g2, mono _ g3, mono _ g4⟩
    · have := cL_D hD; omega
    · have hc8 : cDm 6 np [] [] i := Or.inl (by have := cL_D hi; omega)
      rcases hw.2.2.2.2.2 i hc8 h1 with a | ⟨c, a, b⟩
      · exact Or.inl a
      · exact Or.inr ⟨c, a, mono c b⟩
    · by_cases e : c = 256 + np
      · subst e
        refine ⟨hc p, hc q, e9, tdm' _ Tp, tdm' _ Tq, ?_⟩
        unfold pL
        rw [if_pos hcp, if_pos hcq, if_neg (by omega)]
        decide
      · obtain ⟨a, b, g1, g2, g3, g4⟩ := f5 c h1 (by omega)
        exact ⟨a, b, g1, tdm' _ g2, tdm' _ g3, g4⟩
    · unfold pL
      split <;> decide
    · rcases split1 c hc9 with rfl | ⟨hc8, hne⟩
      · rw [e9]
        refine ⟨fun e he => (by cases he), fun n hn => (by cases hn), fun a b hab => ?_⟩
        have hab := Prod.mk.inj (Sum.inr.inj (Sum.inr.inj (Option.some.inj hab)))
        obtain ⟨rfl, rfl⟩ := hab
        refine ⟨⟨mono _ Dp, ?_⟩, ⟨mono _ Dq, ?_⟩⟩
        · show (if _ then _ else _) < (if _ then _ else _)
          rw [if_neg (ne _ Dp), if_pos rfl]
          omega
        · show (if _ then _ else _) < (if _ then _ else _)
          rw [if_neg (ne _ Dq), if_pos rfl]
          omega
      · have h0 := hok c hc8
        have up : ∀ d, cDm 6 np [] [] d → rk d < rk c → cDm 6 (np + 1) [] [] d ∧ (if d = 256 + np then rk (hc p) + rk (hc q) + 1 else rk d) < (if c = 256 + np then rk (hc p) + rk (hc q) + 1 else rk c) := fun d hd hlt => ⟨mono d hd, by rw [if_neg (ne d hd), if_neg hne]; exact hlt⟩
        exact ⟨fun e he => up e (h0.1 e he).1 (h0.1 e he).2, h0.2.1, fun a b hab => ⟨up a (h0.2.2 a b hab).1.1 (h0.2.2 a b hab).1.2, up b (h0.2.2 a b hab).2.1 (h0.2.2 a b hab).2.2⟩⟩
    · obtain ⟨th, a, b⟩ := (hk r).mp hr
      refine ⟨fun c => if c = 256 + np then nd (th (hc p)) (th (hc q)) else th c, fun c hc9 => ?_, fun v hv => by show (if _ then _ else _) = _; rw [if_neg (by omega)]; exact b v hv⟩
      rcases split1 c hc9 with rfl | ⟨hc8, hne⟩
      · rw [e9]
        refine ⟨fun e he => (by cases he), fun n hn => (by cases hn), fun x y hab => ?_⟩
        have hab := Prod.mk.inj (Sum.inr.inj (Sum.inr.inj (Option.some.inj hab)))
        obtain ⟨rfl, rfl⟩ := hab
        show (if _ then _ else _) = nd (if _ then _ else _) (if _ then _ else _)
        rw [if_pos rfl, if_neg (ne _ Dp), if_neg (ne _ Dq)]
      · have h0 := hok c hc8
        have h8 := a c hc8
        refine ⟨fun e he => ?_, fun n hn => ?_, fun x y hab => ?_⟩
        · show (if _ then _ else _) = (if _ then _ else _)
          rw [if_neg hne, if_neg (ne e (h0.1 e he).1)]; exact h8.1 e he
        · show (if _ then _ else _) = n
          rw [if_neg hne]; exact h8.2.1 n hn
        · show (if _ then _ else _) = nd (if _ then _ else _) (if _ then _ else _)
          rw [if_neg hne, if_neg (ne x (h0.2.2 x y hab).1.1), if_neg (ne y (h0.2.2 x y hab).2.1)]; exact h8.2.2 x y hab
    · obtain ⟨th, a, b⟩ := hr
      exact (hk r).mpr ⟨th, fun c hc9 => a c (mono c hc9), b⟩
  refine ⟨⟨key.1, key.2.1, key.2.2, ?_⟩, e9⟩
  refine JSg_G0 (V := cV t 231 449 64) (D := cDm 6 np [] []) (Tp := cTp [] []) (Tp2 := cTp [] []) (Rt := cRt np pL [] []) ⟨fun _ _ => rfl, mono, ⟨rk, hok⟩, fun c dc hn e he => ?_, fun _ _ => Iff.rfl, fun c dc hr => ?_, fun c dc hr => ?_⟩ (cFr_stru hf (Nat.le_refl _)) (cFr_stru key.2.1 (Nat.le_refl _)) (fun b hb => ?_) (fun _ _ _ _ _ _ q => q) hj
  · rcases split1 c dc with rfl | ⟨q, _⟩
    · rw [e9] at he; cases he
    · exact hn q
  · rcases hr with ⟨q, q2⟩ | q | q
    · exact Or.inl ⟨by omega, q2⟩
    · cases q
    · cases q
  · rcases hr with q | q
    · cases q
    · cases q
  · obtain ⟨_, c, hc, _⟩ := hb
    cases hc
theorem cL_Ar {np c : Nat} (h : cDm 6 np [] [] c) : cAr np pL 6 [] [] (fun _ => False) c := by
  rcases cL_D h with q | q | q
  · exact Or.inl ⟨q, id⟩
  · exact Or.inr (Or.inl q)
  · refine Or.inr (Or.inr (Or.inl ⟨q, ?_⟩))
    unfold pL
    rw [if_neg (by omega)]
/-- the value of a half, of a term -/
theorem cL_hval {s : rSg} {np h : Nat} (h9 : h < 9) {th : Nat → Nat} (hs : vSol (cV s 231 449 64) (cDm 6 np [] []) th) : th (hc h) = fv th h := by
  unfold hc fv
  by_cases q : h < 6
  · rw [if_pos q, if_pos q]
  · rw [if_neg q, if_neg q, (hs (128 + (h - 6)) (Or.inr (Or.inl (by omega)))).2.1 (h - 6) (by rw [cV_atom (by omega) (by omega), Nat.add_sub_cancel_left])]
def tvf (T : At) : Tf := fun r => tv r T
theorem cL_draw {s t : rSg} {z : Int32} {np : Nat} {E : List (At × At)} (hn : np < 600) (hd : cDr s t z np) (h : cL s np E) : cL t (cn np (tD z)) E ∧ cDm 6 (cn np (tD z)) [] [] (cc np (tD z)) ∧ dnt (cV t 231 449 64) (cDm 6 (cn np (tD z)) [] []) (cc np (tD z)) (tvf (tD z)) := by
  obtain ⟨d0, d1, d2, d3, d4⟩ := hd
  have ok := tD_ok z
  have e449 : t 449 = s 449 := d0 449 (by decide) (by decide) (by decide)
  generalize tD z = T at *
  cases T with
  | inl x =>
    have ok : x < 9 := ok
    refine ⟨cL_ext hn d3 e449 h, cTd_D (by decide) (hc_T ok np), fun th hth r hr => ?_⟩
    show th (hc x) = fv r x
    rw [cL_hval ok hth, fv_ext (fun v hv => hr v (by omega))]
  | inr pq =>
    obtain ⟨p, q⟩ := pq
    obtain ⟨ok1, ok2⟩ := ok
    obtain ⟨d5, d6⟩ := d4 p q rfl
    obtain ⟨c1, c2⟩ := cL_pair hn d3 e449 ok1 ok2 d5 d6 h
    have D9 : cDm 6 (np + 1) [] [] (256 + np) := Or.inr (Or.inr (Or.inl (by omega)))
    refine ⟨c1, D9, fun th hth r hr => ?_⟩
    show th (256 + np) = nd (fv r p) (fv r q)
    rw [(hth _ D9).2.2 _ _ c2, cL_hval ok1 hth, cL_hval ok2 hth, fv_ext (fun v hv => hr v (by omega)) p, fv_ext (fun v hv => hr v (by omega)) q]
theorem cL_keep {s t : rSg} {z : Int32} {np a : Nat} {f : Tf} (hn : np < 600) (hd : cDr s t z np) (ha : cDm 6 np [] [] a) (hv : dnt (cV s 231 449 64) (cDm 6 np [] []) a f) : cDm 6 (cn np (tD z)) [] [] a ∧ dnt (cV t 231 449 64) (cDm 6 (cn np (tD z)) [] []) a f := by
  obtain ⟨d0, d1, d2, d3, d4⟩ := hd
  have e449 : t 449 = s 449 := d0 449 (by decide) (by decide) (by decide)
  have mono : np ≤ cn np (tD z) := by cases tD z with | inl x => exact Nat.le_refl _ | inr x => exact Nat.le_succ _
  have sub : ∀ c, cDm 6 np [] [] c → cDm 6 (cn np (tD z)) [] [] c := fun c hc => by
    rcases cL_D hc with q | q | q
    · exact Or.inl q
    · exact Or.inr (Or.inl q)
    · exact Or.inr (Or.inr (Or.inl (by omega)))
  refine ⟨sub a ha, fun th hth r hr => hv th (fun c hc => ?_) r hr⟩
  have e : cV t 231 449 64 c = cV s 231 449 64 c := by
    have hc := cL_D hc
    unfold cV
    rw [e449]
    by_cases a1 : c < 128
    · rw [if_pos a1, if_pos a1]
    · by_cases a2 : c < 256
      · rw [if_neg a1, if_neg a1, if_pos a2, if_pos a2]
      · rw [if_neg a1, if_neg a1, if_neg a2, if_neg a2, if_pos (by omega), if_pos (by omega), d3 _ (by omega), d3 _ (by omega)]
  have := hth c (sub c hc)
  rwa [e] at this
/-- '=' of two drawn terms -/
theorem cL_eq {s : rSg} {np a b l : Nat} {T1 T2 : At} {E : List (At × At)} (hn : np ≤ 8) (h : cL s np E) (ha : cDm 6 np [] [] a) (hb : cDm 6 np [] [] b) (va : dnt (cV s 231 449 64) (cDm 6 np [] []) a (tvf T1)) (vb : dnt (cV s 231 449 64) (cDm 6 np [] []) b (tvf T2)) (hl : cSn s l) (hl0 : l + 300 < 2 ^ 32) : EvS rSkel 4 65 [.inr (.inr (some 1)), .inr (.inr (some 231)), .inr (.inr (some 449)), .inl (nI a), .inl (nI b)] s (fun v t => ((v = some (.inl 1) ∧ Sat (E ++ [(T1, T2)]) ∧ cL t np (E ++ [(T1, T2)])) ∨ (v = some (.inl 0) ∧ ¬ Sat (E ++ [(T1, T2)]))) ∧ (∀ q, (q = 0 ∨ 5 < q) → q ≠ 449 → t q = s q) ∧ ∃ l2, cSn t l2 ∧ l2 ≤ l + 66) := by
  refine (cc_unify scr231 arr449 (by decide) (Nat.le_refl _) h (Or.inl ⟨by simp; omega, by simp; omega⟩) hl hl0 ha hb (fun q => q.elim) (fun q => q.elim) va vb (cL_Ar ha) (cL_Ar hb)).imp ?_
  rintro _ t ⟨x, bs, rfl, c4, ⟨l2, c5, c6⟩, c7⟩
  refine ⟨?_, c4.1, l2, c5, by omega⟩
  have iff : ∀ r, uni (fun r => sat E r) (tvf T1) (tvf T2) r ↔ sat (E ++ [(T1, T2)]) r := fun r => sat_app.symm
  rcases c7 with ⟨rfl, ⟨r, hr⟩, hcc, _⟩ | ⟨rfl, h0⟩
  · exact Or.inl ⟨rfl, ⟨r, (iff r).mp hr⟩, hcc.1, hcc.2.1, fun r => (iff r).symm.trans (hcc.2.2.1 r), hcc.2.2.2⟩
  · exact Or.inr ⟨rfl, fun ⟨r, hr⟩ => h0 ⟨r, (iff r).mpr hr⟩⟩
theorem cSn_ext {s t : rSg} {l : Nat} (h1 : t 1 = s 1) (h5 : t 5 = s 5) (h : cSn s l) : cSn t l := cSn_fr h (by rw [h1]) h5
/-- what a lot may change in the class -/
def clf (s t : rSg) : Prop := ∀ q, (q = 0 ∨ 5 < q) → q ≠ 231 → q ≠ 234 → q ≠ 448 → q ≠ 449 → q ≠ 686 → t q = s q
theorem clf.rfl' {s : rSg} : clf s s := fun _ _ _ _ _ _ _ => rfl
theorem clf.trans {a b c : rSg} (h1 : clf a b) (h2 : clf b c) : clf a c := fun q g1 g2 g3 g4 g5 g6 => (h2 q g1 g2 g3 g4 g5 g6).trans (h1 q g1 g2 g3 g4 g5 g6)
theorem cL_lot_loop {s0 : rSg} {z0 : Int32} {l0 : Nat} (hl0 : l0 + 1000 < 2 ^ 32) {P : Option rv → rSg → Prop} (hP : ∀ (t : rSg) (l np : Nat), clf s0 t → t 686 0 = zn 4 z0 → cSn t l → l ≤ l0 + 66 * 4 → (Sat (lE 4 z0) → np ≤ 8 ∧ cL t np (lE 4 z0)) → P (some (.inl (iteP (Sat (lE 4 z0)) 1 0))) t) :
    ∀ (n k : Nat) (y : Int32) (s : rSg) (l np : Nat), k + n = 4 → clf s0 s → s 686 0 = zn k z0 → s 231 4 = nI np → np ≤ 2 * k → cSn s l → l ≤ l0 + 66 * k → ((y = 1 ∧ Sat (lE k z0) ∧ cL s np (lE k z0)) ∨ (y = 0 ∧ ¬ Sat (lE k z0))) → g_108_13 231 448 y (nI k) s P := by
  intro n
  induction n with
  | zero =>
    intro k y s l np hk hf hz h4 hnp hsn hl hy
    obtain rfl : k = 4 := by omega
    refine w_108_13 s 231 scr231 448 st448 y (nI 4) ⟨fun _ => ?_, fun q => absurd (by decide) q⟩
    rcases hy with ⟨rfl, h1, h2⟩ | ⟨rfl, h1⟩
    · have := hP s l np hf hz hsn hl (fun _ => ⟨by omega, h2⟩)
      rw [iteP_pos h1] at this
      exact ⟨bN1, this⟩
    · have := hP s l np hf hz hsn hl (fun q => absurd q h1)
      rw [iteP_neg h1] at this
      exact ⟨bN0, this⟩
  | succ n ih =>
    intro k y s l np hk hf hz h4 hnp hsn hl hy
    refine w_108_13 s 231 scr231 448 st448 y (nI k) ⟨fun q => absurd ((nI_leI (a := 4) (by decide) (by omega)).mp q) (by omega), fun _ => (c_drawTerm hz h4 (by omega)).imp ?_⟩
    rintro _ t ⟨rfl, hd1⟩
    have n1 := cn_le np (tD (zn k z0))
    refine ⟨_, rfl, (c_drawTerm hd1.2.1 hd1.2.2.1 (by omega)).imp ?_⟩
    rintro _ u ⟨rfl, hd2⟩
    generalize enp1 : cn np (tD (zn k z0)) = np1 at *
    have n2 := cn_le np1 (tD (tZ (zn k z0)))
    have fu : clf s u := fun q g1 g2 g3 g4 g5 g6 => by rw [hd2.1 q g2 g3 g6, hd1.1 q g2 g3 g6]
    have snu : cSn u l := cSn_ext (by rw [hd2.1 1 (by decide) (by decide) (by decide), hd1.1 1 (by decide) (by decide) (by decide)]) (by rw [hd2.1 5 (by decide) (by decide) (by decide), hd1.1 5 (by decide) (by decide) (by decide)]) hsn
    rw [nI_1]
    refine ⟨_, rfl, fun hy0 => ?_, fun hy1 => ?_⟩
    · have h1 : ¬ Sat (lE k z0) := by
        rcases hy with ⟨e, _⟩ | ⟨_, h⟩
        · rw [e] at hy0; exact absurd hy0 (by decide)
        · exact h
      exact ih (k + 1) 0 u l _ (by omega) (hf.trans fu) hd2.2.1 hd2.2.2.1 (by omega) snu (by omega) (Or.inr ⟨rfl, lE_mono h1⟩)
    · obtain ⟨h1, h2⟩ : Sat (lE k z0) ∧ cL s np (lE k z0) := by
        rcases hy with ⟨_, h⟩ | ⟨e, _⟩
        · exact h
        · exact absurd e hy1
      obtain ⟨i1, D1, v1⟩ := cL_draw (by omega) hd1 h2
      rw [enp1] at i1 D1 v1
      obtain ⟨i2, D2, v2⟩ := cL_draw (by omega) hd2 i1
      obtain ⟨D3, v3⟩ := cL_keep (by omega) hd2 D1 v1
      refine (cL_eq (by omega) i2 D3 D2 v3 v2 snu (by omega)).imp ?_
      rintro _ w ⟨hr, w0, l2, wsn, wl⟩
      have w686 : w 686 0 = zn (k + 1) z0 := by rw [w0 686 (by decide) (by decide)]; exact hd2.2.1
      have w231 : w 231 4 = nI (cn np1 (tD (tZ (zn k z0)))) := by rw [w0 231 (by decide) (by decide)]; exact hd2.2.2.1
      have fw : clf s0 w := (hf.trans fu).trans (fun q g1 g2 g3 g4 g5 g6 => w0 q g1 g5)
      rcases hr with ⟨rfl, r1, r2⟩ | ⟨rfl, r1⟩
      · exact ⟨_, rfl, fun q => absurd q (by decide), fun _ => ih (k + 1) 1 w l2 _ (by omega) fw w686 w231 (by omega) wsn (by omega) (Or.inl ⟨rfl, r1, r2⟩)⟩
      · exact ⟨_, rfl, fun _ => ih (k + 1) 0 w l2 _ (by omega) fw w686 w231 (by omega) wsn (by omega) (Or.inr ⟨rfl, r1⟩), fun q => absurd rfl q⟩
theorem cL_lot {s : rSg} {z : Int32} {l : Nat} (hz : s 686 0 = z) (hsn : cSn s l) (hl : l + 1000 < 2 ^ 32) : EvS rSkel 5 108 [.inr (.inr (some 0)), .inr (.inr (some 231)), .inr (.inr (some 448))] s (fun v t => v = some (.inl (iteP (Sat (lE 4 z)) 1 0)) ∧ clf s t ∧ t 686 0 = zn 4 z ∧ (∃ l2, cSn t l2 ∧ l2 ≤ l + 264) ∧ (Sat (lE 4 z) → ∃ np, np ≤ 8 ∧ cL t np (lE 4 z))) := by
  refine w_108 s 231 scr231 448 st448 (w_20 s 231 scr231 ⟨rfl, (c_reset (Sk := rSkel) (k := 448) st448 _).imp ?_⟩)
  rintro _ t ⟨rfl, t0, t1, _⟩
  have e : ∀ q, q ≠ 231 → q ≠ 448 → q ≠ 449 → t q = s q := fun q g1 g2 g3 => by rw [t0 q g2 g3, up2_nk _ _ _ g1, up2_nk _ _ _ g1]
  have t4 : t 231 4 = nI 0 := by rw [t0 231 (by decide) (by decide), up2_same]; rfl
  have i0 : cL t 0 [] := by
    have c0 := cFr_0 (sg := t) (s := 231) (kb := 449) (tp := 0) (np := 0) (p := pL) ⟨fun c hc => by unfold pL; split <;> decide, fun c h1 h2 => by omega⟩ (Nat.le_refl _) (by decide) (fun j hj => t1 j (by omega))
    exact ⟨c0.1, c0.2.1, fun r => ⟨fun _ => (c0.2.2.1 r).mp trivial, fun _ e he => (by cases he)⟩, c0.2.2.2⟩
  refine ⟨rfl, cL_lot_loop hl (fun u l2 np g1 g2 g3 g4 g5 => ⟨rfl, (fun q a1 a2 a3 a4 a5 a6 => ?_), g2, ⟨l2, g3, by omega⟩, fun hs => ⟨np, g5 hs⟩⟩) 4 0 1 t l 0 rfl clf.rfl' (by rw [e 686 (by decide) (by decide) (by decide)]; exact hz) t4 (by decide) (cSn_ext (e 1 (by decide) (by decide) (by decide)) (e 5 (by decide) (by decide) (by decide)) hsn) (by omega) (Or.inl ⟨rfl, ⟨fun _ => 0, fun e he => (by cases he)⟩, i0⟩)⟩
  rw [g1 q a1 a2 a3 a4 a5 a6, e q a2 a4 a5]
theorem cL_named {s : rSg} {np : Nat} {E : List (At × At)} (hn : np ≤ 8) (h : cL s np E) {P : Option rv → rSg → Prop} {r : Int32} (hP : P (some (.inl r)) s) : ∀ (n v : Nat) (a : Int32), v + n = 6 → cN E n v a = r → g_109_4 448 a (nI v) s P := by
  obtain ⟨hw, hf, hk, _⟩ := h
  obtain ⟨rk, hok⟩ := hf.2.2.2.2.2.2.1
  intro n
  induction n with
  | zero =>
    intro v a hv hr
    obtain rfl : v = 6 := by omega
    refine w_109_4 s 448 st448 a (nI 6) ⟨fun _ => ?_, fun q => absurd (by decide) q⟩
    rw [show a = r from hr]
    exact hP
  | succ n ih =>
    intro v a hv hr
    refine w_109_4 s 448 st448 a (nI v) ⟨fun q => absurd ((nI_leI (a := 6) (by decide) (by omega)).mp q) (by omega), fun _ => ?_⟩
    have Dv : cDm 6 np [] [] v := Or.inl (by omega)
    refine (cG_walk arr449 hw hok Dv).imp ?_
    rintro _ s' ⟨rfl, c2, rfl, D2, r2, w2⟩
    have hlt := cWG_lt hw D2
    refine ⟨_, rfl, (c_isVar _ (by omega)).imp ?_⟩
    rintro _ s2 ⟨rfl, rfl⟩
    rw [nI_1]
    by_cases q : c2 < 128
    · rw [if_pos q]
      have hop : ¬ closedP E v := by
        intro hcl
        have h6 : c2 < 6 := by have := cL_D D2; omega
        have ho : cV s2 231 449 64 c2 = none := by
          cases e : cV s2 231 449 64 c2 with
          | none => rfl
          | some x =>
            unfold cV at e
            rw [if_pos (by omega)] at e
            split at e
            · exact absurd (by unfold cV; rw [if_pos (by omega)]; split; rfl; next z1 z2 => exact absurd z1 z2) (r2 (s2 449 c2).toNatClampNeg)
            · cases e
        obtain ⟨th, a1, a2⟩ := vSol_any hok ho 11
        exact hcl ⟨th, (hk th).mpr ⟨th, a1, fun _ _ => rfl⟩, by rw [w2.1 th a1]; exact a2⟩
      refine ⟨_, rfl, fun _ => ih (v + 1) a (by omega) ?_, fun q => absurd (by decide) q⟩
      rw [← hr]
      show _ = cN E n (v + 1) (iteP (closedP E v) (a + 1) a)
      rw [iteP_neg hop]
    · rw [if_neg q]
      have hcl : closedP E v := by
        rintro ⟨ρ, h1, h2⟩
        obtain ⟨th, a1, a2⟩ := (hk ρ).mp h1
        have e : th c2 = 11 := by rw [← w2.1 th a1, a2 v (by omega)]; exact h2
        have D3 := cL_D D2
        by_cases q2 : c2 < 256
        · have := (a1 c2 D2).2.1 _ (cV_atom (by omega) q2)
          omega
        · obtain ⟨x, y, hp, _⟩ := hf.2.2.2.2.1 c2 (by omega) (by omega)
          have := (a1 c2 D2).2.2 x y hp
          have := nd_big (th x) (th y)
          omega
      refine ⟨_, rfl, fun q => absurd rfl q, fun _ => ih (v + 1) (a + 1) (by omega) ?_⟩
      rw [← hr]
      show _ = cN E n (v + 1) (iteP (closedP E v) (a + 1) a)
      rw [iteP_pos hcl]
theorem cL_lots_loop {s0 : rSg} {N : Nat} {w : Int32} (hN : N ≤ 20) {l0 : Nat} (hl0 : l0 + 10000 < 2 ^ 32) {P : Option rv → rSg → Prop} {r : Int32} (hP : ∀ t l, clf s0 t → cSn t l → l ≤ l0 + 5280 → P (some (.inl r)) t) : ∀ (n i l : Nat) (z h a : Int32) (s : rSg), i + n = N → (if w = 0 then hA n z h else tA n z a) = r → clf s0 s → s 686 0 = z → cSn s l → l ≤ l0 + 264 * i → g_107_58 (nI N) w h a (nI i) s P := by
  intro n
  induction n with
  | zero =>
    intro i l z h a s hi hr hf _ hs9 hl9
    obtain rfl : i = N := by omega
    refine w_107_58 s (nI i) w h a (nI i) ⟨fun _ => ⟨fun hw => ?_, fun hw => ?_⟩, fun q => absurd (Int32.le_refl _) q⟩
    · rw [if_neg hw] at hr
      rw [show a = r from hr]
      exact hP s l hf hs9 (by omega)
    · rw [if_pos (Classical.not_not.mp hw)] at hr
      rw [show h = r from hr]
      exact hP s l hf hs9 (by omega)
  | succ n ih =>
    intro i l z h a s hi hr hf hz hsn hl
    refine w_107_58 s (nI N) w h a (nI i) ⟨fun q => absurd ((nI_leI (by omega) (by omega)).mp q) (by omega), fun _ => (cL_lot hz hsn (by omega)).imp ?_⟩
    rintro _ t ⟨rfl, tf, tz, ⟨l2, tsn, tl⟩, ti⟩
    have hf2 : clf s0 t := hf.trans tf
    have hl2 : l2 ≤ l0 + 264 * (i + 1) := Nat.le_trans tl (by rw [Nat.mul_succ, ← Nat.add_assoc]; exact Nat.add_le_add_right hl 264)
    rw [nI_1]
    by_cases hs : Sat (lE 4 z)
    · rw [iteP_pos hs]
      obtain ⟨np, hn8, hi9⟩ := ti hs
      refine ⟨_, rfl, fun q => absurd q (by decide), fun _ => w_109 t 448 st448 (cL_named hn8 hi9 ⟨_, rfl, ?_⟩ 6 0 0 rfl rfl)⟩
      refine ih (i + 1) l2 (zn 4 z) _ _ t (by omega) ?_ hf2 tz tsn hl2
      rw [← hr]
      by_cases hw : w = 0
      · rw [if_pos hw, if_pos hw]
        show _ = hA n (zn 4 z) (iteP (Sat (lE 4 z)) (h + 1) h)
        rw [iteP_pos hs]
      · rw [if_neg hw, if_neg hw]
        show _ = tA n (zn 4 z) (iteP (Sat (lE 4 z)) (a + cN (lE 4 z) 6 0 0) a)
        rw [iteP_pos hs]
    · rw [iteP_neg hs]
      refine ⟨_, rfl, fun _ => ih (i + 1) l2 (zn 4 z) _ _ t (by omega) ?_ hf2 tz tsn hl2, fun q => absurd rfl q⟩
      rw [← hr]
      by_cases hw : w = 0
      · rw [if_pos hw, if_pos hw]
        show _ = hA n (zn 4 z) (iteP (Sat (lE 4 z)) (h + 1) h)
        rw [iteP_neg hs]
      · rw [if_neg hw, if_neg hw]
        show _ = tA n (zn 4 z) (iteP (Sat (lE 4 z)) (a + cN (lE 4 z) 6 0 0) a)
        rw [iteP_neg hs]
noncomputable def sLots (a b c : Int32) : Int32 → Option Int32 → Prop := if 1 ≤ a then (if a ≤ 20 then (if c = 0 ∨ c = 1 then wIs (loV a b c) else wNo (-2)) else wNo (-6)) else wNo (-4)
theorem cx_107 {s : rSg} {A : Ab} {im : Option Ab} (h : clI s) {l : Nat} (hl : cSn s l) (hl9 : l + 5304000 + 30000 < 2 ^ 32) (c : CJ s A im) (a b x : Int32) : EvS rSkel 6 107 [.inr (.inr (some 0)), .inl a, .inl b, .inl x] s (cP (sLots a b x) l 5304000 s) := by
  have k0 : kc0 l 5304000 s s := ⟨kc.rfl', rfl, ⟨l, by omega, hl⟩, h⟩
  have main : 1 ≤ a → a ≤ 20 → (x = 0 ∨ x = 1) → g_107_58 a x 0 0 0 (up2 s 686 0 b) (cP (sLots a b x) l 5304000 s) := fun h1 h2 hc => by
    obtain ⟨N, hN, rfl⟩ := nn_of (x := a) (Int32.not_lt.mpr (Int32.le_trans (show (0 : Int32) ≤ 1 by decide) h1))
    have N20 : N ≤ 20 := (nI_leI (b := 20) hN (by decide)).mp h2
    have ev : (if x = 0 then hA N b 0 else tA N b 0) = loV (nI N) b x := by
      unfold loV
      rw [if_pos h1, if_pos h2, nI_clamp (by omega)]
      rcases hc with rfl | rfl
      · rw [if_pos rfl, if_pos rfl]
      · rw [if_neg (by decide), if_neg (by decide), if_pos rfl]
    refine cL_lots_loop (s0 := up2 s 686 0 b) N20 (l0 := l) (by omega) (fun t l2 g1 g2 g3 => ?_) N 0 l b 0 0 _ (by omega) ev clf.rfl' (up2_same _ _ _ _) (cSn_fr hl (by rw [up2_nk _ _ _ (by decide)]) (up2_nk _ _ _ (by decide))) (by omega)
    have ft : ∀ q, (q = 0 ∨ 5 < q) → q ≠ 231 → q ≠ 234 → q ≠ 448 → q ≠ 449 → q ≠ 686 → t q = s q := fun q a1 a2 a3 a4 a5 a6 => by rw [g1 q a1 a2 a3 a4 a5 a6, up2_nk _ _ _ a6]
    have k : kc0 l 5304000 s t := ⟨fun q hq => ft q (by omega) (by omega) (by omega) (by omega) (by omega) (by omega), ft 691 (by omega) (by omega) (by omega) (by omega) (by omega) (by omega), ⟨l2, by omega, g2⟩, h.1.ext (ft 6 (by omega) (by omega) (by omega) (by omega) (by omega) (by omega)), h.2.1.ext (ft 230 (by omega) (by omega) (by omega) (by omega) (by omega) (by omega)), h.2.2.ext (ft 454 (by omega) (by omega) (by omega) (by omega) (by omega) (by omega))⟩
    refine k.is ?_
    unfold sLots
    rw [if_pos h1, if_pos h2, if_pos hc]
    exact ⟨rfl, rfl⟩
  refine w_107 s a b x ⟨fun h1 => ⟨fun h2 => ⟨fun e => main h1 h2 (Or.inl e), fun e => ⟨fun e2 => main h1 h2 (Or.inr e2), fun e2 => cx_no k0 (by decide) ?_⟩⟩, fun h2 => cx_no k0 (by decide) ?_⟩, fun h1 => cx_no k0 (by decide) ?_⟩
  · unfold sLots
    rw [if_pos h1, if_pos h2, if_neg (fun z => z.elim e e2)]
    exact ⟨rfl, rfl⟩
  · unfold sLots
    rw [if_pos h1, if_neg h2]
    exact ⟨rfl, rfl⟩
  · unfold sLots
    rw [if_neg h1]
    exact ⟨rfl, rfl⟩
