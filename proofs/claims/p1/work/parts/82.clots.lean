/-! LOTS: the class -/
def cI (s : rSg) (np : Nat) (E : List (At × At)) : Prop := cWF s 231 449 64 np ∧ (∃ rk, vOK (cV s 231 449 64) (cD 64 np) rk) ∧ (∀ th, vSol (cV s 231 449 64) (cD 64 np) th → sat E th) ∧ (∀ ρ, sat E ρ → ∃ th, vSol (cV s 231 449 64) (cD 64 np) th ∧ ∀ v, v < 64 → th v = ρ v)
theorem hc_F {h : Nat} (h9 : h < 9) (np : Nat) : cF np (hc h) := by
  unfold hc cF
  split <;> omega
theorem hc_ne {h : Nat} (h9 : h < 9) (np : Nat) : hc h ≠ 256 + np := by
  unfold hc
  split <;> omega
theorem cD64 {np c : Nat} (h : cD 64 np c) : cF np c := by
  rcases h with h | ⟨h, _⟩
  · exact h
  · exact absurd h (by decide)
theorem cI_ext {s t : rSg} {np : Nat} {E : List (At × At)} (h1 : ∀ j, j < 2 * np → t 234 j = s 234 j) (h2 : t 449 = s 449) (h : cI s np E) : cI t np E := by
  obtain ⟨hw, ⟨rk, hok⟩, hA, hB⟩ := h
  have e : ∀ c, cD 64 np c → cV t 231 449 64 c = cV s 231 449 64 c := by
    intro c hc
    have hc := cD64 hc
    unfold cF at hc
    unfold cV
    rw [h2]
    by_cases a1 : c < 128
    · rw [if_pos a1, if_pos a1]
    · by_cases a2 : c < 256
      · rw [if_neg a1, if_neg a1, if_pos a2, if_pos a2]
      · rw [if_neg a1, if_neg a1, if_neg a2, if_neg a2, if_pos (by have := hw.2.1; omega), if_pos (by have := hw.2.1; omega), h1 _ (by omega), h1 _ (by omega)]
  have es : ∀ th, vSol (cV t 231 449 64) (cD 64 np) th ↔ vSol (cV s 231 449 64) (cD 64 np) th := fun th => ⟨fun h c hc => by have := h c hc; rwa [e c hc] at this, fun h c hc => by rw [e c hc]; exact h c hc⟩
  refine ⟨⟨hw.1, hw.2.1, fun j hj => by rw [h1 j hj]; exact hw.2.2.1 j hj, fun i hi => by rw [h2]; exact hw.2.2.2 i hi⟩, ⟨rk, fun c hc => by rw [e c hc]; exact hok c hc⟩, fun th h => hA th ((es th).mp h), fun ρ hρ => ?_⟩
  obtain ⟨th, a, b⟩ := hB ρ hρ
  exact ⟨th, (es th).mpr a, b⟩
/-- a pair more -/
theorem cI_pair {s t : rSg} {np p q : Nat} {E : List (At × At)} (hn : np < 600) (h1 : ∀ j, j < 2 * np → t 234 j = s 234 j) (h2 : t 449 = s 449) (hp : p < 9) (hq : q < 9) (h3 : t 234 (2 * np) = nI (hc p)) (h4 : t 234 (2 * np + 1) = nI (hc q)) (h : cI s np E) : cI t (np + 1) E ∧ cV t 231 449 64 (256 + np) = some (.inr (.inr (hc p, hc q))) := by
  obtain ⟨hw, ⟨rk, hok⟩, hA, hB⟩ := cI_ext h1 h2 h
  have mono : ∀ c, cF np c → cF (np + 1) c := fun c hc => by unfold cF at *; omega
  have hcp : hc p < 256 := by unfold hc; split <;> omega
  have hcq : hc q < 256 := by unfold hc; split <;> omega
  have e9 : cV t 231 449 64 (256 + np) = some (.inr (.inr (hc p, hc q))) := by
    unfold cV
    rw [if_neg (by omega), if_neg (by omega), if_pos (by omega), show 2 * (256 + np - 256) = 2 * np by omega, h3, h4, nI_clamp (by omega), nI_clamp (by omega)]
  have Dp : cD 64 np (hc p) := Or.inl (hc_F hp np)
  have Dq : cD 64 np (hc q) := Or.inl (hc_F hq np)
  have split1 : ∀ c, cD 64 (np + 1) c → c = 256 + np ∨ (cD 64 np c ∧ c ≠ 256 + np) := fun c hc => by
    have hc := cD64 hc
    unfold cF at hc
    by_cases e : c = 256 + np
    · exact Or.inl e
    · exact Or.inr ⟨Or.inl (by unfold cF; omega), e⟩
  have ne : ∀ c, cD 64 np c → c ≠ 256 + np := fun c hc => by have hc := cD64 hc; unfold cF at hc; omega
  refine ⟨⟨⟨hw.1, by omega, fun j hj => ?_, fun i hi => ?_⟩, ⟨fun c => if c = 256 + np then rk (hc p) + rk (hc q) + 1 else rk c, fun c hc9 => ?_⟩, fun th hth => hA th (fun c hc9 => hth c (Or.inl (mono c (cD64 hc9)))), fun ρ hρ => ?_⟩, e9⟩
  · by_cases a1 : j < 2 * np
    · obtain ⟨x, hx, fx⟩ := hw.2.2.1 j a1
      exact ⟨x, hx, mono x fx⟩
    · by_cases a2 : j = 2 * np
      · exact ⟨hc p, by rw [a2]; exact h3, hc_F hp _⟩
      · have a3 : j = 2 * np + 1 := by omega
        exact ⟨hc q, by rw [a3]; exact h4, hc_F hq _⟩
  · rcases hw.2.2.2 i hi with a | ⟨c, a, b⟩
    · exact Or.inl a
    · exact Or.inr ⟨c, a, Or.inl (mono c (cD64 b))⟩
  · rcases split1 c hc9 with rfl | ⟨hc8, hne⟩
    · rw [e9]
      refine ⟨fun e he => (by cases he), fun n hn => (by cases hn), fun a b hab => ?_⟩
      have hab := Prod.mk.inj (Sum.inr.inj (Sum.inr.inj (Option.some.inj hab)))
      obtain ⟨rfl, rfl⟩ := hab
      refine ⟨⟨Or.inl (hc_F hp _), ?_⟩, ⟨Or.inl (hc_F hq _), ?_⟩⟩
      · show (if _ then _ else _) < (if _ then _ else _)
        rw [if_neg (hc_ne hp np), if_pos rfl]
        omega
      · show (if _ then _ else _) < (if _ then _ else _)
        rw [if_neg (hc_ne hq np), if_pos rfl]
        omega
    · have h0 := hok c hc8
      have up : ∀ d, cD 64 np d → rk d < rk c → cD 64 (np + 1) d ∧ (if d = 256 + np then rk (hc p) + rk (hc q) + 1 else rk d) < (if c = 256 + np then rk (hc p) + rk (hc q) + 1 else rk c) := fun d hd hlt => ⟨Or.inl (mono d (cD64 hd)), by rw [if_neg (ne d hd), if_neg hne]; exact hlt⟩
      exact ⟨fun e he => up e (h0.1 e he).1 (h0.1 e he).2, h0.2.1, fun a b hab => ⟨up a (h0.2.2 a b hab).1.1 (h0.2.2 a b hab).1.2, up b (h0.2.2 a b hab).2.1 (h0.2.2 a b hab).2.2⟩⟩
  · obtain ⟨th, a, b⟩ := hB ρ hρ
    refine ⟨fun c => if c = 256 + np then nd (th (hc p)) (th (hc q)) else th c, fun c hc9 => ?_, fun v hv => by show (if _ then _ else _) = _; rw [if_neg (by omega)]; exact b v hv⟩
    rcases split1 c hc9 with rfl | ⟨hc8, hne⟩
    · rw [e9]
      refine ⟨fun e he => (by cases he), fun n hn => (by cases hn), fun x y hab => ?_⟩
      have hab := Prod.mk.inj (Sum.inr.inj (Sum.inr.inj (Option.some.inj hab)))
      obtain ⟨rfl, rfl⟩ := hab
      show (if _ then _ else _) = nd (if _ then _ else _) (if _ then _ else _)
      rw [if_pos rfl, if_neg (hc_ne hp np), if_neg (hc_ne hq np)]
    · have h0 := hok c hc8
      have h8 := a c hc8
      refine ⟨fun e he => ?_, fun n hn => ?_, fun x y hab => ?_⟩
      · show (if _ then _ else _) = (if _ then _ else _)
        rw [if_neg hne, if_neg (ne e (h0.1 e he).1)]; exact h8.1 e he
      · show (if _ then _ else _) = n
        rw [if_neg hne]; exact h8.2.1 n hn
      · show (if _ then _ else _) = nd (if _ then _ else _) (if _ then _ else _)
        rw [if_neg hne, if_neg (ne x (h0.2.2 x y hab).1.1), if_neg (ne y (h0.2.2 x y hab).2.1)]; exact h8.2.2 x y hab
/-- the value of a half, of a term -/
theorem c_hval {s : rSg} {np h : Nat} (h9 : h < 9) {th : Nat → Nat} (hs : vSol (cV s 231 449 64) (cD 64 np) th) : th (hc h) = fv th h := by
  unfold hc fv
  by_cases q : h < 6
  · rw [if_pos q, if_pos q]
  · rw [if_neg q, if_neg q, (hs (128 + (h - 6)) (Or.inl (Or.inr (Or.inl (by omega))))).2.1 (h - 6) (by rw [cV_atom (by omega) (by omega), Nat.add_sub_cancel_left])]
/-- a term is drawn: what is known stays, and its value is told -/
theorem cI_draw {s t : rSg} {z : Int32} {np : Nat} {E : List (At × At)} (hn : np < 600) (hd : cDr s t z np) (h : cI s np E) : cI t (cn np (tD z)) E ∧ cD 64 (cn np (tD z)) (cc np (tD z)) ∧ ∀ th, vSol (cV t 231 449 64) (cD 64 (cn np (tD z))) th → th (cc np (tD z)) = tv th (tD z) := by
  obtain ⟨d0, d1, d2, d3, d4⟩ := hd
  have ok := tD_ok z
  have e449 : t 449 = s 449 := d0 449 (by decide) (by decide) (by decide)
  generalize tD z = T at *
  cases T with
  | inl x =>
    have ok : x < 9 := ok
    exact ⟨cI_ext d3 e449 h, Or.inl (hc_F ok np), fun th hth => c_hval ok hth⟩
  | inr pq =>
    obtain ⟨p, q⟩ := pq
    obtain ⟨ok1, ok2⟩ := ok
    obtain ⟨d5, d6⟩ := d4 p q rfl
    obtain ⟨c1, c2⟩ := cI_pair hn d3 e449 ok1 ok2 d5 d6 h
    have D9 : cD 64 (np + 1) (256 + np) := Or.inl (Or.inr (Or.inr (by omega)))
    refine ⟨c1, D9, fun th hth => ?_⟩
    show th (256 + np) = nd (fv th p) (fv th q)
    rw [(hth _ D9).2.2 _ _ c2, c_hval ok1 hth, c_hval ok2 hth]
/-- a value stays when another term is drawn -/
theorem cI_keep {s t : rSg} {z : Int32} {np a : Nat} {T : At} {E : List (At × At)} (hn : np < 600) (hd : cDr s t z np) (h : cI s np E) (ha : cD 64 np a) (hv : ∀ th, vSol (cV s 231 449 64) (cD 64 np) th → th a = tv th T) : cD 64 (cn np (tD z)) a ∧ ∀ th, vSol (cV t 231 449 64) (cD 64 (cn np (tD z))) th → th a = tv th T := by
  obtain ⟨d0, d1, d2, d3, d4⟩ := hd
  have e449 : t 449 = s 449 := d0 449 (by decide) (by decide) (by decide)
  have mono : np ≤ cn np (tD z) := by cases tD z with | inl x => exact Nat.le_refl _ | inr x => exact Nat.le_succ _
  have sub : ∀ c, cD 64 np c → cD 64 (cn np (tD z)) c := fun c hc => Or.inl (by have hc := cD64 hc; unfold cF at *; omega)
  refine ⟨sub a ha, fun th hth => hv th (fun c hc => ?_)⟩
  have e : cV t 231 449 64 c = cV s 231 449 64 c := by
    have hc := cD64 hc
    unfold cF at hc
    unfold cV
    rw [e449]
    by_cases a1 : c < 128
    · rw [if_pos a1, if_pos a1]
    · by_cases a2 : c < 256
      · rw [if_neg a1, if_neg a1, if_pos a2, if_pos a2]
      · rw [if_neg a1, if_neg a1, if_neg a2, if_neg a2, if_pos (by omega), if_pos (by omega), d3 _ (by omega), d3 _ (by omega)]
  have := hth c (sub c hc)
  rwa [e] at this
theorem arr449 : isArr 449 64 := ⟨by decide, sk_449⟩
theorem st448 : isSt 448 := ⟨by decide, sk_448, sk_449, sk_450⟩
/-- '=' of two drawn terms -/
theorem c_eqLot {s : rSg} {np a b l : Nat} {T1 T2 : At} {E : List (At × At)} (hn : np ≤ 8) (h : cI s np E) (ha : cD 64 np a) (hb : cD 64 np b) (va : ∀ th, vSol (cV s 231 449 64) (cD 64 np) th → th a = tv th T1) (vb : ∀ th, vSol (cV s 231 449 64) (cD 64 np) th → th b = tv th T2) (hl : cSn s l) (hl0 : l + 300 < 2 ^ 31) : EvS rSkel 4 65 [.inr (.inr (some 1)), .inr (.inr (some 231)), .inr (.inr (some 449)), .inl (nI a), .inl (nI b)] s (fun v t => ((v = some (.inl 1) ∧ Sat (E ++ [(T1, T2)]) ∧ cI t np (E ++ [(T1, T2)])) ∨ (v = some (.inl 0) ∧ ¬ Sat (E ++ [(T1, T2)]))) ∧ (∀ q, (q = 0 ∨ 5 < q) → q ≠ 449 → t q = s q) ∧ ∃ l2, cSn t l2 ∧ l2 ≤ l + 66) := by
  obtain ⟨hw, hrk, hA, hB⟩ := h
  refine (c_unify scr231 arr449 (by decide) hw hrk hl hl0 ha hb (cSmall8 hn)).imp ?_
  rintro _ t ⟨x, bs, rfl, c1, c2, c3, ⟨c4, c4b, c4c, c4d, c4e, c4f⟩, ⟨l2, c5, c6⟩, c7⟩
  have := opensC_le s 449 64
  refine ⟨?_, c4, l2, c5, by omega⟩
  rcases c7 with ⟨rfl, h1, _⟩ | ⟨rfl, h0⟩
  · have fA : ∀ th, vSol (cV t 231 449 64) (cD 64 np) th → sat (E ++ [(T1, T2)]) th := fun th hth => by
      have g := (h1 th).mp hth
      exact sat_app.mpr ⟨hA th g.1, by rw [← va th g.1, ← vb th g.1]; exact g.2⟩
    obtain ⟨rk, hok⟩ := c2
    obtain ⟨th, t1, _⟩ := vSol_ex hok (fun _ => 0)
    refine Or.inl ⟨rfl, ⟨th, fA th t1⟩, c1, ⟨rk, hok⟩, fA, fun ρ hρ => ?_⟩
    obtain ⟨g1, g2⟩ := sat_app.mp hρ
    obtain ⟨th, a1, a2⟩ := hB ρ g1
    refine ⟨th, (h1 th).mpr ⟨a1, ?_⟩, a2⟩
    rw [va th a1, vb th a1, tv_ext (fun v hv => a2 v (by omega)) T1, tv_ext (fun v hv => a2 v (by omega)) T2]
    exact g2
  · refine Or.inr ⟨rfl, fun ⟨ρ, hρ⟩ => ?_⟩
    obtain ⟨g1, g2⟩ := sat_app.mp hρ
    obtain ⟨th, a1, a2⟩ := hB ρ g1
    refine h0 th a1 ?_
    rw [va th a1, vb th a1, tv_ext (fun v hv => a2 v (by omega)) T1, tv_ext (fun v hv => a2 v (by omega)) T2]
    exact g2
/-- what a lot may change in the class -/
def clf (s t : rSg) : Prop := ∀ q, (q = 0 ∨ 5 < q) → q ≠ 231 → q ≠ 234 → q ≠ 448 → q ≠ 449 → q ≠ 686 → t q = s q
theorem clf.rfl' {s : rSg} : clf s s := fun _ _ _ _ _ _ _ => rfl
theorem clf.trans {a b c : rSg} (h1 : clf a b) (h2 : clf b c) : clf a c := fun q g1 g2 g3 g4 g5 g6 => (h2 q g1 g2 g3 g4 g5 g6).trans (h1 q g1 g2 g3 g4 g5 g6)
theorem cn_le (np : Nat) (t : At) : cn np t ≤ np + 1 := by cases t with | inl x => exact Nat.le_succ _ | inr x => exact Nat.le_refl _
theorem c_lot_loop {s0 : rSg} {z0 : Int32} {l0 : Nat} (hl0 : l0 + 1000 < 2 ^ 31) {P : Option rv → rSg → Prop} (hP : ∀ (t : rSg) (l np : Nat), clf s0 t → t 686 0 = zn 4 z0 → cSn t l → l ≤ l0 + 66 * 4 → (Sat (lE 4 z0) → np ≤ 8 ∧ cI t np (lE 4 z0)) → P (some (.inl (iteP (Sat (lE 4 z0)) 1 0))) t) :
    ∀ (n k : Nat) (y : Int32) (s : rSg) (l np : Nat), k + n = 4 → clf s0 s → s 686 0 = zn k z0 → s 231 4 = nI np → np ≤ 2 * k → cSn s l → l ≤ l0 + 66 * k → ((y = 1 ∧ Sat (lE k z0) ∧ cI s np (lE k z0)) ∨ (y = 0 ∧ ¬ Sat (lE k z0))) → g_108_13 231 448 y (nI k) s P := by
  intro n
  induction n with
  | zero =>
    intro k y s l np hk hf hz h4 hnp hsn hl hy
    obtain rfl : k = 4 := by omega
    refine w_108_13 s 231 scr231 448 st448 y (nI 4) ⟨fun _ => ?_, fun q => absurd (by decide) q⟩
    rcases hy with ⟨rfl, h1, h2⟩ | ⟨rfl, h1⟩
    · have := hP s l np hf hz hsn hl (fun _ => ⟨by omega, h2⟩)
      rw [iteP_pos h1] at this
      exact ⟨bN1, this⟩
    · have := hP s l np hf hz hsn hl (fun q => absurd q h1)
      rw [iteP_neg h1] at this
      exact ⟨bN0, this⟩
  | succ n ih =>
    intro k y s l np hk hf hz h4 hnp hsn hl hy
    refine w_108_13 s 231 scr231 448 st448 y (nI k) ⟨fun q => absurd ((nI_leI (a := 4) (by decide) (by omega)).mp q) (by omega), fun _ => (c_drawTerm hz h4 (by omega)).imp ?_⟩
    rintro _ t ⟨rfl, hd1⟩
    have n1 := cn_le np (tD (zn k z0))
    refine ⟨_, rfl, (c_drawTerm hd1.2.1 hd1.2.2.1 (by omega)).imp ?_⟩
    rintro _ u ⟨rfl, hd2⟩
    generalize enp1 : cn np (tD (zn k z0)) = np1 at *
    have n2 := cn_le np1 (tD (tZ (zn k z0)))
    have fu : clf s u := fun q g1 g2 g3 g4 g5 g6 => by rw [hd2.1 q g2 g3 g6, hd1.1 q g2 g3 g6]
    have snu : cSn u l := cSn_ext (by rw [hd2.1 1 (by decide) (by decide) (by decide), hd1.1 1 (by decide) (by decide) (by decide)]) (by rw [hd2.1 5 (by decide) (by decide) (by decide), hd1.1 5 (by decide) (by decide) (by decide)]) hsn
    rw [nI_1]
    refine ⟨_, rfl, fun hy0 => ?_, fun hy1 => ?_⟩
    · have h1 : ¬ Sat (lE k z0) := by
        rcases hy with ⟨e, _⟩ | ⟨_, h⟩
        · rw [e] at hy0; exact absurd hy0 (by decide)
        · exact h
      exact ih (k + 1) 0 u l _ (by omega) (hf.trans fu) hd2.2.1 hd2.2.2.1 (by omega) snu (by omega) (Or.inr ⟨rfl, lE_mono h1⟩)
    · obtain ⟨h1, h2⟩ : Sat (lE k z0) ∧ cI s np (lE k z0) := by
        rcases hy with ⟨_, h⟩ | ⟨e, _⟩
        · exact h
        · exact absurd e hy1
      obtain ⟨i1, D1, v1⟩ := cI_draw (by omega) hd1 h2
      rw [enp1] at i1 D1 v1
      obtain ⟨i2, D2, v2⟩ := cI_draw (by omega) hd2 i1
      obtain ⟨D3, v3⟩ := cI_keep (by omega) hd2 i1 D1 v1
      refine (c_eqLot (by omega) i2 D3 D2 v3 v2 snu (by omega)).imp ?_
      rintro _ w ⟨hr, w0, l2, wsn, wl⟩
      have w686 : w 686 0 = zn (k + 1) z0 := by rw [w0 686 (by decide) (by decide)]; exact hd2.2.1
      have w231 : w 231 4 = nI (cn np1 (tD (tZ (zn k z0)))) := by rw [w0 231 (by decide) (by decide)]; exact hd2.2.2.1
      have fw : clf s0 w := (hf.trans fu).trans (fun q g1 g2 g3 g4 g5 g6 => w0 q g1 g5)
      rcases hr with ⟨rfl, r1, r2⟩ | ⟨rfl, r1⟩
      · exact ⟨_, rfl, fun q => absurd q (by decide), fun _ => ih (k + 1) 1 w l2 _ (by omega) fw w686 w231 (by omega) wsn (by omega) (Or.inl ⟨rfl, r1, r2⟩)⟩
      · exact ⟨_, rfl, fun _ => ih (k + 1) 0 w l2 _ (by omega) fw w686 w231 (by omega) wsn (by omega) (Or.inr ⟨rfl, r1⟩), fun q => absurd rfl q⟩
theorem c_lot {s : rSg} {z : Int32} {l : Nat} (hz : s 686 0 = z) (hsn : cSn s l) (hl : l + 1000 < 2 ^ 31) : EvS rSkel 5 108 [.inr (.inr (some 0)), .inr (.inr (some 231)), .inr (.inr (some 448))] s (fun v t => v = some (.inl (iteP (Sat (lE 4 z)) 1 0)) ∧ clf s t ∧ t 686 0 = zn 4 z ∧ (∃ l2, cSn t l2 ∧ l2 ≤ l + 264) ∧ (Sat (lE 4 z) → ∃ np, np ≤ 8 ∧ cI t np (lE 4 z))) := by
  refine w_108 s 231 scr231 448 st448 (w_20 s 231 scr231 ⟨rfl, (c_reset (Sk := rSkel) (k := 448) st448 _).imp ?_⟩)
  rintro _ t ⟨rfl, t0, t1, _⟩
  have e : ∀ q, q ≠ 231 → q ≠ 448 → q ≠ 449 → t q = s q := fun q g1 g2 g3 => by rw [t0 q g2 g3, up2_nk _ _ _ g1, up2_nk _ _ _ g1]
  have t4 : t 231 4 = nI 0 := by rw [t0 231 (by decide) (by decide), up2_same]; rfl
  have i0 : cI t 0 [] := by
    refine ⟨cWF0 t1, ⟨_, cOK0 t1⟩, fun th _ e he => (by cases he), fun ρ _ => ?_⟩
    obtain ⟨th, a1, a2, _⟩ := vSol_ex (cOK0 (b := 231) t1) ρ
    exact ⟨th, a1, fun v hv => a2 v (cV0 t1 hv)⟩
  refine ⟨rfl, c_lot_loop hl (fun u l2 np g1 g2 g3 g4 g5 => ⟨rfl, (fun q a1 a2 a3 a4 a5 a6 => ?_), g2, ⟨l2, g3, by omega⟩, fun hs => ⟨np, g5 hs⟩⟩) 4 0 1 t l 0 rfl clf.rfl' (by rw [e 686 (by decide) (by decide) (by decide)]; exact hz) t4 (by decide) (cSn_ext (e 1 (by decide) (by decide) (by decide)) (e 5 (by decide) (by decide) (by decide)) hsn) (by omega) (Or.inl ⟨rfl, ⟨fun _ => 0, fun e he => (by cases he)⟩, i0⟩)⟩
  rw [g1 q a1 a2 a3 a4 a5 a6, e q a2 a4 a5]
theorem c_named_loop {s : rSg} {np : Nat} {E : List (At × At)} (h : cI s np E) {P : Option rv → rSg → Prop} {r : Int32} (hP : P (some (.inl r)) s) : ∀ (n v : Nat) (a : Int32), v + n = 6 → cN E n v a = r → g_109_4 448 a (nI v) s P := by
  obtain ⟨hw, ⟨rk, hok⟩, hA, hB⟩ := h
  intro n
  induction n with
  | zero =>
    intro v a hv hr
    obtain rfl : v = 6 := by omega
    refine w_109_4 s 448 st448 a (nI 6) ⟨fun _ => ?_, fun q => absurd (by decide) q⟩
    rw [show a = r from hr]
    exact hP
  | succ n ih =>
    intro v a hv hr
    refine w_109_4 s 448 st448 a (nI v) ⟨fun q => absurd ((nI_leI (a := 6) (by decide) (by omega)).mp q) (by omega), fun _ => ?_⟩
    have Dv : cD 64 np v := Or.inl (Or.inl (by omega))
    refine (cw_walk arr449 hw hok Dv).imp ?_
    rintro _ s ⟨rfl, c2, rfl, D2, r2, w2⟩
    have hlt := cD_lt D2 hw.2.1
    refine ⟨_, rfl, (c_isVar _ (by omega)).imp ?_⟩
    rintro _ s ⟨rfl, rfl⟩
    rw [nI_1]
    by_cases q : c2 < 128
    · rw [if_pos q]
      have hop : ¬ closedP E v := by
        intro hcl
        have h64 : c2 < 64 := by have := cD64 D2; unfold cF at this; omega
        have ho : cV s 231 449 64 c2 = none := by
          rcases cV_var hw h64 with ⟨_, q⟩ | ⟨e, _, _, q⟩
          · exact q
          · exact absurd q (r2 e)
        obtain ⟨th, a1, a2⟩ := vSol_any hok ho 11
        exact hcl ⟨th, hA th a1, by rw [w2.1 th a1]; exact a2⟩
      refine ⟨_, rfl, fun _ => ih (v + 1) a (by omega) ?_, fun q => absurd (by decide) q⟩
      rw [← hr]
      show _ = cN E n (v + 1) (iteP (closedP E v) (a + 1) a)
      rw [iteP_neg hop]
    · rw [if_neg q]
      have hcl : closedP E v := by
        rintro ⟨ρ, h1, h2⟩
        obtain ⟨th, a1, a2⟩ := hB ρ h1
        have e : th c2 = 11 := by rw [← w2.1 th a1, a2 v (by omega)]; exact h2
        by_cases q2 : c2 < 256
        · have := (a1 c2 D2).2.1 _ (cV_atom (by omega) q2)
          have hF := cD64 D2
          unfold cF at hF
          omega
        · have hF := cD64 D2
          unfold cF at hF
          obtain ⟨x, y, _, _, _, _, hp⟩ := cV_pair1 hw (c := c2) (by omega) (by omega)
          have := (a1 c2 D2).2.2 x y hp
          have := nd_big (th x) (th y)
          omega
      refine ⟨_, rfl, fun q => absurd rfl q, fun _ => ih (v + 1) (a + 1) (by omega) ?_⟩
      rw [← hr]
      show _ = cN E n (v + 1) (iteP (closedP E v) (a + 1) a)
      rw [iteP_pos hcl]
theorem c_lots_loop {s0 : rSg} {N : Nat} {w : Int32} (hN : N ≤ 20) {P : Option rv → rSg → Prop} {r : Int32} (hP : ∀ t, fr s0 t → P (some (.inl r)) t) : ∀ (n i l : Nat) (z h a : Int32) (s : rSg), i + n = N → (if w = 0 then hA n z h else tA n z a) = r → fr s0 s → s 686 0 = z → cSn s l → l ≤ 264 * i → g_107_58 (nI N) w h a (nI i) s P := by
  intro n
  induction n with
  | zero =>
    intro i l z h a s hi hr hf _ _ _
    obtain rfl : i = N := by omega
    refine w_107_58 s (nI i) w h a (nI i) ⟨fun _ => ⟨fun hw => ?_, fun hw => ?_⟩, fun q => absurd (Int32.le_refl _) q⟩
    · rw [if_neg hw] at hr
      rw [show a = r from hr]
      exact hP s hf
    · rw [if_pos (Classical.not_not.mp hw)] at hr
      rw [show h = r from hr]
      exact hP s hf
  | succ n ih =>
    intro i l z h a s hi hr hf hz hsn hl
    refine w_107_58 s (nI N) w h a (nI i) ⟨fun q => absurd ((nI_leI (by omega) (by omega)).mp q) (by omega), fun _ => (c_lot hz hsn (by omega)).imp ?_⟩
    rintro _ t ⟨rfl, tf, tz, ⟨l2, tsn, tl⟩, ti⟩
    have hf2 : fr s0 t := hf.trans (fun q hq => tf q (by omega) (by omega) (by omega) (by omega) (by omega) (by omega))
    rw [nI_1]
    by_cases hs : Sat (lE 4 z)
    · rw [iteP_pos hs]
      obtain ⟨np, _, hi9⟩ := ti hs
      refine ⟨_, rfl, fun q => absurd q (by decide), fun _ => w_109 t 448 st448 (c_named_loop hi9 ⟨_, rfl, ?_⟩ 6 0 0 rfl rfl)⟩
      refine ih (i + 1) l2 (zn 4 z) _ _ t (by omega) ?_ hf2 tz tsn (by omega)
      rw [← hr]
      by_cases hw : w = 0
      · rw [if_pos hw, if_pos hw]
        show _ = hA n (zn 4 z) (iteP (Sat (lE 4 z)) (h + 1) h)
        rw [iteP_pos hs]
      · rw [if_neg hw, if_neg hw]
        show _ = tA n (zn 4 z) (iteP (Sat (lE 4 z)) (a + cN (lE 4 z) 6 0 0) a)
        rw [iteP_pos hs]
    · rw [iteP_neg hs]
      refine ⟨_, rfl, fun _ => ih (i + 1) l2 (zn 4 z) _ _ t (by omega) ?_ hf2 tz tsn (by omega), fun q => absurd rfl q⟩
      rw [← hr]
      by_cases hw : w = 0
      · rw [if_pos hw, if_pos hw]
        show _ = hA n (zn 4 z) (iteP (Sat (lE 4 z)) (h + 1) h)
        rw [iteP_neg hs]
      · rw [if_neg hw, if_neg hw]
        show _ = tA n (zn 4 z) (iteP (Sat (lE 4 z)) (a + cN (lE 4 z) 6 0 0) a)
        rw [iteP_neg hs]
