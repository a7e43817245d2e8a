/-! THE CLASS's READER, with what it writes: one sign that fits -/
def stE (s t : rSg) (x : Slt) (sl : List Slt) (c : Int32) (ng np : Nat) (sl2 : List Slt) (np2 : Nat) : Prop := (x.1 = 41 ∧ sl2 = sl ∧ np2 = np ∧ arr t s) ∨
  (x.1 = 116 ∧ ∃ e, lfC c e ∧ sl2 = sl ∧ np2 = np ∧ arr t (pu s x.2.2.2 (nI e))) ∨
  (x.1 = 116 ∧ c = 40 ∧ sl2 = psl np ++ sl ∧ np2 = np + 1 ∧ arr t (pu (up2 (up2 s 234 (2 * np) 138) 234 (2 * np + 1) 138) x.2.2.2 (nI (256 + np)))) ∨
  (x.1 = 103 ∧ gSg c ∧ sl2 = gsl (if c = 38 ∨ c = 124 then 103 else 116) ng (gAw c).length 0 ++ sl ∧ np2 = np ∧ arr t (pu (up2 s 232 ng c) x.2.2.2 (nI ng)))
theorem gsl_map (w : Int32) (g : Nat) : ∀ n m : Nat, (gsl w g n m).map (fun x => x.1) = List.replicate n w
  | 0, _ => rfl
  | n + 1, m => by simp only [gsl, List.map_cons, gsl_map w g n (m + 1), List.replicate_succ]
theorem gsl_len (w : Int32) (g : Nat) : ∀ n m : Nat, (gsl w g n m).length = n
  | 0, _ => rfl
  | n + 1, m => by simp only [gsl, List.length_cons, gsl_len w g n (m + 1)]
theorem pu_ad {ng np : Nat} {x : Slt} (h : slA ng np x) {k j : Nat} (he : x.2.2.2 = some (k, j)) : (k = 233 ∧ j < 3 * ng) ∨ (k = 234 ∧ j < 2 * np) := by
  rcases h with ⟨_, h2⟩ | ⟨o, p, g1, g2, _, _, h5⟩ | ⟨q, p, _, g1, g2, _, _, h5⟩
  · rw [h2] at he; cases he
  · rw [h5] at he; cases he; exact Or.inl ⟨rfl, by omega⟩
  · rw [h5] at he; cases he; exact Or.inr ⟨rfl, by omega⟩
theorem ct_8 {s : rSg} {x : Slt} {sl : List Slt} {ng nt np i : Nat} {S2 : rdS} (hs : crd s (x :: sl) ng nt np) (hx : slA ng np x) (hw : x.1 = 103 ∨ x.1 = 116 ∨ x.1 = 41) (hg : ng ≤ 24) (ht : nt ≤ 40) (hnp : np ≤ 40) (hl : sl.length < 192) {c : Int32} (hR : RStep i c x.1 (sl.map (fun x => x.1), ng, nt, none) S2) (hb : S2.2.2.2 = none) : EvS rSkel 3 8 [.inr (.inr (some 678)), .inl c, .inl (nI i)] s (fun v t => v = some (.inl 1) ∧ ∃ sl2 np2, crd t sl2 S2.2.1 S2.2.2.1 np2 ∧ sl2.map (fun x => x.1) = S2.1 ∧ rd s t ∧ stE s t x sl c ng np sl2 np2) := by
  obtain ⟨⟨a4, k1, k2, k3, k4⟩, a5, a6, a7, b3, b4⟩ := hs
  generalize eu : up2 s 678 4 (nI sl.length) = u
  have u0 : ∀ q, q ≠ 678 → u q = s q := fun q hq => by rw [← eu, up2_nk _ _ _ hq]
  have uj : ∀ j, j ≠ 4 → u 678 j = s 678 j := fun j hj => by rw [← eu, up2_nj _ _ _ hj]
  have hu : crd u sl ng nt np := ⟨⟨by rw [← eu, up2_same], csl_ext (fun j _ => by rw [u0 679 (by decide), u0 680 (by decide), u0 681 (by decide)]; exact ⟨rfl, rfl, rfl⟩) k4⟩, by rw [uj 5 (by decide)]; exact a5, by rw [uj 6 (by decide)]; exact a6, by rw [uj 7 (by decide)]; exact a7, by rw [u0 231 (by decide)]; exact b3, by rw [u0 231 (by decide)]; exact b4⟩
  have ru : rd s u := by rw [← eu]; exact rd.rfl'.up (by omega)
  have au : ∀ {t v w : rSg}, (∀ q, q ≠ 678 → v q = w q) → ∀ {ad : Option (Nat × Nat)} {e : Int32}, arr t (pu v ad e) → arr t (pu w ad e) := by
    intro t v w hvw ad e h
    exact ⟨h.1.trans (pu_cong (hvw 232 (by decide))), h.2.1.trans (pu_cong (hvw 233 (by decide))), h.2.2.trans (pu_cong (hvw 234 (by decide)))⟩
  refine w_8 s c (nI i) ?_
  rw [a4, List.length_cons, show nI (sl.length + 1) - 1 = nI sl.length from nI_pred _, nI_clamp (by omega), k1, k2, k3, eu]
  have r := rIn_nI (t := sl.length) (n := 196) (by omega) (by decide)
  refine ⟨fun q => absurd q (nI_pos (by omega)), fun _ => ⟨fun _ => ⟨r, r, r, fun h => ?_, fun h => ?_, fun h => ?_⟩, fun q => absurd ((nI_ltI (b := 196) (by omega) (by decide)).mpr (by omega)) q⟩⟩
  · have w0 : x.1 = 103 := by
      rcases hw with e | e | e
      · exact e
      · rw [e] at h; exact absurd h (by decide)
      · rw [e] at h; exact absurd h (by decide)
    rcases hR with ⟨q, _⟩ | ⟨_, q, _⟩ | ⟨_, _, hc, rfl⟩
    · rw [w0] at q; exact absurd q (by decide)
    · rw [w0] at q; exact absurd q (by decide)
    · have hg2 : ng < 24 := by
        simp only [gBad] at hb
        split at hb
        · cases hb
        · next q =>
          have : ng ≠ 24 := fun e => q ⟨e, trivial⟩
          omega
      refine (ct_9 hu hg2 hl hx w0 hc (nI i)).imp ?_
      rintro _ t ⟨rfl, h1, h2, h3⟩
      refine ⟨_, rfl, by decide, rfl, _, np, h1, ?_, ru.trans h2, Or.inr (Or.inr (Or.inr ⟨w0, hc, rfl, rfl, au (fun q hq => ?_) h3⟩))⟩
      · rw [List.map_append, gsl_map, ← gAw_rep hc]
      · simp only [up2]; rw [u0 232 (by decide), u0 q hq]
  · have w0 : x.1 = 116 := by
      rcases hw with e | e | e
      · rw [e] at h; exact absurd h (by decide)
      · exact e
      · rw [e] at h; exact absurd h (by decide)
    rcases hR with ⟨q, _⟩ | ⟨_, _, hc, rfl⟩ | ⟨_, q, _⟩
    · rw [w0] at q; exact absurd q (by decide)
    · have ht2 : nt < 40 := by
        simp only [tBad] at hb
        split at hb
        · cases hb
        · next q =>
          have : nt ≠ 40 := fun e => q ⟨e, trivial⟩
          omega
      rcases tSg_codes hc with ⟨e, he⟩ | rfl
      · refine (ct_11 hu hg ht2 hnp hl hx he (nI i)).imp ?_
        rintro _ t ⟨rfl, h1, h2, h3⟩
        refine ⟨_, rfl, by decide, rfl, sl, np, h1, ?_, ru.trans h2, Or.inr (Or.inl ⟨w0, e, he, rfl, rfl, au u0 h3⟩)⟩
        have : tAw c = [] := by unfold tAw; rw [if_neg (lfC_lt he).2]
        simp only [this, List.nil_append]
      · refine (ct_11p hu hg ht2 hnp hl hx (nI i)).imp ?_
        rintro _ t ⟨rfl, h1, h2, h3⟩
        refine ⟨_, rfl, by decide, rfl, _, np + 1, h1, ?_, ru.trans h2, Or.inr (Or.inr (Or.inl ⟨w0, rfl, rfl, rfl, au (fun q hq => ?_) h3⟩))⟩
        · have : tAw 40 = [116, 116, 41] := by unfold tAw; rw [if_pos rfl]
          simp only [this, psl, List.map_append, List.map_cons, List.map_nil]
        · simp only [up2]; rw [u0 234 (by decide), u0 q hq]
    · exact absurd w0 q
  · have w0 : x.1 = 41 := by
      rcases hw with e | e | e
      · rw [e] at h; exact absurd (by decide) h.1
      · rw [e] at h; exact absurd (by decide) h.2
      · exact e
    rcases hR with ⟨_, hc, rfl⟩ | ⟨q, _⟩ | ⟨q, _⟩
    · exact ⟨fun q => absurd hc q, fun _ => ⟨rfl, sl, np, hu, rfl, ru, Or.inl ⟨w0, rfl, rfl, u0 232 (by decide), u0 233 (by decide), u0 234 (by decide)⟩⟩⟩
    · exact absurd w0 q
    · exact absurd w0 q
