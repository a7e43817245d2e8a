/-! SAFETY OF THE CLASS: a search -/
/-- the queue's head, how many wait, how many answers there are: within their rows -/
def seaI (s : rSg) (b : Nat) : Prop := ∃ h n f, s b 7 = nI h ∧ h < 40 ∧ s b 8 = nI n ∧ n ≤ 40 ∧ s b 10 = nI f ∧ f ≤ 30
theorem seaI.ext {s t : rSg} {b : Nat} (h : seaI s b) (e : t b = s b) : seaI t b := by
  unfold seaI
  rw [e]
  exact h
theorem seaI.j {s t : rSg} {b : Nat} (h : seaI s b) (e : ∀ j, j = 7 ∨ j = 8 ∨ j = 10 → t b j = s b j) : seaI t b := by
  obtain ⟨a, n, f, h1, h2, h3, h4, h5, h6⟩ := h
  exact ⟨a, n, f, by rw [e 7 (by simp)]; exact h1, h2, by rw [e 8 (by simp)]; exact h3, h4, by rw [e 10 (by simp)]; exact h5, h6⟩
abbrev seB (b : Nat) : Nat → Prop := fun q => (q < 1 ∨ 5 < q) ∧ (q < b ∨ b + 223 < q)
/-- what a part of a search's step leaves -/
def SI (b D : Nat) (s t : rSg) : Prop := bt (seB b) s t ∧ LK D s t ∧ seaI t b
theorem SI.rfl' {b : Nat} {s : rSg} (h : seaI s b) : SI b 0 s s := ⟨bt.rfl', LK.rfl', h⟩
theorem SI.trans {b D E : Nat} {s t u : rSg} (h1 : SI b D s t) (h2 : SI b E t u) : SI b (D + E) s u := ⟨h1.1.trans h2.1, h1.2.1.trans h2.2.1, h2.2.2⟩
theorem SI.mono {b D E : Nat} {s t : rSg} (h : SI b D s t) (hd : D ≤ E) : SI b E s t := ⟨h.1, h.2.1.mono hd, h.2.2⟩
theorem SI.st {b D k : Nat} (hb : 5 < b) (hk : b < k ∧ k + 2 ≤ b + 223) {s t u : rSg} (h : SI b D s t) (g : bt (stB k) t u) : SI b D s u := by
  refine (h.trans (E := 0) ⟨g.mono (fun q hq => ?_), LK.bt g (Or.inl (by omega)) (Or.inl (by omega)), h.2.2.ext (g b (Or.inl hk.1))⟩)
  rcases hq.2 with h | h
  · exact Or.inl (by omega)
  · exact Or.inr (by omega)
theorem SI.sc {b D : Nat} (hb : 5 < b) {s t u : rSg} (h : SI b D s t) (g : bt (scB (b + 1)) t u) : SI b D s u := by
  refine (h.trans (E := 0) ⟨g.mono (fun q hq => ?_), LK.bt g (Or.inl (by omega)) (Or.inl (by omega)), h.2.2.ext (g b (Or.inl (by omega)))⟩)
  rcases hq.2 with h | h
  · exact Or.inl (by omega)
  · exact Or.inr (by omega)
theorem SI.un {b D E kb : Nat} (hb : 5 < b) (hk : b < kb ∧ kb ≤ b + 223) {s t u : rSg} (h : SI b D s t) (g : bt (unB kb) t u) (l : LK E t u) : SI b (D + E) s u :=
  h.trans ⟨g.mono (fun q hq => ⟨by omega, by omega⟩), l, h.2.2.ext (g b ⟨by omega, by omega⟩)⟩
theorem SI.up {b D j : Nat} {x : Int32} (hb : 5 < b) (hj : j ≠ 7 ∧ j ≠ 8 ∧ j ≠ 10) {s t : rSg} (h : SI b D s t) : SI b D s (up2 t b j x) :=
  ⟨h.1.up (by omega), fun l hl => by
    obtain ⟨m, h1, h2⟩ := h.2.1 l hl
    exact ⟨m, h1, by rw [up2_nk _ _ _ (by omega)]; exact h2.1, fun i hi => by rw [up2_nk _ _ _ (by omega)]; exact h2.2 i hi⟩, h.2.2.j (fun i hi => up2_nj _ _ _ (by omega))⟩
section
variable {b : Nat}
theorem sea_wst {i : Nat} (hb : isSeaA rSkel b) (hi : i < 40) : isSt (b + 6 + 3 * i) := hb.2.1 i hi
theorem s_35 {s : rSg} {h i : Nat} (hb : isSeaA rSkel b) (hh : s b 7 = nI h) (h9 : h + i < 1000) : EvS rSkel 1 35 [.inr (.inr (some b)), .inl (nI i)] s (fun v t => ∃ q, v = some (.inr (.inr (some q))) ∧ isSt q ∧ b + 6 ≤ q ∧ q + 2 ≤ b + 125 ∧ t = s) := by
  refine (c_waitingAt hb s hh h9).imp ?_
  rintro _ t ⟨rfl, rfl⟩
  have : (h + i) % 40 < 40 := Nat.mod_lt _ (by decide)
  exact ⟨_, rfl, hb.2.1 _ this, by omega, by omega, rfl⟩
theorem s_34 {s : rSg} {k : Nat} (hb : isSeaA rSkel b) (hk : isSt k) (hk2 : b + 125 < k) (hI : seaI s b) : EvS rSkel 2 34 [.inr (.inr (some b)), .inr (.inr (some k))] s (fun v t => v = none ∧ SI b 0 s t) := by
  have b5 : 5 < b := hb.1.1
  obtain ⟨h, n, f, h7, hh, h8, hn, h10, hf⟩ := id hI
  have lost : SI b 0 s (up2 s b 11 (s b 11 + 1)) := (SI.rfl' hI).up b5 ⟨by decide, by decide, by decide⟩
  refine w_34 s b hb.1 k hk ⟨fun _ => ⟨rfl, lost⟩, fun _ => ⟨fun hl => ?_, fun _ => ⟨rfl, lost⟩⟩⟩
  have n9 : n < 40 := by
    rw [h8] at hl
    exact (nI_ltI (by omega) (b := 40) (by decide)).mp hl
  rw [h8]
  refine (s_35 hb h7 (by omega)).imp ?_
  rintro _ _ ⟨q, rfl, hq, q1, q2, rfl⟩
  refine ⟨q, rfl, hq, (s_53 hq hk (by omega) _).imp ?_⟩
  rintro _ t ⟨rfl, ht⟩
  refine ⟨rfl, rfl, ?_⟩
  have g := (SI.rfl' hI).st b5 ⟨by omega, by omega⟩ ht
  have tb := ht b (Or.inl (by omega))
  rw [tb, h8, nI_1]
  refine ⟨g.1.up (by omega), fun l hl => ?_, ⟨h, n + 1, f, ?_, hh, up2_same _ _ _ _, by omega, ?_, hf⟩⟩
  · obtain ⟨m, e1, e2⟩ := g.2.1 l hl
    exact ⟨m, e1, by rw [up2_nk _ _ _ (by omega)]; exact e2.1, fun i hi => by rw [up2_nk _ _ _ (by omega)]; exact e2.2 i hi⟩
  · rw [up2_nj _ _ _ (by decide), tb]; exact h7
  · rw [up2_nj _ _ _ (by decide), tb]; exact h10
theorem s_40 {s : rSg} (hb : isSeaA rSkel b) (x : Int32) : EvS rSkel 1 40 [.inr (.inr (some b)), .inl x] s (fun v t => ∃ q, v = some (.inr (.inr (some q))) ∧ isSt q ∧ ((∃ i, i < 30 ∧ x = nI i ∧ q = b + 127 + 3 * i) ∨ (q = b + 218 ∧ (x < 0 ∨ 30 ≤ x))) ∧ t = s) := by
  refine w_40 s b hb.1 x ⟨fun h0 => ⟨_, rfl, hb.1.2.2.2.2.2.2.1, Or.inr ⟨rfl, Or.inl h0⟩, rfl⟩, fun h0 => ⟨fun h1 => ⟨_, rfl, hb.1.2.2.2.2.2.2.1, Or.inr ⟨rfl, Or.inr h1⟩, rfl⟩, fun h1 => ?_⟩⟩
  obtain ⟨i, hi, rfl⟩ := nn_lt (n := 30) (by decide) h0 h1
  refine ⟨rIn_nI hi (by decide), b + 127 + 3 * i, ?_, hb.2.2 i hi, _, rfl, hb.2.2 i hi, Or.inl ⟨i, hi, rfl, rfl⟩, rfl⟩
  rw [nI_clamp (by omega)]
  exact if_pos hi
theorem s_48 {s : rSg} (hb : isSeaA rSkel b) (x : Int32) : EvS rSkel 1 48 [.inr (.inr (some b)), .inl x] s (fun v t => ∃ n, v = some (.inl n) ∧ t = s) :=
  w_48 s b hb.1 x ⟨fun _ => ⟨_, rfl, rfl⟩, fun h0 => ⟨fun _ => ⟨_, rfl, rfl⟩, fun _ => ⟨fun _ => ⟨_, rfl, rfl⟩, fun h1 => ⟨rIn_of (n := 30) (by decide) h0 h1, _, rfl, rfl⟩⟩⟩⟩
theorem s_39 {s : rSg} (hb : isSeaA rSkel b) (hI : seaI s b) : EvS rSkel 2 39 [.inr (.inr (some b))] s (fun v t => v = none ∧ SI b 0 s t) := by
  have b5 : 5 < b := hb.1.1
  obtain ⟨h, n, f, h7, hh, h8, hn, h10, hf⟩ := id hI
  refine w_39 s b hb.1 ⟨fun _ => ⟨rfl, SI.rfl' hI⟩, fun _ => ⟨fun _ => ⟨rfl, SI.rfl' hI⟩, fun h1 => ?_⟩⟩
  have f9 : f < 30 := by
    rw [h10] at h1
    have : ¬ 30 ≤ f := fun q => h1 ((nI_leI (a := 30) (by decide) (by omega)).mpr q)
    omega
  refine (s_40 hb _).imp ?_
  rintro _ _ ⟨q, rfl, hq, hqi, rfl⟩
  have q1 : q = b + 127 + 3 * f := by
    rcases hqi with ⟨i, hi, e, e2⟩ | ⟨_, e | e⟩
    · rw [h10] at e
      have := (nI_eq (by omega) (by omega)).mp e
      omega
    · rw [h10] at e
      exact absurd e (nI_pos (by omega))
    · exact absurd e h1
  have hnow : isSt (b + 218) := hb.1.2.2.2.2.2.2.1
  refine ⟨q, rfl, hq, (s_53 hq hnow (by omega) _).imp ?_⟩
  rintro _ t ⟨rfl, ht⟩
  have tb := ht b (Or.inl (by omega))
  refine ⟨rfl, ?_, rfl, ?_⟩
  · rw [tb, h10]; exact rIn_nI f9 (by decide)
  have g := (SI.rfl' hI).st b5 ⟨by omega, by omega⟩ ht
  rw [tb, h10, nI_1]
  refine ⟨(g.1.up (by omega)).up (by omega), fun l hl => ?_, ⟨h, n, f + 1, ?_, hh, ?_, hn, up2_same _ _ _ _, by omega⟩⟩
  · obtain ⟨m, e1, e2⟩ := g.2.1 l hl
    exact ⟨m, e1, by rw [up2_nk _ _ _ (by omega), up2_nk _ _ _ (by omega)]; exact e2.1, fun i hi => by rw [up2_nk _ _ _ (by omega), up2_nk _ _ _ (by omega)]; exact e2.2 i hi⟩
  · rw [up2_nj _ _ _ (by decide), up2_nk _ _ _ (by omega), tb]; exact h7
  · rw [up2_nj _ _ _ (by decide), up2_nk _ _ _ (by omega), tb]; exact h8
end
