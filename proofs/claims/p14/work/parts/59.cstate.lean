/-! THE CLASS: states, and a search that begins; over any shape -/
def isSeaA (Sk : List rSk) (b : Nat) : Prop := isSeaS Sk b ∧ (∀ i, i < 40 → isStS Sk (b + 6 + 3 * i)) ∧ (∀ i, i < 30 → isStS Sk (b + 127 + 3 * i))
theorem c_fill_loop {Sk : List rSk} {kb nb : Nat} (hkb : isArrS Sk kb nb) (hnb : nb < 2 ^ 30) {s0 : rSg} {x : Int32} {P : Option rv → rSg → Prop} (hP : ∀ s2 : rSg, (∀ k, k ≠ kb → s2 k = s0 k) → (∀ j, j < nb → s2 kb j = x) → P none s2) : ∀ (n t : Nat) (sg : rSg), t + n = nb → (∀ k, k ≠ kb → sg k = s0 k) → (∀ j, j < t → sg kb j = x) → gS_209_5 Sk kb nb x (nI t) (nI nb) sg P := by
  intro n
  induction n with
  | zero =>
    intro t sg ht hf hj
    refine wS_209_5 sg kb nb hkb x _ _ ⟨fun _ => hP sg hf (fun j h => hj j (by omega)), fun q => absurd (nI_le (by omega) (by omega)) q⟩
  | succ n ih =>
    intro t sg ht hf hj
    refine wS_209_5 sg kb nb hkb x _ _ ?_
    rw [nI_clamp (by omega), nI_1]
    refine ⟨fun q => absurd ((nI_leI (by omega) (by omega)).mp q) (by omega), fun _ => ⟨rIn_nI (by omega) (by omega), ih (t + 1) _ (by omega) (fun k h => by rw [up2_nk _ _ _ h]; exact hf k h) (fun j h => ?_)⟩⟩
    by_cases q : j = t
    · subst q; exact up2_same _ _ _ _
    · rw [up2_nj _ _ _ q]; exact hj j (by omega)
theorem c_fill {Sk : List rSk} {kb nb : Nat} (hkb : isArrS Sk kb nb) (hnb : nb < 2 ^ 30) (sg : rSg) (x : Int32) : EvS Sk 1 209 [.inr (.inr (some kb)), .inl x] sg (fun v s2 => v = none ∧ (∀ k, k ≠ kb → s2 k = sg k) ∧ ∀ j, j < nb → s2 kb j = x) := wS_209 sg kb nb hkb x (c_fill_loop hkb hnb (fun s2 h1 h2 => ⟨rfl, h1, h2⟩) nb 0 sg (by omega) (fun _ _ => rfl) (fun j h => absurd h (by omega)))
theorem c_reset {Sk : List rSk} {k : Nat} (hk : isStS Sk k) (sg : rSg) : EvS Sk 2 51 [.inr (.inr (some k))] sg (fun v s2 => v = none ∧ (∀ q, q ≠ k → q ≠ k + 1 → s2 q = sg q) ∧ (∀ j, j < 64 → s2 (k + 1) j = -1) ∧ s2 k 2 = 6 ∧ s2 k 3 = 0 ∧ s2 k 4 = 0) := by
  refine wS_51 sg k hk ((c_fill (kb := k + 1) (nb := 64) ⟨by have := hk.1; omega, hk.2.2.1⟩ (by decide) sg (-1)).imp ?_)
  rintro _ t ⟨rfl, h1, h2⟩
  refine ⟨rfl, rfl, fun q g1 g2 => ?_, fun j hj => ?_, ?_, ?_, up2_same _ _ _ _⟩
  · rw [up2_nk _ _ _ g1, up2_nk _ _ _ g1, up2_nk _ _ _ g1, h1 q g2]
  · rw [up2_nk _ _ _ (by omega), up2_nk _ _ _ (by omega), up2_nk _ _ _ (by omega), h2 j hj]
  · rw [up2_nj _ _ _ (by decide), up2_nj _ _ _ (by decide), up2_same]
  · rw [up2_nj _ _ _ (by decide), up2_same]
theorem c_stpush {Sk : List rSk} {k : Nat} (hk : isStS Sk k) (sg : rSg) {t : Nat} (ht : sg k 3 = nI t) (ht9 : t < 32) (x : Int32) : EvS Sk 1 52 [.inr (.inr (some k)), .inl x] sg (fun v s2 => v = none ∧ (∀ q, q ≠ k → q ≠ k + 2 → s2 q = sg q) ∧ (∀ j, j ≠ 3 → s2 k j = sg k j) ∧ s2 k 3 = nI (t + 1) ∧ s2 (k + 2) t = x ∧ ∀ j, j ≠ t → s2 (k + 2) j = sg (k + 2) j) := by
  refine wS_52 sg k hk x ?_
  rw [ht, nI_clamp (by omega), nI_1, show (32 : Int32) = nI 32 from rfl]
  refine ⟨fun q => absurd q (nI_pos (by omega)), fun _ => ⟨fun q => absurd ((nI_leI (by decide) (by omega)).mp q) (by omega), fun _ => ⟨rIn_nI ht9 (by decide), rfl, fun q g1 g2 => ?_, fun j hj => ?_, up2_same _ _ _ _, ?_, fun j hj => ?_⟩⟩⟩
  · rw [up2_nk _ _ _ g1, up2_nk _ _ _ g2]
  · rw [up2_nj _ _ _ hj, up2_nk _ _ _ (by omega)]
  · rw [up2_nk _ _ _ (by omega), up2_same]
  · rw [up2_nk _ _ _ (by omega), up2_nj _ _ _ hj]
theorem imin_nI {v m : Nat} (hm : v ≤ m) (h9 : m < 2 ^ 31) : imin (imax (nI v) 0) (nI m) = nI v := by
  have h0 : ¬ nI v < 0 := nI_pos (by omega)
  have h1 : imax (nI v) 0 = nI v := by
    unfold imax
    rw [if_neg h0]
  rw [h1]
  unfold imin
  by_cases q : nI m < nI v
  · exact absurd ((nI_ltI h9 (by omega)).mp q) (by omega)
  · rw [if_neg q]
theorem cl0 : (0 : Int32).toNatClampNeg = 0 := rfl
theorem cpy_lt {f g : Nat → Int32} {n j : Nat} (h : j < n) : va_cpy f g 0 0 n j = f j := by
  unfold va_cpy
  rw [if_pos (by omega), Nat.sub_zero, Nat.zero_add]
theorem cpy_ge {f g : Nat → Int32} {n j : Nat} (h : n ≤ j) : va_cpy f g 0 0 n j = g j := by
  unfold va_cpy
  rw [if_neg (by omega)]
theorem c_copy {Sk : List rSk} {k k2 : Nat} (hk : isStS Sk k) (hk2 : isStS Sk k2) (hkk : k + 2 < k2 ∨ k2 + 2 < k) (sg : rSg) {v t : Nat} (hv : sg k2 2 = nI v) (hv9 : v ≤ 64) (ht : sg k2 3 = nI t) (ht9 : t ≤ 32) : EvS Sk 1 53 [.inr (.inr (some k)), .inr (.inr (some k2))] sg (fun r s2 => r = none ∧ (∀ q, q ≠ k → q ≠ k + 1 → q ≠ k + 2 → s2 q = sg q) ∧ s2 k 2 = nI v ∧ s2 k 3 = nI t ∧ s2 k 4 = sg k2 4 ∧ (∀ j, j < v → s2 (k + 1) j = sg (k2 + 1) j) ∧ (∀ j, v ≤ j → s2 (k + 1) j = sg (k + 1) j) ∧ (∀ j, j < t → s2 (k + 2) j = sg (k2 + 2) j) ∧ (∀ j, t ≤ j → s2 (k + 2) j = sg (k + 2) j)) := by
  refine wS_53 sg k hk k2 hk2 hkk ?_
  rw [hv, ht, show (64 : Int32) = nI 64 from rfl, show (32 : Int32) = nI 32 from rfl, imin_nI hv9 (by decide), imin_nI ht9 (by decide), nI_clamp (by omega), nI_clamp (by omega), cl0]
  refine ⟨⟨by decide, by decide, nI_pos (by omega), by omega, by omega⟩, ⟨by decide, by decide, nI_pos (by omega), by omega, by omega⟩, ?_⟩
  generalize eA : up2 (up2 (up2 sg k 2 (nI v)) k 3 (nI t)) k 4 (sg k2 4) = A
  have a1 : ∀ q, q ≠ k → A q = sg q := fun q h => by rw [← eA, up2_nk _ _ _ h, up2_nk _ _ _ h, up2_nk _ _ _ h]
  have a2 : A k 2 = nI v := by rw [← eA, up2_nj _ _ _ (by decide), up2_nj _ _ _ (by decide), up2_same]
  have a3 : A k 3 = nI t := by rw [← eA, up2_nj _ _ _ (by decide), up2_same]
  have a4 : A k 4 = sg k2 4 := by rw [← eA, up2_same]
  refine ⟨rfl, fun q g1 g2 g3 => ?_, ?_, ?_, ?_, fun j hj => ?_, fun j hj => ?_, fun j hj => ?_, fun j hj => ?_⟩
  · rw [upC_ne _ _ g3, upC_ne _ _ g2, a1 q g1]
  · rw [upC_ne _ _ (by omega), upC_ne _ _ (by omega), a2]
  · rw [upC_ne _ _ (by omega), upC_ne _ _ (by omega), a3]
  · rw [upC_ne _ _ (by omega), upC_ne _ _ (by omega), a4]
  · rw [upC_ne _ _ (by omega), upC_same, cpy_lt hj, a1 _ (by omega)]
  · rw [upC_ne _ _ (by omega), upC_same, cpy_ge hj, a1 _ (by omega)]
  · rw [upC_same, cpy_lt hj, upC_ne _ _ (by omega), a1 _ (by omega)]
  · rw [upC_same, cpy_ge hj, upC_ne _ _ (by omega), a1 _ (by omega)]
theorem c_waitingAt {Sk : List rSk} {b : Nat} (hb : isSeaA Sk b) (sg : rSg) {h i : Nat} (hh : sg b 7 = nI h) (h9 : h + i < 1000) : EvS Sk 1 35 [.inr (.inr (some b)), .inl (nI i)] sg (fun r s2 => r = some (.inr (.inr (some (b + 6 + 3 * ((h + i) % 40))))) ∧ s2 = sg) := by
  refine wS_35 sg b hb.1 (nI i) ?_
  have hm : (h + i) % 40 < 40 := Nat.mod_lt _ (by decide)
  have e : irem (sg b 7 + nI i) 40 = nI ((h + i) % 40) := by
    rw [hh, nI_add]
    exact pk_rem (by omega) (by decide) (by decide)
  rw [e, nI_clamp (by omega), show (40 : Int32) = nI 40 from rfl]
  refine ⟨fun q => absurd q (nI_pos (by omega)), fun _ => ⟨fun q => absurd ((nI_leI (by decide) (by omega)).mp q) (by omega), fun _ => ⟨rIn_nI hm (by decide), _, ?_, hb.2.1 _ hm, rfl, rfl⟩⟩⟩
  show (if (h + i) % 40 < 40 then _ else _) = _
  rw [if_pos hm]
/-- a state goes behind THE QUEUE -/
theorem c_enqueue_in {Sk : List rSk} {b k : Nat} (hb : isSeaA Sk b) (hk : isStS Sk k) (sg : rSg) {h n v t : Nat} (hh : sg b 7 = nI h) (h9 : h < 40) (hn : sg b 8 = nI n) (hn9 : n < 40) (hv : sg k 2 = nI v) (hv9 : v ≤ 60) (ht : sg k 3 = nI t) (ht9 : t ≤ 32) (hkk : ∀ i, i < 40 → b + 6 + 3 * i + 2 < k ∨ k + 2 < b + 6 + 3 * i) (hkb : k ≠ b) : EvS Sk 2 34 [.inr (.inr (some b)), .inr (.inr (some k))] sg (fun r s2 => r = none ∧ ∃ q, q = b + 6 + 3 * ((h + n) % 40) ∧ (∀ j, j ≠ b → j ≠ q → j ≠ q + 1 → j ≠ q + 2 → s2 j = sg j) ∧ (∀ j, j ≠ 8 → s2 b j = sg b j) ∧ s2 b 8 = nI (n + 1) ∧ s2 q 2 = nI v ∧ s2 q 3 = nI t ∧ s2 q 4 = sg k 4 ∧ (∀ j, j < v → s2 (q + 1) j = sg (k + 1) j) ∧ (∀ j, v ≤ j → s2 (q + 1) j = sg (q + 1) j) ∧ (∀ j, j < t → s2 (q + 2) j = sg (k + 2) j)) := by
  have hm : (h + n) % 40 < 40 := Nat.mod_lt _ (by decide)
  refine wS_34 sg b hb.1 k hk ?_
  rw [hv, hn, show (60 : Int32) = nI 60 from rfl, show (40 : Int32) = nI 40 from rfl]
  refine ⟨fun q => absurd ((nI_ltI (by decide) (by omega)).mp q) (by omega), fun _ => ⟨fun _ => ?_, fun q => absurd (nI_lt hn9 (by decide)) q⟩⟩
  refine (c_waitingAt hb sg hh (i := n) (by omega)).imp ?_
  rintro _ s9 ⟨rfl, e9⟩
  rw [e9]
  refine ⟨_, rfl, hb.2.1 _ hm, (c_copy (hb.2.1 _ hm) hk (hkk _ hm) sg hv (by omega) ht ht9).imp ?_⟩
  rintro _ s2 ⟨rfl, q1, q2, q3, q4, q5, q6, q7, q8⟩
  rw [q1 b (by omega) (by omega) (by omega), hn, nI_1]
  refine ⟨rfl, rfl, _, rfl, fun j g1 g2 g3 g4 => ?_, fun j hj => ?_, up2_same _ _ _ _, ?_, ?_, ?_, fun j hj => ?_, fun j hj => ?_, fun j hj => ?_⟩
  · rw [up2_nk _ _ _ g1, q1 j g2 g3 g4]
  · rw [up2_nj _ _ _ hj, q1 b (by omega) (by omega) (by omega)]
  · rw [up2_nk _ _ _ (by omega), q2]
  · rw [up2_nk _ _ _ (by omega), q3]
  · rw [up2_nk _ _ _ (by omega), q4]
  · rw [up2_nk _ _ _ (by omega), q5 j hj]
  · rw [up2_nk _ _ _ (by omega), q6 j hj]
  · rw [up2_nk _ _ _ (by omega), q7 j hj]
/-- a search begins -/
def cBegun (sg s2 : rSg) (b : Nat) : Prop := (∀ j, j < b ∨ b + 223 < j ∨ (b < j ∧ j < b + 6) → s2 j = sg j) ∧ (∀ j, j < 7 → s2 b j = sg b j) ∧ s2 b 7 = 0 ∧ s2 b 8 = 1 ∧ s2 b 9 = 0 ∧ s2 b 10 = 0 ∧ s2 b 11 = 0 ∧ s2 b 12 = 1 ∧ s2 (b + 6) 2 = 6 ∧ s2 (b + 6) 3 = 1 ∧ s2 (b + 6) 4 = 0 ∧ (∀ j, j < 6 → s2 (b + 7) j = -1) ∧ s2 (b + 8) 0 = sg (b + 1) 5 ∧ (∀ j, (9 + b ≤ j ∧ j < b + 218) ∨ (b + 221 ≤ j ∧ j ≤ b + 223) → s2 j = sg j)
theorem c_begin {Sk : List rSk} {b : Nat} (hb : isSeaA Sk b) (sg : rSg) : EvS Sk 3 33 [.inr (.inr (some b))] sg (fun r s2 => r = none ∧ cBegun sg s2 b) := by
  refine wS_33 sg b hb.1 ?_
  generalize eA : up2 (up2 (up2 (up2 (up2 (up2 sg b 7 0) b 8 0) b 9 0) b 10 0) b 11 0) b 12 1 = A
  have a1 : ∀ q, q ≠ b → A q = sg q := fun q h => by rw [← eA, up2_nk _ _ _ h, up2_nk _ _ _ h, up2_nk _ _ _ h, up2_nk _ _ _ h, up2_nk _ _ _ h, up2_nk _ _ _ h]
  have a2 : ∀ j, j < 7 → A b j = sg b j := fun j h => by rw [← eA, up2_nj _ _ _ (by omega), up2_nj _ _ _ (by omega), up2_nj _ _ _ (by omega), up2_nj _ _ _ (by omega), up2_nj _ _ _ (by omega), up2_nj _ _ _ (by omega)]
  have a7 : A b 7 = 0 := by rw [← eA, up2_nj _ _ _ (by decide), up2_nj _ _ _ (by decide), up2_nj _ _ _ (by decide), up2_nj _ _ _ (by decide), up2_nj _ _ _ (by decide), up2_same]
  have a8 : A b 8 = 0 := by rw [← eA, up2_nj _ _ _ (by decide), up2_nj _ _ _ (by decide), up2_nj _ _ _ (by decide), up2_nj _ _ _ (by decide), up2_same]
  have a9 : A b 9 = 0 := by rw [← eA, up2_nj _ _ _ (by decide), up2_nj _ _ _ (by decide), up2_nj _ _ _ (by decide), up2_same]
  have a10 : A b 10 = 0 := by rw [← eA, up2_nj _ _ _ (by decide), up2_nj _ _ _ (by decide), up2_same]
  have a11 : A b 11 = 0 := by rw [← eA, up2_nj _ _ _ (by decide), up2_same]
  have a12 : A b 12 = 1 := by rw [← eA, up2_same]
  have hst := hb.1.2.2.2.2.2.2.1
  refine (c_reset hst A).imp ?_
  rintro _ B ⟨rfl, b1, b2, b3, b4, b5⟩
  refine ⟨rfl, (c_stpush hst B (t := 0) b4 (by decide) _).imp ?_⟩
  rintro _ C ⟨rfl, c1, c2, c3, c4, c5⟩
  have cb : C b = A b := by rw [c1 b (by omega) (by omega), b1 b (by omega) (by omega)]
  refine ⟨rfl, (c_enqueue_in hb hst C (h := 0) (n := 0) (v := 6) (t := 1) (by rw [cb]; exact a7) (by decide) (by rw [cb]; exact a8) (by decide) (by rw [c2 2 (by decide)]; exact b3) (by decide) c3 (by decide) (fun i hi => by omega) (by omega)).imp ?_⟩
  rintro _ s2 ⟨rfl, q, hq, d1, d2, d3, d4, d5, d6, d7, d8, d9⟩
  have hq : q = b + 6 := by simpa using hq
  subst hq
  have old : ∀ j, j ≠ b → j ≠ b + 6 → j ≠ b + 7 → j ≠ b + 8 → j ≠ b + 218 → j ≠ b + 219 → j ≠ b + 220 → s2 j = sg j := fun j g1 g2 g3 g4 g5 g6 g7 => by rw [d1 j g1 g2 g3 g4, c1 j g5 g7, b1 j g5 g6, a1 j g1]
  refine ⟨rfl, rfl, fun j hj => old j (by omega) (by omega) (by omega) (by omega) (by omega) (by omega) (by omega), fun j hj => by rw [d2 j (by omega), cb, a2 j hj], by rw [d2 7 (by decide), cb, a7], d3, by rw [d2 9 (by decide), cb, a9], by rw [d2 10 (by decide), cb, a10], by rw [d2 11 (by decide), cb, a11], by rw [d2 12 (by decide), cb, a12], d4, d5, by rw [d6, c2 4 (by decide), b5], fun j hj => ?_, ?_, fun j hj => old j (by omega) (by omega) (by omega) (by omega) (by omega) (by omega) (by omega)⟩
  · rw [d7 j hj, c1 _ (by omega) (by omega), b2 j (by omega)]
  · rw [d9 0 (by decide), c4, b1 _ (by omega) (by omega), a1 _ (by omega)]
