/-! THE REFERENCE: what is built has the meanings of the text -/
def stM (s : rSg) (T nG : Nat) : List (Int32 × Nat) → List Mn → Prop
  | [], [] => True
  | x :: r, .inl f :: m => x.1 = 116 ∧ tdm s T x.2 f ∧ stM s T nG r m
  | x :: r, .inr q :: m => x.1 ≠ 116 ∧ x.2 + q + 1 = nG ∧ stM s T nG r m
  | _, _ => False
theorem stM_ext {s t : rSg} {T T2 nG : Nat} (hT : T ≤ T2) (e : ∀ j, j < T → t 727 j = s 727 j ∧ t 728 j = s 728 j) : ∀ {r : List (Int32 × Nat)} {m : List Mn}, stM s T nG r m → stM t T2 nG r m
  | [], [], _ => trivial
  | x :: r, .inl f :: m, h => ⟨h.1, tdm_ext hT e h.2.1, stM_ext hT e h.2.2⟩
  | x :: r, .inr q :: m, h => ⟨h.1, h.2.1, stM_ext hT e h.2.2⟩
  | [], _ :: _, h => h.elim
  | _ :: _, [], h => h.elim
def Rb (nG G g q : Nat) : Prop := g + q + 1 = nG ∧ g < G
/-- how far the building is, with meanings -/
def BJ (tb : Tb) (s0 s : rSg) (n k : Nat) (S : rdS) (nG nT : Nat) (M : List Mn) : Prop := ∃ T G its, hp s T G 1 ∧ T + S.2.2.1 ≤ 75 + nT ∧ G + S.2.1 = nG ∧ s 725 17 = nI its.length ∧ its.length + k ≤ n ∧ its.map (fun x => x.1) = S.1.filter (fun w => !decide (w = 41)) ∧ stk s T G its ∧ bal s its ≤ G + cnt its ∧ mK [727, 728, 729, 730, 731, 732, 738] [10, 11, 17] s0 s ∧ stM s T nG its M ∧ mTab tb (Rb nG G) s T G
/-- a number goes on the pile -/
theorem fs_118 {tb : Tb} {s0 s : rSg} {n k T G : Nat} {S : rdS} {nG nT : Nat} {r : List (Int32 × Nat)} {w : Int32} {i : Nat} (hn : n ≤ 96) (hh : hp s T G 1) (hT : T + S.2.2.1 ≤ 75 + nT) (hG : G + S.2.1 = nG) (h17 : s 725 17 = nI r.length) (hl : r.length + 1 + k ≤ n) (hm : w :: r.map (fun x => x.1) = S.1.filter (fun w => !decide (w = 41))) (hs : stk s T G r) (h1 : w = 116 → i < T) (h2 : w ≠ 116 → i < G) (hb : (if w = 116 then 0 else 2 * nh s i) + bal s r ≤ G + ((if w = 116 then 0 else 1) + cnt r)) (hk : mK [727, 728, 729, 730, 731, 732, 738] [10, 11, 17] s0 s) {m : Mn} {M : List Mn} (hM : stM s T nG ((w, i) :: r) (m :: M)) (htab : mTab tb (Rb nG G) s T G) : EvS rSkel 1 118 [.inr (.inr (some 725)), .inl (nI i)] s (fun v t => v = none ∧ BJ tb s0 t n k S nG nT (m :: M)) := by
  refine (ev_m_piles 0 s (nI i) h17 (by omega)).imp ?_
  rintro _ _ ⟨rfl, rfl⟩
  have k1 : mK [738] [17] s (up2 (up2 s 738 r.length (nI i)) 725 17 (nI (r.length + 1))) := (mK.rfl'.up (by simp) (by decide)).upF (by simp)
  have e8 : ∀ j, up2 (up2 s 738 r.length (nI i)) 725 17 (nI (r.length + 1)) 738 j = if j = r.length then nI i else s 738 j := fun j => by simp [up2, upd]
  have e17 : up2 (up2 s 738 r.length (nI i)) 725 17 (nI (r.length + 1)) 725 17 = nI (r.length + 1) := up2_same _ _ _ _
  generalize up2 (up2 s 738 r.length (nI i)) 725 17 (nI (r.length + 1)) = t at k1 e8 e17
  have e : hx T G 1 s t := k1.hx (fun k a b => by simp; omega)
  refine ⟨rfl, T, G, (w, i) :: r, hh.keep e ⟨k1.2 10 (by simp), k1.2 11 (by simp), k1.2 12 (by simp)⟩, hT, hG, e17, by simp only [List.length_cons]; omega, by simp only [List.map_cons]; exact hm, ⟨by rw [e8, if_pos rfl], h1, h2, stk_ext (Nat.le_refl _) (Nat.le_refl _) (fun j hj => by rw [e8, if_neg (by omega)]) hs⟩, ?_, hk.trans (k1.mono (by simp) (by simp)), stM_ext (Nat.le_refl _) e.1 hM, mTab_ext e (Nat.le_refl _) (Nat.le_refl _) htab⟩
  simp only [bal, cnt]
  have hG9 : G < 2 ^ 31 := by have := hh.1; omega
  rw [bal_ext hh.2.2.2 hG9 e.2.1 hs]
  by_cases q : w = 116
  · rw [if_pos q, if_pos q] at hb ⊢; exact hb
  · rw [if_neg q, if_neg q] at hb ⊢
    rw [nh_ext hh.2.2.2 hG9 e.2.1 (h2 q)]
    exact hb
/-- what the new goal is -/
def gNw (tb : Tb) (nG ng : Nat) (s : rSg) (T : Nat) (c : Int32) (x y d : Nat) : Prop := ∃ k, c = nI k ∧ (tb ng).1 = k ∧ (((k = 61 ∨ k = 35 ∨ k = 77) ∧ tdm s T x (tb1 tb ng) ∧ tdm s T y (tb2 tb ng)) ∨ (k = 65 ∧ tdm s T x (tb1 tb ng) ∧ tdm s T y (tb2 tb ng) ∧ tdm s T d (tb3 tb ng)) ∨ ((k = 38 ∨ k = 124) ∧ x + tbA tb ng + 1 = nG ∧ y + tbB tb ng + 1 = nG) ∨ k = 42 ∨ k = 33)
theorem two2_nI {k : Nat} (h : k = 61 ∨ k = 35 ∨ k = 77 ∨ k = 65 ∨ k = 42 ∨ k = 33) : ¬ two2 (nI k) := by
  unfold two2
  rcases h with rfl | rfl | rfl | rfl | rfl | rfl <;> decide
theorem two2_y {k : Nat} (h : k = 38 ∨ k = 124) : two2 (nI k) := by
  unfold two2
  rcases h with rfl | rfl <;> decide
theorem mTab_new {tb : Tb} {s t : rSg} {T G L nG ng : Nat} (h : mTab tb (Rb nG G) s T G) (e : hx T G L s t) (hq : G + ng + 1 = nG) {c : Int32} {x y d : Nat} (hg : gNw tb nG ng s T c x y d) (c1 : two2 c → x < G ∧ y < G) (c2 : ¬ two2 c → x < T ∧ y < T ∧ d < T) (e9 : t 729 G = c) (e0 : t 730 G = nI x) (e1 : t 731 G = nI y) (e2 : t 732 G = nI d) : mTab tb (Rb nG (G + 1)) t T (G + 1) := by
  intro g q hr
  by_cases hgG : g < G
  · have hh := mTab_ext (T2 := T) (G2 := G + 1) e (Nat.le_refl _) (Nat.le_succ _) h g q ⟨hr.1, hgG⟩
    refine ⟨hh.1, hh.2.1, ?_⟩
    rcases hh.2.2 with p | p | ⟨k, x, y, p1, p2, p3, p4, p5⟩ | p
    · exact Or.inl p
    · exact Or.inr (Or.inl p)
    · exact Or.inr (Or.inr (Or.inl ⟨k, x, y, p1, p2, p3, ⟨p4.1, by have := p4.2; omega⟩, ⟨p5.1, by have := p5.2; omega⟩⟩))
    · exact Or.inr (Or.inr (Or.inr p))
  · have h1 := hr.1
    have h2 := hr.2
    obtain rfl : g = G := by omega
    obtain rfl : q = ng := by omega
    obtain ⟨k, rfl, hk, hg⟩ := hg
    refine ⟨h2, by rw [e9, hk], ?_⟩
    rcases hg with ⟨k3, p1, p2⟩ | ⟨k3, p1, p2, p3⟩ | ⟨k3, p1, p2⟩ | k3
    · have b := c2 (two2_nI (by omega))
      exact Or.inl ⟨by rw [hk]; exact k3, x, y, e0, e1, ⟨b.1, b.2.1⟩, e.t (Nat.le_refl _) p1, e.t (Nat.le_refl _) p2⟩
    · have b := c2 (two2_nI (by omega))
      exact Or.inr (Or.inl ⟨by rw [hk]; exact k3, x, y, d, e0, e1, e2, b, e.t (Nat.le_refl _) p1, e.t (Nat.le_refl _) p2, e.t (Nat.le_refl _) p3⟩)
    · have b := c1 (two2_y k3)
      exact Or.inr (Or.inr (Or.inl ⟨by rw [hk]; exact k3, x, y, e0, e1, b, ⟨p1, by have := b.1; omega⟩, ⟨p2, by have := b.2; omega⟩⟩))
    · exact Or.inr (Or.inr (Or.inr (by rw [hk]; exact k3)))
/-- a new goal goes on the pile -/
theorem fs_newgoal {tb : Tb} {s0 s : rSg} {n k T G ng nt : Nat} {l : List Int32} {bad : Option Nat} {nG nT : Nat} {r : List (Int32 × Nat)} {w : Int32} (hw1 : w ≠ 116) (hw2 : w ≠ 41) (hn : n ≤ 96) (hnG : nG ≤ 96) (hh : hp s T G 1) (hT : T + nt ≤ 75 + nT) (hG : G + (ng + 1) = nG) (h17 : s 725 17 = nI r.length) (hl : r.length + 1 + k ≤ n) (hm : r.map (fun x => x.1) = l.filter (fun w => !decide (w = 41))) (hs : stk s T G r) (hk : mK [727, 728, 729, 730, 731, 732, 738] [10, 11, 17] s0 s) {c : Int32} {x y d : Nat} (c1 : two2 c → x < G ∧ y < G) (c2 : ¬ two2 c → x < T ∧ y < T ∧ d < T) (hb1 : two2 c → 2 * nh s x + 2 * nh s y + bal s r ≤ G + 2 + cnt r) (hb2 : ¬ two2 c → bal s r ≤ G + cnt r) {M : List Mn} (hM : stM s T nG r M) (htab : mTab tb (Rb nG G) s T G) (hg : gNw tb nG ng s T c x y d) : EvS rSkel 1 120 [.inr (.inr (some 725)), .inl c, .inl (nI x), .inl (nI y), .inl (nI d)] s (fun v t => ∃ m, v = some (.inl m) ∧ EvS rSkel 1 118 [.inr (.inr (some 725)), .inl m] t (fun v t => v = none ∧ BJ tb s0 t n k (w :: l, ng, nt, bad) nG nT (.inr ng :: M))) := by
  refine (ms_120 hh (by omega) c1 c2).imp ?_
  rintro _ t ⟨rfl, w1, w2, w3, w4, w5, w6, w7⟩
  have hG9 : G < 2 ^ 31 := by omega
  refine ⟨_, rfl, fs_118 (S := (w :: l, ng, nt, bad)) (w := w) hn w1 hT (by simp only; omega) (by rw [w3.2 17 (by simp)]; exact h17) hl ?_ (stk_ext (Nat.le_refl _) (by omega) (fun j _ => by rw [w3.1 738 (by decide) (by simp)]) hs) (fun q => absurd q hw1) (fun _ => by omega) ?_ (hk.trans (w3.mono (by simp) (by simp))) ⟨hw1, by simp only; omega, stM_ext (Nat.le_refl _) w2.1 hM⟩ (mTab_new htab w2 (by omega) hg c1 c2 w4 w5 w6 w7)⟩
  · simp only
    rw [List.filter_cons_of_pos (by simpa using hw2), hm]
  · rw [if_neg hw1, if_neg hw1, bal_ext hh.2.2.2 hG9 w2.2.1 hs]
    by_cases q : two2 c
    · have q1 := c1 q
      have q2 := hb1 q
      rw [nh_two (T := T) (G := G + 1) w1.2.2.2 (by omega) (by omega) (by rw [w4]; exact q) w5 w6 q1.1 q1.2, nh_ext hh.2.2.2 hG9 w2.2.1 q1.1, nh_ext hh.2.2.2 hG9 w2.2.1 q1.2]
      omega
    · have q2 := hb2 q
      by_cases q3 : c = 35
      · rw [nh_hash (by rw [w4]; exact q3)]; omega
      · rw [nh_none (by rw [w4]; exact q3) (by rw [w4]; exact q)]; omega
/-- a pair more, and what it is -/
theorem fs_117 {s : rSg} {T G L : Nat} (hh : hp s T G L) (hT : T < 1400) {a b : Nat} (ha : a < T) (hb : b < T) : EvS rSkel 1 117 [.inr (.inr (some 725)), .inl (nI a), .inl (nI b)] s (fun v t => v = some (.inl (nI T)) ∧ hp t (T + 1) G L ∧ hx T G L s t ∧ mK [727, 728] [10] s t ∧ t 727 T = nI a ∧ t 728 T = nI b) := by
  refine (ev_m_pair 0 s (nI a) (nI b) hh.2.1.1 (by omega)).imp ?_
  rintro _ _ ⟨rfl, rfl⟩
  have b1 := hh.1
  have k : mK [727, 728] [10] s (up2 (up2 (up2 s 727 T (nI a)) 728 T (nI b)) 725 10 (nI (T + 1))) := ((mK.rfl'.up (by simp) (by decide)).up (by simp) (by decide)).upF (by simp)
  have e7 : ∀ j, up2 (up2 (up2 s 727 T (nI a)) 728 T (nI b)) 725 10 (nI (T + 1)) 727 j = if j = T then nI a else s 727 j := fun j => by simp [up2, upd]
  have e8 : ∀ j, up2 (up2 (up2 s 727 T (nI a)) 728 T (nI b)) 725 10 (nI (T + 1)) 728 j = if j = T then nI b else s 728 j := fun j => by simp [up2, upd]
  have e10 : up2 (up2 (up2 s 727 T (nI a)) 728 T (nI b)) 725 10 (nI (T + 1)) 725 10 = nI (T + 1) := up2_same _ _ _ _
  generalize up2 (up2 (up2 s 727 T (nI a)) 728 T (nI b)) 725 10 (nI (T + 1)) = t at k e7 e8 e10
  have e : hx T G L s t := by
    refine ⟨fun j hj => ⟨by rw [e7, if_neg (by omega)], by rw [e8, if_neg (by omega)]⟩, fun j _ => ⟨?_, ?_, ?_, ?_⟩, fun j _ => ⟨?_, ?_, ?_⟩⟩
    all_goals rw [k.1 _ (by decide) (by simp)]
  refine ⟨rfl, ⟨by omega, ⟨e10, by rw [k.2 11 (by simp)]; exact hh.2.1.2.1, by rw [k.2 12 (by simp)]; exact hh.2.1.2.2⟩, fun q h1 h2 => ?_, hh.2.2.2.ext e.2.1 (by omega)⟩, e, k, by rw [e7, if_pos rfl], by rw [e8, if_pos rfl]⟩
  by_cases hq : q = T
  · subst hq
    exact ⟨a, b, by rw [e7, if_pos rfl], by rw [e8, if_pos rfl], ha, hb⟩
  · obtain ⟨a2, b2, r1, r2, r3⟩ := hh.2.2.1 q h1 (by omega)
    exact ⟨a2, b2, by rw [e7, if_neg hq]; exact r1, by rw [e8, if_neg hq]; exact r2, r3⟩
section SIGN
theorem hx.tr {T G L : Nat} {s t u : rSg} (h1 : hx T G L s t) (h2 : hx T G L t u) : hx T G L s u := hx.trans h1 h2 (Nat.le_refl _) (Nat.le_refl _) (Nat.le_refl _)
variable {tb : Tb} {s0 s : rSg} {n k : Nat} {w c : Int32} {l : List Int32} {ng nt : Nat} {bad : Option Nat} {S2 : rdS} {nG nT : Nat}
theorem tdm_atm {s : rSg} {T a : Nat} (ha : a < 11) (hT : 75 ≤ T) : tdm s T (64 + a) (atm a) := fun th hs r _ => by
  have := (hs (2 * (64 + a)) (by show 2 * (64 + a) < 2 * T; omega)).2.1 a (by unfold m0; rw [if_neg (by omega)]; unfold mV; rw [if_neg (by omega), if_pos (by omega), show 2 * (64 + a) / 2 - 64 = a by omega])
  exact this
/-- a term's sign -/
theorem fs_115t (hn : n ≤ 96) (hnT : nT ≤ 96) (hk1 : k + 1 ≤ n) {b2 : Option Nat} {M M2 : List Mn} (hE : (∃ g, lfM c g ∧ M = .inl g :: M2) ∨ (c = 40 ∧ ∃ g1 g2 r, M2 = .inl g1 :: .inl g2 :: r ∧ M = .inl (prf g1 g2) :: r)) (hB : BJ tb s0 s n (k + 1) (tAw c ++ l, ng, nt + 1, b2) nG nT M2) : EvS rSkel 2 115 [.inr (.inr (some 725)), .inl c] s (fun v t => v = none ∧ BJ tb s0 t n k (116 :: l, ng, nt, bad) nG nT M) := by
  obtain ⟨T, G, its, hh, hT, hG, h17, hl, hm, hs, hb, hk, hM, htab⟩ := hB
  simp only at hT hG hm
  have b1 := hh.1
  have fl : (116 :: l).filter (fun w => !decide (w = 41)) = 116 :: l.filter (fun w => !decide (w = 41)) := List.filter_cons_of_pos (by decide)
  rcases hE with ⟨g, hg, rfl⟩ | ⟨rfl, g1, g2, mr, rfl, rfl⟩
  · have c40 := lfM_ne hg
    have e : tAw c = [] := by unfold tAw; rw [if_neg c40]
    rw [e, List.nil_append] at hm
    have go : ∀ i, i < 75 → tdm s T i g → EvS rSkel 1 118 [.inr (.inr (some 725)), .inl (nI i)] s (fun v t => v = none ∧ (none : Option rv) = none ∧ BJ tb s0 t n k (116 :: l, ng, nt, bad) nG nT (.inl g :: M2)) := fun i hi hd => by
      refine (fs_118 (S := (116 :: l, ng, nt, bad)) (w := 116) (r := its) hn hh (by simp only; omega) hG h17 (by omega) (by simp only; rw [fl, hm]) hs (fun _ => by omega) (fun q => absurd rfl q) ?_ hk (m := .inl g) (M := M2) ⟨rfl, hd, hM⟩ htab).imp (fun v t h => ⟨h.1, rfl, h.2⟩)
      rw [if_pos rfl, if_pos rfl]
      omega
    rcases hg with ⟨v, hv, rfl, rfl⟩ | ⟨a, ha, rfl, rfl⟩ | ⟨rfl, rfl⟩
    · have c41 : nI (97 + v) ≠ 41 := fun q => absurd ((nI_eq (b := 41) (by omega) (by decide)).mp q) (by omega)
      have in1 : (97 : Int32) ≤ nI (97 + v) ∧ nI (97 + v) ≤ 102 := ⟨(nI_leI (a := 97) (by decide) (by omega)).mpr (by omega), (nI_leI (b := 102) (by omega) (by decide)).mpr (by omega)⟩
      refine w_115 s _ ⟨fun _ => ⟨fun _ => ms_119 s _ 97 102 (fun h => ⟨_, rfl, fun q => absurd q (by decide), fun _ => ?_⟩) (fun h1 => absurd in1 h1), fun q => absurd c40 q⟩, fun q => absurd c41 q⟩
      rw [show nI (97 + v) - 97 = nI v from (pk_sub (a := 97 + v) (b := 97) (by omega)).trans (by rw [show 97 + v - 97 = v by omega])]
      exact go v (by omega) (tdm_vr (by omega))
    · have c41 : nI (48 + a) ≠ 41 := fun q => absurd ((nI_eq (b := 41) (by omega) (by decide)).mp q) (by omega)
      have in1 : (48 : Int32) ≤ nI (48 + a) ∧ nI (48 + a) ≤ 57 := ⟨(nI_leI (a := 48) (by decide) (by omega)).mpr (by omega), (nI_leI (b := 57) (by omega) (by decide)).mpr (by omega)⟩
      have in0 : ¬ ((97 : Int32) ≤ nI (48 + a) ∧ nI (48 + a) ≤ 102) := fun q => absurd ((nI_leI (a := 97) (by decide) (by omega)).mp q.1) (by omega)
      refine w_115 s _ ⟨fun _ => ⟨fun _ => ms_119 s _ 97 102 (fun h => absurd h in0) (fun h1 => ⟨_, rfl, fun _ => ms_119 s _ 48 57 (fun h => ⟨_, rfl, fun q => absurd q (by decide), fun _ => ?_⟩) (fun h2 => absurd in1 h2), fun q => absurd rfl q⟩), fun q => absurd c40 q⟩, fun q => absurd c41 q⟩
      rw [show 64 + nI (48 + a) - 48 = nI (64 + a) from by rw [show (64 : Int32) = nI 64 from rfl, nI_add]; exact (pk_sub (a := 64 + (48 + a)) (b := 48) (by omega)).trans (by rw [show 64 + (48 + a) - 48 = 64 + a by omega])]
      exact go (64 + a) (by omega) (tdm_atm (by omega) b1.1)
    · refine w_115 s _ ⟨fun _ => ⟨fun _ => ms_119 s _ 97 102 (fun h => absurd h (by decide)) (fun h1 => ⟨_, rfl, fun _ => ms_119 s _ 48 57 (fun h => absurd h (by decide)) (fun h2 => ⟨_, rfl, fun _ => ⟨fun q => absurd rfl q, fun q => go 74 (by decide) (tdm_nil b1.1)⟩, fun q => absurd rfl q⟩), fun q => absurd rfl q⟩), fun q => absurd c40 q⟩, fun q => absurd (by decide) q⟩
  · have e : (tAw 40 ++ l).filter (fun w => !decide (w = 41)) = 116 :: 116 :: l.filter (fun w => !decide (w = 41)) := by
      unfold tAw
      rw [if_pos rfl]
      simp
    rw [e] at hm
    obtain ⟨a, r1, rfl, hm1⟩ := its_cons hm
    obtain ⟨b, r, rfl, hm2⟩ := its_cons hm1
    obtain ⟨p1, p2, _, q1, q2, _, hsr⟩ := hs
    obtain ⟨_, da, _, db, hMr⟩ := hM
    have ha := p2 rfl
    have hbb := q2 rfl
    simp only [List.length_cons] at h17 hl p1
    simp only at da db
    refine w_115 s 40 ⟨fun _ => ⟨fun q => absurd rfl q, fun _ => ?_⟩, fun q => absurd (by decide) q⟩
    refine ms_116 h17 (by omega) p1 ⟨_, rfl, ms_116 (up2_same _ _ _ _) (by omega) (show up2 s 725 17 (nI (r.length + 1)) 738 r.length = nI b by rw [up2_nk _ _ _ (by decide)]; exact q1) ⟨_, rfl, ?_⟩⟩
    have hu : hp (up2 (up2 s 725 17 (nI (r.length + 1))) 725 17 (nI r.length)) T G 1 := hh.f17.f17
    refine (fs_117 hu (by omega) ha hbb).imp ?_
    rintro _ t ⟨rfl, w1, w2, w3, w4, w5⟩
    have hsu : stk (up2 (up2 s 725 17 (nI (r.length + 1))) 725 17 (nI r.length)) T G r := hsr.f17.f17
    have bu : bal (up2 (up2 s 725 17 (nI (r.length + 1))) 725 17 (nI r.length)) r = bal s r := by rw [bal.f17 hh.f17 hsr.f17, bal.f17 hh hsr]
    have e0 : hx T G 1 s t := (hx_up.tr hx_up).tr w2
    refine ⟨_, rfl, (fs_118 (S := (116 :: l, ng, nt, bad)) (w := 116) (r := r) (k := k) (nT := nT) (i := T) (s0 := s0) hn w1 (by simp only; omega) hG (by rw [w3.2 17 (by simp), up2_same]) (by omega) (by simp only; rw [fl, hm2]) (stk_ext (by omega) (Nat.le_refl _) (fun j _ => by rw [w3.1 738 (by decide) (by simp)]) hsu) (fun _ => by omega) (fun q => absurd rfl q) ?_ ((hk.trans (((mK.rfl' (ks := [727, 728, 729, 730, 731, 732, 738]) (js := [10, 11, 17])).upF (by simp)).upF (by simp))).trans (w3.mono (by simp) (by simp))) (m := .inl (prf g1 g2)) (M := mr) ⟨rfl, tdm_pair (by omega) (by omega) w4 w5 (by omega) (by omega) (e0.t (Nat.le_succ _) da) (e0.t (Nat.le_succ _) db), stM_ext (Nat.le_succ _) e0.1 hMr⟩ (mTab_ext e0 (Nat.le_succ _) (Nat.le_refl _) htab)).imp (fun v t h => ⟨h.1, rfl, h.2⟩)⟩
    rw [if_pos rfl, if_pos rfl, bal_ext hu.2.2.2 (by omega) w2.2.1 hsu, bu]
    simp only [bal, cnt, if_pos] at hb
    omega
/-- a goal's sign -/
theorem fs_115g (hn : n ≤ 96) (hnG : nG ≤ 96) (hk1 : k + 1 ≤ n) (hw1 : w ≠ 116) (hw2 : w ≠ 41) {b2 : Option Nat} {M M2 : List Mn} (hE : gEn tb ng c M M2) (hB : BJ tb s0 s n (k + 1) (gAw c ++ l, ng + 1, nt, b2) nG nT M2) : EvS rSkel 2 115 [.inr (.inr (some 725)), .inl c] s (fun v t => v = none ∧ BJ tb s0 t n k (w :: l, ng, nt, bad) nG nT M) := by
  obtain ⟨T, G, its, hh, hT, hG, h17, hl, hm, hs, hb, hk, hM, htab⟩ := hB
  simp only at hT hG hm
  have b1 := hh.1
  obtain ⟨kk, hc, hkk, hE⟩ := hE
  have hkk8 : kk = 61 ∨ kk = 35 ∨ kk = 77 ∨ kk = 65 ∨ kk = 38 ∨ kk = 124 ∨ kk = 42 ∨ kk = 33 := by
    rcases hE with ⟨q, _⟩ | ⟨q, _⟩ | ⟨q, _⟩ | ⟨q, _⟩ <;> omega
  have c41 : c ≠ 41 := by rw [hc]; rcases hkk8 with rfl | rfl | rfl | rfl | rfl | rfl | rfl | rfl <;> decide
  have c40 : c ≠ 40 := by rw [hc]; rcases hkk8 with rfl | rfl | rfl | rfl | rfl | rfl | rfl | rfl <;> decide
  have v1 : ¬ (97 ≤ c ∧ c ≤ 102) := by rw [hc]; rcases hkk8 with rfl | rfl | rfl | rfl | rfl | rfl | rfl | rfl <;> decide
  have v2 : ¬ (48 ≤ c ∧ c ≤ 57) := by rw [hc]; rcases hkk8 with rfl | rfl | rfl | rfl | rfl | rfl | rfl | rfl <;> decide
  have c110 : c ≠ 110 := by rw [hc]; rcases hkk8 with rfl | rfl | rfl | rfl | rfl | rfl | rfl | rfl <;> decide
  have k30 : mK [727, 728, 729, 730, 731, 732, 738] [10, 11, 17] s s := mK.rfl'
  rcases hE with ⟨k3, mr, rfl, rfl⟩ | ⟨k3, mr, rfl, rfl⟩ | ⟨k3, mr, rfl, rfl⟩ | ⟨k3, rfl⟩
  · -- two terms
    have n2 : ¬ two2 c := by rw [hc]; exact two2_nI (by omega)
    have e : gAw c = [116, 116] := by rw [hc]; rcases k3 with rfl | rfl | rfl <;> decide
    have c65 : c ≠ 65 := by rw [hc]; rcases k3 with rfl | rfl | rfl <;> decide
    have c42 : c ≠ 42 := by rw [hc]; rcases k3 with rfl | rfl | rfl <;> decide
    have c33 : c ≠ 33 := by rw [hc]; rcases k3 with rfl | rfl | rfl <;> decide
    have e2 : ([116, 116] ++ l).filter (fun w => !decide (w = 41)) = 116 :: 116 :: l.filter (fun w => !decide (w = 41)) := by simp
    rw [e, e2] at hm
    obtain ⟨a, q1, rfl, hm1⟩ := its_cons hm
    obtain ⟨b, r, rfl, hm2⟩ := its_cons hm1
    obtain ⟨p1, p2, _, u1, u2, _, hsr⟩ := hs
    obtain ⟨_, da, _, db, hMr⟩ := hM
    simp only [List.length_cons] at h17 hl p1 p2 u1 u2 da db
    refine w_115 s c ⟨fun _ => ⟨fun _ => ms_119 s c 97 102 (fun h => absurd h v1) (fun _ => ⟨_, rfl, fun _ => ms_119 s c 48 57 (fun h => absurd h v2) (fun _ => ⟨_, rfl, fun _ => ⟨fun _ => ⟨fun q => absurd q c42, fun _ => ⟨fun _ => ?_, fun q => absurd c33 q⟩⟩, fun q => absurd c110 q⟩, fun q => absurd rfl q⟩), fun q => absurd rfl q⟩), fun q => absurd c40 q⟩, fun q => absurd c41 q⟩
    refine ms_116 h17 (by omega) p1 ⟨_, rfl, w_115_118 _ c _ ⟨fun q => absurd q c42, fun _ => ⟨fun _ => ?_, fun q => absurd c33 q⟩⟩⟩
    refine ms_116 (up2_same _ _ _ _) (by omega) (show up2 s 725 17 (nI (r.length + 1)) 738 r.length = nI b by rw [up2_nk _ _ _ (by decide)]; exact u1) ⟨_, rfl, fun _ => ?_, fun q => absurd c65 q⟩
    have hu : hp (up2 (up2 s 725 17 (nI (r.length + 1))) 725 17 (nI r.length)) T G 1 := hh.f17.f17
    have bu : bal (up2 (up2 s 725 17 (nI (r.length + 1))) 725 17 (nI r.length)) r = bal s r := by rw [bal.f17 hh.f17 hsr.f17, bal.f17 hh hsr]
    have eu : hx T G 1 s (up2 (up2 s 725 17 (nI (r.length + 1))) 725 17 (nI r.length)) := hx_up.tr hx_up
    refine (fs_newgoal (k := k) (ng := ng) (nt := nt) (bad := bad) (nT := nT) (x := a) (y := b) (d := 0) (r := r) hw1 hw2 hn hnG hu hT hG (up2_same _ _ _ _) (by omega) hm2 hsr.f17.f17 (hk.trans ((k30.upF (by simp)).upF (by simp))) (fun q => absurd q n2) (fun q => ⟨p2 trivial, u2 trivial, by omega⟩) (fun q => absurd q n2) (fun q => ?_) (stM_ext (Nat.le_refl _) eu.1 hMr) (mTab_ext eu (Nat.le_refl _) (Nat.le_refl _) htab) ⟨kk, hc, hkk, Or.inl ⟨k3, eu.t (Nat.le_refl _) da, eu.t (Nat.le_refl _) db⟩⟩).imp ?_
    · simp only [bal, cnt, if_pos] at hb
      rw [bu]
      omega
    · rintro v t ⟨m, rfl, h9⟩
      exact ⟨m, rfl, h9.imp (fun v t q => ⟨q.1, rfl, q.2⟩)⟩
  · -- three terms
    have n2 : ¬ two2 c := by rw [hc]; exact two2_nI (by omega)
    have e : gAw c = [116, 116, 116] := by rw [hc, k3]; decide
    have c65 : c = 65 := by rw [hc, k3]; decide
    have c42 : c ≠ 42 := by rw [c65]; decide
    have c33 : c ≠ 33 := by rw [c65]; decide
    have e2 : ([116, 116, 116] ++ l).filter (fun w => !decide (w = 41)) = 116 :: 116 :: 116 :: l.filter (fun w => !decide (w = 41)) := by simp
    rw [e, e2] at hm
    obtain ⟨a, q1, rfl, hm1⟩ := its_cons hm
    obtain ⟨b, q2, rfl, hm2⟩ := its_cons hm1
    obtain ⟨d, r, rfl, hm3⟩ := its_cons hm2
    obtain ⟨p1, p2, _, u1, u2, _, y1, y2, _, hsr⟩ := hs
    obtain ⟨_, da, _, db, _, dd, hMr⟩ := hM
    simp only [List.length_cons] at h17 hl p1 p2 u1 u2 y1 y2 da db dd
    refine w_115 s c ⟨fun _ => ⟨fun _ => ms_119 s c 97 102 (fun h => absurd h v1) (fun _ => ⟨_, rfl, fun _ => ms_119 s c 48 57 (fun h => absurd h v2) (fun _ => ⟨_, rfl, fun _ => ⟨fun _ => ⟨fun q => absurd q c42, fun _ => ⟨fun _ => ?_, fun q => absurd c33 q⟩⟩, fun q => absurd c110 q⟩, fun q => absurd rfl q⟩), fun q => absurd rfl q⟩), fun q => absurd c40 q⟩, fun q => absurd c41 q⟩
    refine ms_116 h17 (by omega) p1 ⟨_, rfl, w_115_118 _ c _ ⟨fun q => absurd q c42, fun _ => ⟨fun _ => ?_, fun q => absurd c33 q⟩⟩⟩
    refine ms_116 (up2_same _ _ _ _) (by omega) (show up2 s 725 17 (nI (r.length + 1 + 1)) 738 (r.length + 1) = nI b by rw [up2_nk _ _ _ (by decide)]; exact u1) ⟨_, rfl, fun q => absurd c65 q, fun _ => ?_⟩
    refine ms_116 (up2_same _ _ _ _) (by omega) (show up2 (up2 s 725 17 (nI (r.length + 1 + 1))) 725 17 (nI (r.length + 1)) 738 r.length = nI d by rw [up2_nk _ _ _ (by decide), up2_nk _ _ _ (by decide)]; exact y1) ⟨_, rfl, ?_⟩
    have hu : hp (up2 (up2 (up2 s 725 17 (nI (r.length + 1 + 1))) 725 17 (nI (r.length + 1))) 725 17 (nI r.length)) T G 1 := hh.f17.f17.f17
    have bu : bal (up2 (up2 (up2 s 725 17 (nI (r.length + 1 + 1))) 725 17 (nI (r.length + 1))) 725 17 (nI r.length)) r = bal s r := by rw [bal.f17 hh.f17.f17 hsr.f17.f17, bal.f17 hh.f17 hsr.f17, bal.f17 hh hsr]
    have eu : hx T G 1 s (up2 (up2 (up2 s 725 17 (nI (r.length + 1 + 1))) 725 17 (nI (r.length + 1))) 725 17 (nI r.length)) := (hx_up.tr hx_up).tr hx_up
    refine (fs_newgoal (k := k) (ng := ng) (nt := nt) (bad := bad) (nT := nT) (x := a) (y := b) (d := d) (r := r) hw1 hw2 hn hnG hu hT hG (up2_same _ _ _ _) (by omega) hm3 hsr.f17.f17.f17 (hk.trans (((k30.upF (by simp)).upF (by simp)).upF (by simp))) (fun q => absurd q n2) (fun q => ⟨p2 trivial, u2 trivial, y2 trivial⟩) (fun q => absurd q n2) (fun q => ?_) (stM_ext (Nat.le_refl _) eu.1 hMr) (mTab_ext eu (Nat.le_refl _) (Nat.le_refl _) htab) ⟨kk, hc, hkk, Or.inr (Or.inl ⟨k3, eu.t (Nat.le_refl _) da, eu.t (Nat.le_refl _) db, eu.t (Nat.le_refl _) dd⟩)⟩).imp ?_
    · simp only [bal, cnt, if_pos] at hb
      rw [bu]
      omega
    · rintro v t ⟨m, rfl, h9⟩
      exact ⟨m, rfl, h9.imp (fun v t q => ⟨q.1, rfl, q.2⟩)⟩
  · -- two goals
    have n2 : two2 c := by rw [hc]; exact two2_y k3
    have e : gAw c = [103, 103] := by rw [hc]; rcases k3 with rfl | rfl <;> decide
    have c65 : c ≠ 65 := by rw [hc]; rcases k3 with rfl | rfl <;> decide
    have c42 : c ≠ 42 := by rw [hc]; rcases k3 with rfl | rfl <;> decide
    have c33 : c ≠ 33 := by rw [hc]; rcases k3 with rfl | rfl <;> decide
    have e2 : ([103, 103] ++ l).filter (fun w => !decide (w = 41)) = 103 :: 103 :: l.filter (fun w => !decide (w = 41)) := by simp
    rw [e, e2] at hm
    obtain ⟨a, q1, rfl, hm1⟩ := its_cons hm
    obtain ⟨b, r, rfl, hm2⟩ := its_cons hm1
    obtain ⟨p1, _, p3, u1, _, u3, hsr⟩ := hs
    obtain ⟨_, da, _, db, hMr⟩ := hM
    have y1 : (103 : Int32) ≠ 116 := by decide
    have p3 := p3 y1
    have u3 := u3 y1
    simp only [List.length_cons] at h17 hl p1 u1 da db p3 u3
    refine w_115 s c ⟨fun _ => ⟨fun _ => ms_119 s c 97 102 (fun h => absurd h v1) (fun _ => ⟨_, rfl, fun _ => ms_119 s c 48 57 (fun h => absurd h v2) (fun _ => ⟨_, rfl, fun _ => ⟨fun _ => ⟨fun q => absurd q c42, fun _ => ⟨fun _ => ?_, fun q => absurd c33 q⟩⟩, fun q => absurd c110 q⟩, fun q => absurd rfl q⟩), fun q => absurd rfl q⟩), fun q => absurd c40 q⟩, fun q => absurd c41 q⟩
    refine ms_116 h17 (by omega) p1 ⟨_, rfl, w_115_118 _ c _ ⟨fun q => absurd q c42, fun _ => ⟨fun _ => ?_, fun q => absurd c33 q⟩⟩⟩
    refine ms_116 (up2_same _ _ _ _) (by omega) (show up2 s 725 17 (nI (r.length + 1)) 738 r.length = nI b by rw [up2_nk _ _ _ (by decide)]; exact u1) ⟨_, rfl, fun _ => ?_, fun q => absurd c65 q⟩
    have hu : hp (up2 (up2 s 725 17 (nI (r.length + 1))) 725 17 (nI r.length)) T G 1 := hh.f17.f17
    have bu : bal (up2 (up2 s 725 17 (nI (r.length + 1))) 725 17 (nI r.length)) r = bal s r := by rw [bal.f17 hh.f17 hsr.f17, bal.f17 hh hsr]
    have eu : hx T G 1 s (up2 (up2 s 725 17 (nI (r.length + 1))) 725 17 (nI r.length)) := hx_up.tr hx_up
    refine (fs_newgoal (k := k) (ng := ng) (nt := nt) (bad := bad) (nT := nT) (x := a) (y := b) (d := 0) (r := r) hw1 hw2 hn hnG hu hT hG (up2_same _ _ _ _) (by omega) hm2 hsr.f17.f17 (hk.trans ((k30.upF (by simp)).upF (by simp))) (fun q => ⟨p3, u3⟩) (fun q => absurd n2 q) (fun q => ?_) (fun q => absurd n2 q) (stM_ext (Nat.le_refl _) eu.1 hMr) (mTab_ext eu (Nat.le_refl _) (Nat.le_refl _) htab) ⟨kk, hc, hkk, Or.inr (Or.inr (Or.inl ⟨k3, da, db⟩))⟩).imp ?_
    · simp only [bal, cnt, if_neg y1] at hb
      rw [bu, nh.f17 hh.f17 p3, nh.f17 hh.f17 u3, nh.f17 hh p3, nh.f17 hh u3]
      omega
    · rintro v t ⟨m, rfl, h9⟩
      exact ⟨m, rfl, h9.imp (fun v t q => ⟨q.1, rfl, q.2⟩)⟩
  · -- none
    have n2 : ¬ two2 c := by rw [hc]; exact two2_nI (by omega)
    have e : gAw c = [] := by rw [hc]; rcases k3 with rfl | rfl <;> decide
    have c65 : c ≠ 65 := by rw [hc]; rcases k3 with rfl | rfl <;> decide
    rw [e, List.nil_append] at hm
    have r0 : EvS rSkel 1 120 [.inr (.inr (some 725)), .inl c, .inl 0, .inl 0, .inl 0] s (fun v t => ∃ m, v = some (.inl m) ∧ EvS rSkel 1 118 [.inr (.inr (some 725)), .inl m] t (fun v t => v = none ∧ (none : Option rv) = none ∧ BJ tb s0 t n k (w :: l, ng, nt, bad) nG nT (.inr ng :: M2))) := by
      refine (fs_newgoal (k := k) (ng := ng) (nt := nt) (bad := bad) (nT := nT) (x := 0) (y := 0) (d := 0) (r := its) hw1 hw2 hn hnG hh hT hG h17 (by omega) hm hs hk (fun q => absurd q n2) (fun _ => by omega) (fun q => absurd q n2) (fun _ => hb) hM htab ⟨kk, hc, hkk, Or.inr (Or.inr (Or.inr k3))⟩).imp ?_
      rintro v t ⟨m, rfl, h9⟩
      exact ⟨m, rfl, h9.imp (fun v t q => ⟨q.1, rfl, q.2⟩)⟩
    refine w_115 s c ⟨fun _ => ⟨fun _ => ms_119 s c 97 102 (fun h => absurd h v1) (fun _ => ⟨_, rfl, fun _ => ms_119 s c 48 57 (fun h => absurd h v2) (fun _ => ⟨_, rfl, fun _ => ⟨fun _ => ⟨fun c42 => ?_, fun c42 => ⟨fun c33 => ?_, fun c33 => ?_⟩⟩, fun q => absurd c110 q⟩, fun q => absurd rfl q⟩), fun q => absurd rfl q⟩), fun q => absurd c40 q⟩, fun q => absurd c41 q⟩
    · exact w_115_118 s c 0 ⟨fun _ => ⟨fun _ => r0, fun q => absurd (by rw [c42]; decide) q⟩, fun q => absurd c42 q⟩
    · rcases k3 with rfl | rfl
      · exact absurd hc c42
      · exact absurd hc c33
    · have e33 := Classical.not_not.mp c33
      exact w_115_118 s c 0 ⟨fun q => absurd q c42, fun _ => ⟨fun q => absurd e33 q, fun _ => ⟨fun _ => r0, fun q => absurd (by rw [e33]; decide) q⟩⟩⟩
end SIGN
