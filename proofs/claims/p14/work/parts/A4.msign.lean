/-! THE REFERENCE: a sign is built -/
theorem its_cons {its : List (Int32 × Nat)} {x : Int32} {L : List Int32} (h : its.map (fun x => x.1) = x :: L) : ∃ i r, its = (x, i) :: r ∧ r.map (fun x => x.1) = L := by
  cases its with
  | nil => cases h
  | cons p r =>
    simp only [List.map_cons, List.cons.injEq] at h
    exact ⟨p.2, r, by rw [← h.1], h.2⟩
theorem stk.f17 {s : rSg} {T G : Nat} {x : Int32} {r : List (Int32 × Nat)} (h : stk s T G r) : stk (up2 s 725 17 x) T G r := stk_ext (Nat.le_refl _) (Nat.le_refl _) (fun j _ => by rw [up2_nk _ _ _ (by decide)]) h
theorem bal.f17 {s : rSg} {T G L : Nat} {x : Int32} {r : List (Int32 × Nat)} (hh : hp s T G L) (h : stk s T G r) : bal (up2 s 725 17 x) r = bal s r := bal_ext hh.2.2.2 (by have := hh.1; omega) (hx_up (T := T) (G := G) (L := 0)).2.1 h
theorem nh.f17 {s : rSg} {T G L : Nat} {x : Int32} {g : Nat} (hh : hp s T G L) (h : g < G) : nh (up2 s 725 17 x) g = nh s g := nh_ext hh.2.2.2 (by have := hh.1; omega) (hx_up (T := T) (G := G) (L := 0)).2.1 h
section SIGN
variable {s0 s : rSg} {n k : Nat} {w c : Int32} {l : List Int32} {ng nt : Nat} {bad : Option Nat} {S2 : rdS} {nG nT : Nat}
/-- a term's sign -/
theorem ms_115t (hn : n ≤ 96) (hnT : nT ≤ 96) (hk1 : k + 1 ≤ n) (hc : tSg c) {b2 : Option Nat} (hB : BI s0 s n (k + 1) (tAw c ++ l, ng, nt + 1, b2) nG nT) : EvS rSkel 2 115 [.inr (.inr (some 725)), .inl c] s (fun v t => v = none ∧ BI s0 t n k (116 :: l, ng, nt, bad) nG nT) := by
  obtain ⟨T, G, its, hh, hT, hG, h17, hl, hm, hs, hb, hk⟩ := hB
  simp only at hT hG hm
  have b1 := hh.1
  have fl : (116 :: l).filter (fun w => !decide (w = 41)) = 116 :: l.filter (fun w => !decide (w = 41)) := List.filter_cons_of_pos (by decide)
  by_cases c40 : c = 40
  · subst c40
    have e : (tAw 40 ++ l).filter (fun w => !decide (w = 41)) = 116 :: 116 :: l.filter (fun w => !decide (w = 41)) := by
      unfold tAw
      rw [if_pos rfl]
      simp
    rw [e] at hm
    obtain ⟨a, r1, rfl, hm1⟩ := its_cons hm
    obtain ⟨b, r, rfl, hm2⟩ := its_cons hm1
    obtain ⟨p1, p2, _, q1, q2, _, hsr⟩ := hs
    have ha := p2 rfl
    have hbb := q2 rfl
    simp only [List.length_cons] at h17 hl p1
    refine w_115 s 40 ⟨fun _ => ⟨fun q => absurd rfl q, fun _ => ?_⟩, fun q => absurd (by decide) q⟩
    refine ms_116 h17 (by omega) p1 ⟨_, rfl, ms_116 (up2_same _ _ _ _) (by omega) (show up2 s 725 17 (nI (r.length + 1)) 738 r.length = nI b by rw [up2_nk _ _ _ (by decide)]; exact q1) ⟨_, rfl, ?_⟩⟩
    have hu : hp (up2 (up2 s 725 17 (nI (r.length + 1))) 725 17 (nI r.length)) T G 1 := hh.f17.f17
    refine (ms_117 hu (by omega) ha hbb).imp ?_
    rintro _ t ⟨rfl, w1, w2, w3⟩
    have hsu : stk (up2 (up2 s 725 17 (nI (r.length + 1))) 725 17 (nI r.length)) T G r := hsr.f17.f17
    have bu : bal (up2 (up2 s 725 17 (nI (r.length + 1))) 725 17 (nI r.length)) r = bal s r := by rw [bal.f17 hh.f17 hsr.f17, bal.f17 hh hsr]
    refine ⟨_, rfl, (ms_118 (S := (116 :: l, ng, nt, bad)) (w := 116) (r := r) (k := k) (nT := nT) (i := T) (s0 := s0) hn w1 (by simp only; omega) hG (by rw [w3.2 17 (by simp), up2_same]) (by omega) (by simp only; rw [fl, hm2]) (stk_ext (by omega) (Nat.le_refl _) (fun j _ => by rw [w3.1 738 (by decide) (by simp)]) hsu) (fun _ => by omega) (fun q => absurd rfl q) ?_ ((hk.trans (((mK.rfl' (ks := [727, 728, 729, 730, 731, 732, 738]) (js := [10, 11, 17])).upF (by simp)).upF (by simp))).trans (w3.mono (by simp) (by simp)))).imp (fun v t h => ⟨h.1, rfl, h.2⟩)⟩
    rw [if_pos rfl, if_pos rfl, bal_ext hu.2.2.2 (by omega) w2.2.1 hsu, bu]
    simp only [bal, cnt, if_pos] at hb
    omega
  · have e : tAw c = [] := by unfold tAw; rw [if_neg c40]
    rw [e, List.nil_append] at hm
    have go : ∀ i, i < 75 → EvS rSkel 1 118 [.inr (.inr (some 725)), .inl (nI i)] s (fun v t => v = none ∧ (none : Option rv) = none ∧ BI s0 t n k (116 :: l, ng, nt, bad) nG nT) := fun i hi => by
      refine (ms_118 (S := (116 :: l, ng, nt, bad)) (w := 116) (r := its) hn hh (by simp only; omega) hG h17 (by omega) (by simp only; rw [fl, hm]) hs (fun _ => by omega) (fun q => absurd rfl q) ?_ hk).imp (fun v t h => ⟨h.1, rfl, h.2⟩)
      rw [if_pos rfl, if_pos rfl]
      omega
    have c41 : c ≠ 41 := by
      rintro rfl
      exact absurd hc (by unfold tSg; decide)
    refine w_115 s c ⟨fun _ => ⟨fun _ => ms_119 s c 97 102 (fun h => ⟨_, rfl, fun q => absurd q (by decide), fun _ => ?_⟩) (fun h1 => ⟨_, rfl, fun _ => ms_119 s c 48 57 (fun h => ⟨_, rfl, fun q => absurd q (by decide), fun _ => ?_⟩) (fun h2 => ⟨_, rfl, fun _ => ⟨fun q => ?_, fun q => go 74 (by decide)⟩, fun q => absurd rfl q⟩), fun q => absurd rfl q⟩), fun q => absurd c40 q⟩, fun q => absurd c41 q⟩
    · have hn0 : ¬ c < 0 := fun q => absurd (Int32.le_trans h.1 (Int32.le_of_lt q)) (by decide)
      obtain ⟨m, hm9, rfl⟩ := nn_of hn0
      have m1 : 97 ≤ m := (nI_leI (a := 97) (by decide) hm9).mp h.1
      have m2 : m ≤ 102 := (nI_leI hm9 (b := 102) (by decide)).mp h.2
      rw [show nI m - 97 = nI (m - 97) from pk_sub (a := m) (b := 97) (by omega)]
      exact go _ (by omega)
    · have hn0 : ¬ c < 0 := fun q => absurd (Int32.le_trans h.1 (Int32.le_of_lt q)) (by decide)
      obtain ⟨m, hm9, rfl⟩ := nn_of hn0
      have m1 : 48 ≤ m := (nI_leI (a := 48) (by decide) hm9).mp h.1
      have m2 : m ≤ 57 := (nI_leI hm9 (b := 57) (by decide)).mp h.2
      rw [show 64 + nI m - 48 = nI (64 + m - 48) from by rw [show (64 : Int32) = nI 64 from rfl, nI_add]; exact pk_sub (a := 64 + m) (b := 48) (by omega)]
      exact go _ (by omega)
    · exact absurd (by rcases hc with h | h | h | h
                       · exact absurd h h1
                       · exact absurd h h2
                       · exact h
                       · exact absurd h c40) q
/-- a goal's sign -/
theorem ms_115g (hn : n ≤ 96) (hnG : nG ≤ 96) (hk1 : k + 1 ≤ n) (hw1 : w ≠ 116) (hw2 : w ≠ 41) (hc : gSg c) {b2 : Option Nat} (hB : BI s0 s n (k + 1) (gAw c ++ l, ng + 1, nt, b2) nG nT) : EvS rSkel 2 115 [.inr (.inr (some 725)), .inl c] s (fun v t => v = none ∧ BI s0 t n k (w :: l, ng, nt, bad) nG nT) := by
  obtain ⟨T, G, its, hh, hT, hG, h17, hl, hm, hs, hb, hk⟩ := hB
  simp only at hT hG hm
  have b1 := hh.1
  -- none, two terms, three terms, two goals
  have r0 : gAw c = [] → ¬ two2 c → ∀ {P : Option rv → rSg → Prop}, (∀ t, BI s0 t n k (w :: l, ng, nt, bad) nG nT → P none t) → EvS rSkel 1 120 [.inr (.inr (some 725)), .inl c, .inl 0, .inl 0, .inl 0] s (fun v t => ∃ m, v = some (.inl m) ∧ EvS rSkel 1 118 [.inr (.inr (some 725)), .inl m] t (fun v t => v = none ∧ P none t)) := by
    intro e h2 P hP
    rw [e, List.nil_append] at hm
    refine (ms_newgoal (k := k) (ng := ng) (nt := nt) (bad := bad) (nT := nT) (x := 0) (y := 0) (d := 0) (r := its) hw1 hw2 hn hnG hh hT hG h17 (by omega) hm hs hk (fun q => absurd q h2) (fun _ => by omega) (fun q => absurd q h2) (fun _ => hb)).imp ?_
    rintro v t ⟨m, rfl, h9⟩
    exact ⟨m, rfl, h9.imp (fun v t q => ⟨q.1, hP t q.2⟩)⟩
  have r2 : ∀ x : Int32, gAw c = [x, x] → x ≠ 41 → (two2 c → x ≠ 116) → (¬ two2 c → x = 116) → ∀ {P : Option rv → rSg → Prop}, (∀ t, BI s0 t n k (w :: l, ng, nt, bad) nG nT → P none t) → EvS rSkel 1 116 [.inr (.inr (some 725))] s (fun v t => ∃ a, v = some (.inl a) ∧ EvS rSkel 1 116 [.inr (.inr (some 725))] t (fun v t => ∃ b, v = some (.inl b) ∧ EvS rSkel 1 120 [.inr (.inr (some 725)), .inl c, .inl a, .inl b, .inl 0] t (fun v t => ∃ m, v = some (.inl m) ∧ EvS rSkel 1 118 [.inr (.inr (some 725)), .inl m] t (fun v t => v = none ∧ P none t)))) := by
    intro x e x41 g1 g2 P hP
    have e2 : ([x, x] ++ l).filter (fun w => !decide (w = 41)) = x :: x :: l.filter (fun w => !decide (w = 41)) := by
      rw [List.cons_append, List.cons_append, List.nil_append, List.filter_cons_of_pos (by simpa using x41), List.filter_cons_of_pos (by simpa using x41)]
    rw [e, e2] at hm
    obtain ⟨a, q1, rfl, hm1⟩ := its_cons hm
    obtain ⟨b, r, rfl, hm2⟩ := its_cons hm1
    obtain ⟨p1, p2, p3, u1, u2, u3, hsr⟩ := hs
    simp only [List.length_cons] at h17 hl p1 p2 p3 u1 u2 u3
    refine ms_116 h17 (by omega) p1 ⟨_, rfl, ms_116 (up2_same _ _ _ _) (by omega) (show up2 s 725 17 (nI (r.length + 1)) 738 r.length = nI b by rw [up2_nk _ _ _ (by decide)]; exact u1) ⟨_, rfl, ?_⟩⟩
    have hu : hp (up2 (up2 s 725 17 (nI (r.length + 1))) 725 17 (nI r.length)) T G 1 := hh.f17.f17
    have bu : bal (up2 (up2 s 725 17 (nI (r.length + 1))) 725 17 (nI r.length)) r = bal s r := by rw [bal.f17 hh.f17 hsr.f17, bal.f17 hh hsr]
    refine (ms_newgoal (k := k) (ng := ng) (nt := nt) (bad := bad) (nT := nT) (x := a) (y := b) (d := 0) (r := r) hw1 hw2 hn hnG hu hT hG (up2_same _ _ _ _) (by omega) hm2 hsr.f17.f17 (hk.trans (((mK.rfl' (ks := [727, 728, 729, 730, 731, 732, 738]) (js := [10, 11, 17])).upF (by simp)).upF (by simp))) (fun q => ⟨p3 (g1 q), u3 (g1 q)⟩) (fun q => ⟨p2 (g2 q), u2 (g2 q), by omega⟩) (fun q => ?_) (fun q => ?_)).imp ?_
    · have y1 := g1 q
      simp only [bal, cnt, if_neg y1] at hb
      rw [bu, nh.f17 hh.f17 (p3 y1), nh.f17 hh.f17 (u3 y1), nh.f17 hh (p3 y1), nh.f17 hh (u3 y1)]
      omega
    · have y1 := g2 q
      simp only [bal, cnt, if_pos y1] at hb
      rw [bu]
      omega
    · rintro v t ⟨m, rfl, h9⟩
      exact ⟨m, rfl, h9.imp (fun v t q => ⟨q.1, hP t q.2⟩)⟩
  have c41 : c ≠ 41 := by rcases hc with rfl | rfl | rfl | rfl | rfl | rfl | rfl | rfl <;> decide
  have c40 : c ≠ 40 := by rcases hc with rfl | rfl | rfl | rfl | rfl | rfl | rfl | rfl <;> decide
  have v1 : ¬ (97 ≤ c ∧ c ≤ 102) := by rcases hc with rfl | rfl | rfl | rfl | rfl | rfl | rfl | rfl <;> decide
  have v2 : ¬ (48 ≤ c ∧ c ≤ 57) := by rcases hc with rfl | rfl | rfl | rfl | rfl | rfl | rfl | rfl <;> decide
  have c110 : c ≠ 110 := by rcases hc with rfl | rfl | rfl | rfl | rfl | rfl | rfl | rfl <;> decide
  refine w_115 s c ⟨fun _ => ⟨fun _ => ms_119 s c 97 102 (fun h => absurd h v1) (fun _ => ⟨_, rfl, fun _ => ms_119 s c 48 57 (fun h => absurd h v2) (fun _ => ⟨_, rfl, fun _ => ⟨fun _ => ⟨fun c42 => ?_, fun c42 => ⟨fun c33 => ?_, fun c33 => ?_⟩⟩, fun q => absurd c110 q⟩, fun q => absurd rfl q⟩), fun q => absurd rfl q⟩), fun q => absurd c40 q⟩, fun q => absurd c41 q⟩
  · refine w_115_118 s c 0 ⟨fun _ => ⟨fun _ => ?_, fun q => absurd (by rw [c42]; decide) q⟩, fun q => absurd c42 q⟩
    exact r0 (by rw [c42]; decide) (by rw [c42]; unfold two2; decide) (P := fun v t => v = none ∧ BI s0 t n k (w :: l, ng, nt, bad) nG nT) (fun t ht => ⟨rfl, ht⟩)
  · by_cases c65 : c = 65
    · have e : gAw c = [116, 116, 116] := by rw [c65]; decide
      have e2 : ([116, 116, 116] ++ l).filter (fun w => !decide (w = 41)) = 116 :: 116 :: 116 :: l.filter (fun w => !decide (w = 41)) := by simp
      rw [e, e2] at hm
      obtain ⟨a, q1, rfl, hm1⟩ := its_cons hm
      obtain ⟨b, q2, rfl, hm2⟩ := its_cons hm1
      obtain ⟨d, r, rfl, hm3⟩ := its_cons hm2
      obtain ⟨p1, p2, _, u1, u2, _, y1, y2, _, hsr⟩ := hs
      simp only [List.length_cons] at h17 hl p1 p2 u1 u2 y1 y2
      have n2 : ¬ two2 c := by rw [c65]; unfold two2; decide
      refine ms_116 h17 (by omega) p1 ⟨_, rfl, w_115_118 _ c _ ⟨fun q => absurd q c42, fun _ => ⟨fun _ => ?_, fun q => absurd c33 q⟩⟩⟩
      refine ms_116 (up2_same _ _ _ _) (by omega) (show up2 s 725 17 (nI (r.length + 1 + 1)) 738 (r.length + 1) = nI b by rw [up2_nk _ _ _ (by decide)]; exact u1) ⟨_, rfl, fun q => absurd c65 q, fun _ => ?_⟩
      refine ms_116 (up2_same _ _ _ _) (by omega) (show up2 (up2 s 725 17 (nI (r.length + 1 + 1))) 725 17 (nI (r.length + 1)) 738 r.length = nI d by rw [up2_nk _ _ _ (by decide), up2_nk _ _ _ (by decide)]; exact y1) ⟨_, rfl, ?_⟩
      have hu : hp (up2 (up2 (up2 s 725 17 (nI (r.length + 1 + 1))) 725 17 (nI (r.length + 1))) 725 17 (nI r.length)) T G 1 := hh.f17.f17.f17
      have bu : bal (up2 (up2 (up2 s 725 17 (nI (r.length + 1 + 1))) 725 17 (nI (r.length + 1))) 725 17 (nI r.length)) r = bal s r := by rw [bal.f17 hh.f17.f17 hsr.f17.f17, bal.f17 hh.f17 hsr.f17, bal.f17 hh hsr]
      refine (ms_newgoal (k := k) (ng := ng) (nt := nt) (bad := bad) (nT := nT) (x := a) (y := b) (d := d) (r := r) hw1 hw2 hn hnG hu hT hG (up2_same _ _ _ _) (by omega) hm3 hsr.f17.f17.f17 (hk.trans ((((mK.rfl' (ks := [727, 728, 729, 730, 731, 732, 738]) (js := [10, 11, 17])).upF (by simp)).upF (by simp)).upF (by simp))) (fun q => absurd q n2) (fun q => ⟨p2 trivial, u2 trivial, y2 trivial⟩) (fun q => absurd q n2) (fun q => ?_)).imp ?_
      · simp only [bal, cnt, if_pos] at hb
        rw [bu]
        omega
      · rintro v t ⟨m, rfl, h9⟩
        exact ⟨m, rfl, h9.imp (fun v t q => ⟨q.1, rfl, q.2⟩)⟩
    · have key : ∃ x : Int32, gAw c = [x, x] ∧ x ≠ 41 ∧ (two2 c → x ≠ 116) ∧ (¬ two2 c → x = 116) := by
        rcases hc with rfl | rfl | rfl | rfl | rfl | rfl | rfl | rfl
        · exact ⟨116, by decide, by decide, fun q => absurd q (by unfold two2; decide), fun _ => rfl⟩
        · exact ⟨116, by decide, by decide, fun q => absurd q (by unfold two2; decide), fun _ => rfl⟩
        · exact ⟨103, by decide, by decide, fun _ => by decide, fun q => absurd (by unfold two2; decide) q⟩
        · exact ⟨103, by decide, by decide, fun _ => by decide, fun q => absurd (by unfold two2; decide) q⟩
        · exact absurd rfl c65
        · exact ⟨116, by decide, by decide, fun q => absurd q (by unfold two2; decide), fun _ => rfl⟩
        · exact absurd rfl c42
        · exact absurd rfl c33
      obtain ⟨x, x1, x2, x3, x4⟩ := key
      refine (r2 x x1 x2 x3 x4 (P := fun v t => v = none ∧ BI s0 t n k (w :: l, ng, nt, bad) nG nT) (fun t ht => ⟨rfl, ht⟩)).imp ?_
      rintro _ t ⟨a, rfl, h9⟩
      exact ⟨a, rfl, w_115_118 t c a ⟨fun q => absurd q c42, fun _ => ⟨fun _ => h9.imp (fun v t q => by
        obtain ⟨b, e, q⟩ := q
        exact ⟨b, e, fun _ => q, fun z => absurd c65 z⟩), fun q => absurd c33 q⟩⟩⟩
  · have e33 := Classical.not_not.mp c33
    refine w_115_118 s c 0 ⟨fun q => absurd q c42, fun _ => ⟨fun q => absurd e33 q, fun _ => ⟨fun _ => ?_, fun q => absurd (by rw [e33]; decide) q⟩⟩⟩
    exact r0 (by rw [e33]; decide) (by rw [e33]; unfold two2; decide) (P := fun v t => v = none ∧ BI s0 t n k (w :: l, ng, nt, bad) nG nT) (fun t ht => ⟨rfl, ht⟩)
theorem ms_115 (hn : n ≤ 96) (hnG : nG ≤ 96) (hnT : nT ≤ 96) (hk1 : k + 1 ≤ n) (hR : RStep k c w (l, ng, nt, bad) S2) (hB : BI s0 s n (k + 1) S2 nG nT) : EvS rSkel 2 115 [.inr (.inr (some 725)), .inl c] s (fun v t => v = none ∧ BI s0 t n k (w :: l, ng, nt, bad) nG nT) := by
  rcases hR with ⟨rfl, rfl, rfl⟩ | ⟨_, rfl, hc, rfl⟩ | ⟨h1, h2, hc, rfl⟩
  · obtain ⟨T, G, its, hh, hT, hG, h17, hl, hm, hs, hb, hk⟩ := hB
    refine w_115 s 41 ⟨fun q => absurd rfl q, fun _ => ⟨rfl, T, G, its, hh, hT, hG, h17, by omega, ?_, hs, hb, hk⟩⟩
    simp only
    rw [hm, List.filter_cons_of_neg (by decide)]
  · exact ms_115t hn hnT hk1 hc hB
  · exact ms_115g hn hnG hk1 h2 h1 hc hB
end SIGN
