/-! WHERE THINGS LIE in the shape -/
theorem isSeaA_app {Sk T : List rSk} {b : Nat} (h : isSeaA Sk b) : isSeaA (Sk ++ T) b := by
  obtain ⟨⟨h0, a1, a2, a3, a4, ⟨c0, c1, c2, c3, c4⟩, ⟨e0, e1, e2, e3⟩, ⟨f0, f1, f2, f3⟩⟩, p, q⟩ := h
  exact ⟨⟨h0, at_l a1, at_l a2, at_l a3, at_l a4, ⟨c0, at_l c1, at_l c2, at_l c3, at_l c4⟩, ⟨e0, at_l e1, at_l e2, at_l e3⟩, ⟨f0, at_l f1, at_l f2, at_l f3⟩⟩, fun i hi => ⟨(p i hi).1, at_l (p i hi).2.1, at_l (p i hi).2.2.1, at_l (p i hi).2.2.2⟩, fun i hi => ⟨(q i hi).1, at_l (q i hi).2.1, at_l (q i hi).2.2.1, at_l (q i hi).2.2.2⟩⟩
theorem seaA6 : isSeaA rSkel 6 := by
  have h := isSeaA_mk (Sk := (.inr (.inr (8, [some (some 6), some (some 230), some (some 454), some (some 1), some (some 678), some (some 682), some (some 686), some (some 687), some (some 689), some (some 691), some (some 692), some (some 693), some (some 724), none])) : rSk) :: (([] : List rSk) ++ unSk 1)) (b := 6) (by simp [seSk_len, unSk_len]) (by decide) rfl
  have e : rSkel = (((.inr (.inr (8, [some (some 6), some (some 230), some (some 454), some (some 1), some (some 678), some (some 682), some (some 686), some (some 687), some (some 689), some (some 691), some (some 692), some (some 693), some (some 724), none])) : rSk) :: (([] : List rSk) ++ unSk 1)) ++ seSk 6) ++ (seSk 230 ++ (seSk 454 ++ (rdSk 678 231 ++ (teSk 682 ++ ([.inr (.inr (0, [none]))] ++ ([.inr (.inr (2, [some (some 688), none])), .inl 96] ++ ([.inr (.inr (2, [some (some 690), none])), .inl 32] ++ ([.inl 7] ++ ([.inl 128] ++ (([.inr (.inl (2, 30, fun j => if j < 30 then some (693 + 1 + j) else none))] ++ List.replicate 30 (.inl 200)) ++ ([.inl 30] ++ mdSk 725))))))))))) := by
    rw [← rSkel_eq, clSk, clR]
    simp only [List.append_assoc, List.cons_append]
  rw [e]
  exact isSeaA_app h
theorem sea6 : isSea 6 := seaA6.1
theorem seaA230 : isSeaA rSkel 230 := by
  have h := isSeaA_mk (Sk := (.inr (.inr (8, [some (some 6), some (some 230), some (some 454), some (some 1), some (some 678), some (some 682), some (some 686), some (some 687), some (some 689), some (some 691), some (some 692), some (some 693), some (some 724), none])) : rSk) :: ((([] : List rSk) ++ unSk 1) ++ seSk 6)) (b := 230) (by simp [seSk_len, unSk_len]) (by decide) rfl
  have e : rSkel = (((.inr (.inr (8, [some (some 6), some (some 230), some (some 454), some (some 1), some (some 678), some (some 682), some (some 686), some (some 687), some (some 689), some (some 691), some (some 692), some (some 693), some (some 724), none])) : rSk) :: ((([] : List rSk) ++ unSk 1) ++ seSk 6)) ++ seSk 230) ++ (seSk 454 ++ (rdSk 678 231 ++ (teSk 682 ++ ([.inr (.inr (0, [none]))] ++ ([.inr (.inr (2, [some (some 688), none])), .inl 96] ++ ([.inr (.inr (2, [some (some 690), none])), .inl 32] ++ ([.inl 7] ++ ([.inl 128] ++ (([.inr (.inl (2, 30, fun j => if j < 30 then some (693 + 1 + j) else none))] ++ List.replicate 30 (.inl 200)) ++ ([.inl 30] ++ mdSk 725)))))))))) := by
    rw [← rSkel_eq, clSk, clR]
    simp only [List.append_assoc, List.cons_append]
  rw [e]
  exact isSeaA_app h
theorem sea230 : isSea 230 := seaA230.1
theorem seaA454 : isSeaA rSkel 454 := by
  have h := isSeaA_mk (Sk := (.inr (.inr (8, [some (some 6), some (some 230), some (some 454), some (some 1), some (some 678), some (some 682), some (some 686), some (some 687), some (some 689), some (some 691), some (some 692), some (some 693), some (some 724), none])) : rSk) :: (((([] : List rSk) ++ unSk 1) ++ seSk 6) ++ seSk 230)) (b := 454) (by simp [seSk_len, unSk_len]) (by decide) rfl
  have e : rSkel = (((.inr (.inr (8, [some (some 6), some (some 230), some (some 454), some (some 1), some (some 678), some (some 682), some (some 686), some (some 687), some (some 689), some (some 691), some (some 692), some (some 693), some (some 724), none])) : rSk) :: (((([] : List rSk) ++ unSk 1) ++ seSk 6) ++ seSk 230)) ++ seSk 454) ++ (rdSk 678 231 ++ (teSk 682 ++ ([.inr (.inr (0, [none]))] ++ ([.inr (.inr (2, [some (some 688), none])), .inl 96] ++ ([.inr (.inr (2, [some (some 690), none])), .inl 32] ++ ([.inl 7] ++ ([.inl 128] ++ (([.inr (.inl (2, 30, fun j => if j < 30 then some (693 + 1 + j) else none))] ++ List.replicate 30 (.inl 200)) ++ ([.inl 30] ++ mdSk 725))))))))) := by
    rw [← rSkel_eq, clSk, clR]
    simp only [List.append_assoc, List.cons_append]
  rw [e]
  exact isSeaA_app h
theorem sea454 : isSea 454 := seaA454.1
/-- what is known of new objects, by name -/
theorem md_all {s : rSg} (hm : mdF s) : s 725 39 = 0 ∧ s 725 40 = 1 ∧ s 725 48 = 0 ∧ s 725 58 = 0 ∧ s 725 21 = 0 ∧ s 746 0 = 0 ∧ s 747 0 = 1 ∧ s 748 0 = 0 ∧ s 749 0 = 0 ∧ s 750 0 = 0 ∧ s 751 0 = 1 := ⟨hm.2.1, hm.2.2.1, hm.2.2.2.1, hm.2.2.2.2.1, hm.2.2.2.2.2.1, hm.2.2.2.2.2.2.1, hm.2.2.2.2.2.2.2.1, hm.2.2.2.2.2.2.2.2.1, hm.2.2.2.2.2.2.2.2.2.1, hm.2.2.2.2.2.2.2.2.2.2.1, hm.2.2.2.2.2.2.2.2.2.2.2.1⟩
theorem se_all {s : rSg} {b : Nat} (h : seF s b) : s b 7 = 0 ∧ s b 8 = 1 ∧ s b 9 = 0 ∧ s b 10 = 0 ∧ s b 11 = 0 ∧ s b 12 = 1 ∧ s (b + 6) 2 = 6 ∧ s (b + 6) 3 = 1 ∧ s (b + 6) 4 = 0 ∧ s (b + 8) 0 = 0 := h.2.2.2.2.2
theorem o_letter {s : rSg} (hc : clF s) (hm : mdF s) (a : Int32) : opI s 71 126 [.inl a] := by
  by_cases h0 : 0 ≤ a
  · by_cases h1 : 255 < a
    · refine op2 hm (d := 2) (d2 := 2) (r := -6) (by decide) (by decide) (w_71 s a ⟨fun _ => ⟨fun _ => c_ref fr.rfl' (-6), fun q => absurd h1 q⟩, fun q => absurd h0 q⟩) (fun s2 h => w_126 s2 a ((ev_m_bound 0 s2 a 0 255).imp ?_))
      rintro _ _ ⟨rfl, rfl⟩
      rw [if_pos h0, if_neg (Int32.not_le.mpr h1)]
      exact ⟨_, rfl, fun _ => ⟨fun q => absurd q (by decide), fun _ => m_ref (by decide) _⟩, fun q => absurd (by decide) q⟩
    · refine op2 hm (d := 2) (d2 := 2) (r := 1) (by decide) (by decide) (w_71 s a ⟨fun _ => ⟨fun q => absurd q h1, fun _ => ?_⟩, fun q => absurd h0 q⟩) (fun s2 h => w_126 s2 a ((ev_m_bound 0 s2 a 0 255).imp ?_))
      · have e := hc.2.2.2.2.2.1
        refine w_14 s 687 96 row687 ⟨fun _ => ⟨_, rfl, fun _ => c_add0 row687 (by decide) (by decide) (by decide) e a, fun q => absurd rfl q⟩, fun q => absurd (by rw [e]; decide) q⟩
      · rintro _ _ ⟨rfl, rfl⟩
        have e := (md_all h).1
        rw [if_pos h0, if_pos (Int32.not_lt.mp h1)]
        exact ⟨_, rfl, fun q => absurd rfl q, fun _ => ⟨fun _ => ⟨fun _ => ⟨by rw [e]; decide, by rw [e]; rfl⟩, fun q => absurd rfl q⟩, fun q => absurd (by rw [e]; decide) q⟩⟩
  · refine op2 hm (d := 2) (d2 := 2) (r := -4) (by decide) (by decide) (w_71 s a ⟨fun q => absurd q h0, fun _ => c_ref fr.rfl' (-4)⟩) (fun s2 h => w_126 s2 a ((ev_m_bound 0 s2 a 0 255).imp ?_))
    rintro _ _ ⟨rfl, rfl⟩
    rw [if_neg h0]
    exact ⟨_, rfl, fun _ => ⟨fun q => absurd q (by decide), fun _ => m_ref (by decide) _⟩, fun q => absurd (by decide) q⟩
theorem o_row {s : rSg} (hc : clF s) (hm : mdF s) (a : Int32) : opI s 104 197 [.inl a] := by
  by_cases h0 : 0 ≤ a
  · by_cases h1 : 127 < a
    · refine op2 hm (d := 2) (d2 := 2) (r := -6) (by decide) (by decide) (w_104 s a ⟨fun _ => ⟨fun _ => c_ref fr.rfl' (-6), fun q => absurd h1 q⟩, fun q => absurd h0 q⟩) (fun s2 h => w_197 s2 a ((ev_m_bound 0 s2 a 0 127).imp ?_))
      rintro _ _ ⟨rfl, rfl⟩
      rw [if_pos h0, if_neg (Int32.not_le.mpr h1)]
      exact ⟨_, rfl, fun _ => ⟨fun q => absurd q (by decide), fun _ => m_ref (by decide) _⟩, fun q => absurd (by decide) q⟩
    · refine op2 hm (d := 2) (d2 := 2) (r := 1) (by decide) (by decide) (w_104 s a ⟨fun _ => ⟨fun q => absurd q h1, fun _ => ?_⟩, fun q => absurd h0 q⟩) (fun s2 h => w_197 s2 a ((ev_m_bound 0 s2 a 0 127).imp ?_))
      · have e := hc.2.2.2.2.2.2.1
        refine w_14 s 689 32 row689 ⟨fun _ => ⟨_, rfl, fun _ => c_add0 row689 (by decide) (by decide) (by decide) e a, fun q => absurd rfl q⟩, fun q => absurd (by rw [e]; decide) q⟩
      · rintro _ _ ⟨rfl, rfl⟩
        have e := (md_all h).2.2.2.1
        rw [if_pos h0, if_pos (Int32.not_lt.mp h1)]
        exact ⟨_, rfl, fun q => absurd rfl q, fun _ => ⟨fun _ => ⟨fun _ => ⟨by rw [e]; decide, by rw [e]; rfl⟩, fun q => absurd rfl q⟩, fun q => absurd (by rw [e]; decide) q⟩⟩
  · refine op2 hm (d := 2) (d2 := 2) (r := -4) (by decide) (by decide) (w_104 s a ⟨fun q => absurd q h0, fun _ => c_ref fr.rfl' (-4)⟩) (fun s2 h => w_197 s2 a ((ev_m_bound 0 s2 a 0 127).imp ?_))
    rintro _ _ ⟨rfl, rfl⟩
    rw [if_neg h0]
    exact ⟨_, rfl, fun _ => ⟨fun q => absurd q (by decide), fun _ => m_ref (by decide) _⟩, fun q => absurd (by decide) q⟩
theorem o_clear {s : rSg} (hc : clF s) (hm : mdF s) : opI s 106 199 [] := by
  refine op2 hm (d := 2) (d2 := 1) (r := 0) (by decide) (by decide) (w_106 s (w_16 s 689 32 row689 ⟨_, rfl, w_18 s 689 32 row689 ⟨rfl, ?_, fr.up (by decide)⟩⟩)) (fun s2 h => w_199 s2 (by rw [(md_all h).2.2.2.1]))
  rw [hc.2.2.2.2.2.2.1]
theorem o_on {s : rSg} (hc : clF s) (hm : mdF s) : opI s 111 136 [] := by
  refine op2 hm (d := 4) (d2 := 15) (r := -3) (by decide) (by decide) (w_111 s ⟨fun q => absurd hc.2.2.2.2.2.2.2.2 q, fun _ => c_ref fr.rfl' (-3)⟩) (fun s2 h => w_136 s2 ⟨fun q => absurd (md_all h).2.2.1 q, fun _ => m_ref (by decide) _⟩)
theorem in01 {x : Int32} (h0 : ¬ x = 0) (h1 : ¬ x = 1) : (if x < 0 then (0 : Int32) else if 1 < x then 0 else 1) = 0 := by
  by_cases q : x < 0
  · rw [if_pos q]
  · obtain ⟨n, hn, rfl⟩ := nn_of q
    rw [if_neg q, if_pos]
    have a0 : n ≠ 0 := fun e => h0 (by rw [e]; rfl)
    have a1 : n ≠ 1 := fun e => h1 (by rw [e]; rfl)
    exact (nI_ltI (a := 1) (by decide) hn).mpr (by omega)
theorem scr7 : isScr 7 := ⟨by decide, sk_7, sk_8, sk_9, sk_10⟩
theorem o_turned {s : rSg} (hc : clF s) (hm : mdF s) (a : Int32) : opI s 99 190 [.inl a] := by
  have h5 : s 7 5 = 0 := hc.1.1.2.2.1
  have h8 : s 8 0 = 42 := hc.1.1.2.2.2.2.2.2
  have go : ∀ y, g_99_16 y s (fun v s2 => v = some (.inl (-3)) ∧ fr s s2) := by
    intro y
    refine w_99_16 s y (w_29 s 7 scr7 _ ?_)
    rw [h5]
    refine ⟨fun q => absurd q (by decide), fun _ => ⟨fun q => absurd q (by decide), fun _ => ⟨by decide, _, rfl, ?_⟩⟩⟩
    rw [show (0 : Int32).toNatClampNeg = 0 from rfl, h8]
    exact ⟨fun q => absurd q (by decide), fun _ => ⟨fun q => absurd q (by decide), fun _ => c_ref fr.rfl' (-3)⟩⟩
  have mgo : ∀ s2, mdF s2 → (a = 0 ∨ a = 1) → EvS rSkel 16 190 [.inr (.inr (some 725)), .inl a] s2 (fun v2 _ => v2 = some (.inl (-3))) := by
    intro s2 h ha
    refine w_190 s2 a ((ev_m_isIn 0 s2 a 0 1).imp ?_)
    rintro _ s2 ⟨rfl, rfl⟩
    have e47 : s2 725 47 = 0 := h.2.2.2.2.2.2.2.2.2.2.2.2.2.2.2.2.2.2.2.2.2.1
    have e29 : s2 729 0 = 42 := h.2.2.2.2.2.2.2.2.2.2.2.2.2.2.2.2.2.2.2.2.2.2.1
    have e1 : (if a < 0 then (0 : Int32) else if 1 < a then 0 else 1) = 1 := by rcases ha with rfl | rfl <;> decide
    rw [e1]
    refine ⟨_, rfl, fun _ => ?_, fun q => absurd (by decide) q⟩
    rw [e47, show (0 : Int32).toNatClampNeg = 0 from rfl, e29]
    exact ⟨by decide, fun q => absurd q (by decide), fun _ => ⟨by decide, fun q => absurd q (by decide), fun _ => m_ref (by decide) _⟩⟩
  by_cases h0 : a = 0
  · exact op2 hm (d := 8) (d2 := 16) (r := -3) (by decide) (by decide) (w_99 s a ⟨fun _ => go a, fun q => absurd h0 q⟩) (fun s2 h => mgo s2 h (Or.inl h0))
  · by_cases h1 : a = 1
    · exact op2 hm (d := 8) (d2 := 16) (r := -3) (by decide) (by decide) (w_99 s a ⟨fun q => absurd q h0, fun _ => ⟨fun _ => go a, fun q => absurd h1 q⟩⟩) (fun s2 h => mgo s2 h (Or.inr h1))
    · refine op2 hm (d := 8) (d2 := 16) (r := -2) (by decide) (by decide) (w_99 s a ⟨fun q => absurd q h0, fun _ => ⟨fun q => absurd q h1, fun _ => c_ref fr.rfl' (-2)⟩⟩) (fun s2 h => w_190 s2 a ((ev_m_isIn 0 s2 a 0 1).imp ?_))
      rintro _ _ ⟨rfl, rfl⟩
      rw [in01 h0 h1]
      exact ⟨_, rfl, fun q => absurd rfl q, fun _ => m_ref (by decide) _⟩
theorem o_share {s : rSg} (hc : clF s) (hm : mdF s) (a : Int32) : opL s 100 191 [.inl a] := by
  have go : ∀ y, g_100_21 y s (fun v s2 => v = some (.inr (.inl y.toInt64)) ∧ fr s s2) := fun y => w_100_21 s y ⟨fun q => absurd (cl610 hc) q, fun _ => ⟨rfl, fr.rfl'⟩⟩
  have mgo : ∀ s2, mdF s2 → (a = 0 ∨ a = 1) → EvS rSkel 2 191 [.inr (.inr (some 725)), .inl a] s2 (fun v2 _ => v2 = some (.inr (.inl a.toInt64))) := by
    intro s2 h ha
    refine w_191 s2 a ((ev_m_isIn 0 s2 a 0 1).imp ?_)
    rintro _ _ ⟨rfl, rfl⟩
    have e1 : (if a < 0 then (0 : Int32) else if 1 < a then 0 else 1) = 1 := by rcases ha with rfl | rfl <;> decide
    rw [e1]
    exact ⟨_, rfl, fun _ => ⟨fun q => absurd (md_all h).2.2.2.2.2.2.2.2.1 q, fun _ => rfl⟩, fun q => absurd (by decide) q⟩
  by_cases h0 : a = 0
  · exact op2L hm (d := 2) (d2 := 2) (by decide) (by decide) (w_100 s a ⟨fun _ => go a, fun q => absurd h0 q⟩) (fun s2 h => mgo s2 h (Or.inl h0))
  · by_cases h1 : a = 1
    · exact op2L hm (d := 2) (d2 := 2) (by decide) (by decide) (w_100 s a ⟨fun q => absurd q h0, fun _ => ⟨fun _ => go a, fun q => absurd h1 q⟩⟩) (fun s2 h => mgo s2 h (Or.inr h1))
    · refine op2L hm (d := 2) (d2 := 2) (r := 4000000000000000000 - (-2 : Int32).toInt64) (by decide) (by decide) (w_100 s a ⟨fun q => absurd q h0, fun _ => ⟨fun q => absurd q h1, fun _ => ?_⟩⟩) (fun s2 h => w_191 s2 a ((ev_m_isIn 0 s2 a 0 1).imp ?_))
      · refine (c_refuse s (-2)).imp ?_
        rintro _ s2 ⟨rfl, hf⟩
        exact ⟨_, rfl, rfl, hf⟩
      · rintro _ _ ⟨rfl, rfl⟩
        rw [in01 h0 h1]
        exact ⟨_, rfl, fun q => absurd rfl q, fun _ => w_192 _ (-2) ⟨by decide, by decide, _, rfl, rfl⟩⟩
theorem o_done {s : rSg} (hc : clF s) (hm : mdF s) : opI s 87 176 [] := by
  obtain ⟨c7, c8, c9, c10, _⟩ := se_all hc.1
  refine op2 hm (d := 2) (d2 := 2) (r := 0) (by decide) (by decide) (w_87 s (w_37 s 6 sea6 ⟨fun q => absurd q (by rw [c8]; decide), fun _ => ⟨fun _ => ⟨_, rfl, fun _ => ⟨rfl, fr.rfl'⟩, fun q => absurd rfl q⟩, fun q => absurd (by rw [c10]; decide) q⟩⟩)) (fun s2 h => w_176 s2 ?_)
  obtain ⟨_, _, _, _, m21, _, m7, m8, _⟩ := md_all h
  refine (ev_m_isDone 0 s2 (z := 0) (w := 1) (a := 0) m21 (by decide) m7 m8 (by decide) (by decide)).imp ?_
  rintro _ _ ⟨rfl, rfl⟩
  exact ⟨_, rfl, fun _ => rfl, fun q => absurd (by decide) q⟩
/-! different: nobody tells -/
theorem dM_89_0 : decode prog_1_method_39_code 0 = .ok (.iconst 0, 1) := by decide +kernel
theorem dM_89_1 : decode prog_1_method_39_code 1 = .ok (.istore_n 3, 1) := by decide +kernel
theorem dM_89_2 : decode prog_1_method_39_code 2 = .ok (.iload_n 3, 1) := by decide +kernel
theorem dM_89_3 : decode prog_1_method_39_code 3 = .ok (.iload_n 1, 1) := by decide +kernel
theorem dM_89_4 : decode prog_1_method_39_code 4 = .ok (.if_icmp .ge 98, 3) := by decide +kernel
theorem dM_89_102 : decode prog_1_method_39_code 102 = .ok (.return_, 1) := by decide +kernel
theorem c_tell0 (s : rSg) (v : Int32) : EvS rSkel 1 89 [.inr (.inr (some 0)), .inl 0, .inl v] s (fun r s2 => r = none ∧ s2 = s) := by
  refine EvS.of (ini := false) rfl ⟨rfl, Nat.le_of_ble_eq_true rfl⟩ rfl ?_
  show GoS rSkel 0 8 5 none false prog_1_method_39_code 0 [(0, .inr (.inr (some 0))), (1, .inl 0), (2, .inl v)] [] s _
  refine gs0 1 [(0, .inr (.inr (some 0))), (1, .inl 0), (2, .inl v)] [.inl 0] dM_89_0 (fun _ => rfl) (Or.inr rfl) ?_
  refine gs0 2 [(3, .inl 0), (0, .inr (.inr (some 0))), (1, .inl 0), (2, .inl v)] [] dM_89_1 (fun _ => rfl) (Or.inr rfl) ?_
  refine gs0 3 [(3, .inl 0), (0, .inr (.inr (some 0))), (1, .inl 0), (2, .inl v)] [.inl 0] dM_89_2 (fun _ => rfl) (Or.inr rfl) ?_
  refine gs0 4 [(3, .inl 0), (0, .inr (.inr (some 0))), (1, .inl 0), (2, .inl v)] [.inl 0, .inl 0] dM_89_3 (fun _ => rfl) (Or.inr rfl) ?_
  refine gsIf (t := 102) (C := (0 : Int32) ≤ 0) (r := []) dM_89_4 (fun _ => rfl) (Or.inr rfl) (rTest_iff .ge 0 0) (fun _ => ?_) (fun q => absurd (by decide) q)
  exact gsRet (r := none) dM_89_102 (fun _ => rfl) (Or.inr rfl) ⟨rfl, rfl⟩
/-- is it a .. f: as a number -/
def named (x : Int32) : Int32 := if x < 0 then 0 else if 6 ≤ x then 0 else 1
theorem c_named (s : rSg) (x : Int32) : EvS rSkel 1 82 [.inl x] s (fun v s2 => v = some (.inl (named x)) ∧ s2 = s) := by
  refine w_82 s x ⟨fun h => ⟨by rw [named, if_pos h], rfl⟩, fun h => ⟨fun h1 => ⟨by rw [named, if_neg h, if_pos h1], rfl⟩, fun h1 => ⟨by rw [named, if_neg h, if_neg h1], rfl⟩⟩⟩
theorem m_named (s : rSg) (x : Int32) : EvS rSkel 2 165 [.inl x] s (fun v s2 => v = some (.inl (named x)) ∧ s2 = s) := by
  refine w_165 s x ((ev_m_isIn 0 s x 0 5).imp ?_)
  rintro _ _ ⟨rfl, rfl⟩
  have e : (if x < 0 then (0 : Int32) else if 5 < x then 0 else 1) = named x := by
    unfold named
    by_cases q : x < 0
    · rw [if_pos q, if_pos q]
    · obtain ⟨n, hn, rfl⟩ := nn_of q
      rw [if_neg q, if_neg q]
      by_cases h6 : 6 ≤ n
      · have z5 : (5 : Int32) < nI n := (nI_ltI (a := 5) (by decide) hn).mpr (by omega)
        have z6 : (6 : Int32) ≤ nI n := (nI_leI (a := 6) (by decide) hn).mpr h6
        rw [if_pos z5, if_pos z6]
      · have z5 : ¬ (5 : Int32) < nI n := fun z => absurd ((nI_ltI (a := 5) (by decide) hn).mp z) (by omega)
        have z6 : ¬ (6 : Int32) ≤ nI n := fun z => h6 ((nI_leI (a := 6) (by decide) hn).mp z)
        rw [if_neg z5, if_neg z6]
  rw [e]
  refine ⟨_, rfl, ?_, rfl, rfl⟩
  unfold named
  split
  · decide
  · split <;> decide
theorem named_01 (x : Int32) : named x = 0 ∨ (named x = 1 ∧ ∃ n, n < 6 ∧ x = nI n) := by
  unfold named
  by_cases q : x < 0
  · exact Or.inl (if_pos q)
  · obtain ⟨n, hn, rfl⟩ := nn_of q
    rw [if_neg q]
    by_cases h6 : 6 ≤ n
    · exact Or.inl (if_pos ((nI_leI (a := 6) (by decide) hn).mpr h6))
    · exact Or.inr ⟨if_neg (fun z => h6 ((nI_leI (a := 6) (by decide) hn).mp z)), n, by omega, rfl⟩
theorem o_different {s : rSg} (hc : clF s) (hm : mdF s) (a : Int32) : opI s 88 177 [.inl a] := by
  rcases named_01 a with h0 | ⟨h1, _⟩
  · refine op2 hm (d := 6) (d2 := 8) (r := -1) (by decide) (by decide) (w_88 s a ((c_named s a).imp ?_)) (fun s2 h => w_177 s2 a ((m_named s2 a).imp ?_))
    · rintro _ _ ⟨rfl, rfl⟩
      exact ⟨_, rfl, fun q => absurd h0 q, fun _ => c_ref fr.rfl' (-1)⟩
    · rintro _ _ ⟨rfl, rfl⟩
      exact ⟨_, rfl, fun q => absurd h0 q, fun _ => m_ref (by decide) _⟩
  · refine op2 hm (d := 6) (d2 := 8) (r := 0) (by decide) (by decide) (w_88 s a ((c_named s a).imp ?_)) (fun s2 h => w_177 s2 a ((m_named s2 a).imp ?_))
    · rintro _ s ⟨rfl, rfl⟩
      refine ⟨_, rfl, fun _ => ?_, fun q => absurd (by rw [h1]; decide) q⟩
      rw [cl610 hc]
      refine ((c_tell0 s a).up (by decide)).imp ?_
      rintro _ s ⟨rfl, rfl⟩
      exact ⟨rfl, w_88_29 s 0 0 ⟨fun _ => ⟨rfl, fr.rfl'⟩, fun q => absurd (by rw [cl610 hc]; decide) q⟩⟩
    · rintro _ s2 ⟨rfl, rfl⟩
      exact ⟨_, rfl, fun _ => w_177_17 s2 a 0 0 ⟨fun _ => rfl, fun q => absurd (by rw [md748 h]; decide) q⟩, fun q => absurd (by rw [h1]; decide) q⟩

