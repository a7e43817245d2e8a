/-! THE CLASS's READER, with what it writes: its loop -/
theorem stE_ok {s t1 : rSg} {x : Slt} {sl sl2 : List Slt} {c : Int32} {ng nt np np2 i : Nat} {S2 : rdS} (hok : sOK (x :: sl) ng np) (hR : RStep i c x.1 (sl.map (fun x => x.1), ng, nt, none) S2) (hE : stE s t1 x sl c ng np sl2 np2) (hn : np ≤ nt) : sOK sl2 S2.2.1 np2 ∧ np2 ≤ S2.2.2.1 := by
  obtain ⟨ok1, ok2⟩ := hok
  have slok : ∀ y, y ∈ sl → slA ng np y ∧ (y.1 = 103 ∨ y.1 = 116 ∨ y.1 = 41) := fun y hy => ok1 y (List.mem_cons_of_mem _ hy)
  have adlt : ∀ {k j : Nat}, (k, j) ∈ ads sl → (k = 233 ∧ j < 3 * ng) ∨ (k = 234 ∧ j < 2 * np) := fun h => by
    obtain ⟨y, hy, hy2⟩ := ads_mem h
    exact pu_ad (slok y hy).1 hy2
  have nd : (ads sl).Nodup := by
    unfold ads at ok2 ⊢
    rw [List.filterMap_cons] at ok2
    cases hx : x.2.2.2 with
    | none => rw [hx] at ok2; exact ok2
    | some a => rw [hx] at ok2; exact (List.nodup_cons.mp ok2).2
  rcases hE with ⟨w0, rfl, rfl, ha⟩ | ⟨w0, e, he, rfl, rfl, ha⟩ | ⟨w0, rfl, rfl, rfl, ha⟩ | ⟨w0, hc, rfl, rfl, ha⟩
  · rcases hR with ⟨_, _, rfl⟩ | ⟨q, _⟩ | ⟨q, _⟩
    · exact ⟨⟨slok, nd⟩, hn⟩
    · exact absurd w0 q
    · exact absurd w0 q
  · rcases hR with ⟨q, _, _⟩ | ⟨_, _, _, rfl⟩ | ⟨_, q, _⟩
    · rw [w0] at q; exact absurd q (by decide)
    · exact ⟨⟨slok, nd⟩, Nat.le_succ_of_le hn⟩
    · exact absurd w0 q
  · rcases hR with ⟨q, _, _⟩ | ⟨_, _, _, rfl⟩ | ⟨_, q, _⟩
    · rw [w0] at q; exact absurd q (by decide)
    · refine ⟨⟨fun y hy => ?_, ?_⟩, Nat.succ_le_succ hn⟩
      · rcases List.mem_append.mp hy with q | q
        · simp only [psl, List.mem_cons, List.not_mem_nil, or_false] at q
          rcases q with rfl | rfl | rfl
          · exact ⟨Or.inr (Or.inr ⟨np, 0, by simp, by omega, by decide, rfl, rfl, rfl⟩), Or.inr (Or.inl rfl)⟩
          · exact ⟨Or.inr (Or.inr ⟨np, 1, by simp, by omega, by decide, rfl, rfl, rfl⟩), Or.inr (Or.inl rfl)⟩
          · exact ⟨Or.inl ⟨rfl, rfl⟩, Or.inr (Or.inr rfl)⟩
        · exact ⟨slA_mono (slok y q).1 (Nat.le_refl _) (Nat.le_succ _), (slok y q).2⟩
      · show ((234, 2 * np) :: (234, 2 * np + 1) :: ads sl).Nodup
        refine List.nodup_cons.mpr ⟨fun q => ?_, List.nodup_cons.mpr ⟨fun q => ?_, nd⟩⟩
        · rcases List.mem_cons.mp q with q | q
          · have := congrArg Prod.snd q; simp at this
          · have := adlt q; omega
        · have := adlt q; omega
    · exact absurd w0 q
  · rcases hR with ⟨q, _, _⟩ | ⟨_, q, _⟩ | ⟨_, _, _, rfl⟩
    · rw [w0] at q; exact absurd q (by decide)
    · rw [w0] at q; exact absurd q (by decide)
    · have hlen := gAw_len c
      refine ⟨⟨fun y hy => ?_, ?_⟩, hn⟩
      · rcases List.mem_append.mp hy with q | q
        · have := gsl_slA ng np2 _ 0 (by omega) y q
          refine ⟨this.1, ?_⟩
          rw [this.2]
          split
          · exact Or.inl rfl
          · exact Or.inr (Or.inl rfl)
        · exact ⟨slA_mono (slok y q).1 (Nat.le_succ _) (Nat.le_refl _), (slok y q).2⟩
      · rw [ads_app]
        refine List.nodup_append.mpr ⟨ads_gsl_nd _ _ _ _, nd, fun a ha b hb e => ?_⟩
        subst e
        obtain ⟨k, j⟩ := a
        have h1 := ads_gsl _ _ _ _ ha
        have h2 := adlt hb
        omega
/-- what was told is sealed -/
def seld (t : rSg) (nG tp nT : Nat) : Prop := t 231 3 = nI nG ∧ t 231 4 = nI tp ∧ t 231 5 = nI 0 ∧ t 231 6 = nI nG ∧ t 231 7 = nI tp ∧ t 231 8 = nI nT
theorem ct_5b {tx : Nat → Int32} {n : Nat} (hn : n ≤ 96) {s0 : rSg} (hr : s0 687 1 = nI n) (htx : ∀ i, i < n → s0 688 i = tx i) {nG nT : Nat} {P : Option rv → rSg → Prop} : ∀ (f i : Nat) (sl : List Slt) (ng nt np : Nat) (s : rSg), i + f = n → crd s sl ng nt np → rdOK i (sl.map (fun x => x.1), ng, nt, none) → sOK sl ng np → np ≤ nt → rd s0 s → RRun tx n f i (sl.map (fun x => x.1), ng, nt, none) (.inr (nG, nT, none)) → (∀ t tp Cd, tp ≤ nT → seld t nG tp nT → rd s0 t → CD t tx nG tp f i (sl.map (fun x => x.1), ng, nt, none) np Cd → hol t sl Cd → frm s t sl ng np → P (some (.inl (nI nG))) t) → g_5_11 687 96 (nI n) (nI i) s P := by
  intro f
  induction f with
  | zero =>
    intro i sl ng nt np s hi hs hok hso hnp hk hR hP
    obtain ⟨a0, a5, a6, a7, b3, b4⟩ := hs
    obtain rfl : i = n := by omega
    cases sl with
    | cons x sl => cases hR
    | nil =>
      rcases hR with ⟨_, e⟩ | ⟨q, _⟩
      · cases e
        refine w_5_11 s 687 96 row687 _ _ ⟨fun _ => ⟨fun _ => ⟨fun _ => ?_, fun q => absurd a7 q⟩, fun q => absurd (by rw [a0.1]; decide) q⟩, fun q => absurd (nI_le (by omega) (by omega)) q⟩
        refine w_25 s 231 scr231 _ _ ⟨rfl, ?_⟩
        rw [a6, b3, b4]
        generalize et : up2 (up2 (up2 (up2 s 231 5 0) 231 6 (nI nG)) 231 7 (nI np)) 231 8 (nI nT) = t
        have t0 : ∀ q, q ≠ 231 → t q = s q := fun q hq => by rw [← et, up2_nk _ _ _ hq, up2_nk _ _ _ hq, up2_nk _ _ _ hq, up2_nk _ _ _ hq]
        rw [t0 678 (by decide), a5]
        refine hP t np [] hnp ⟨?_, ?_, ?_, ?_, ?_, ?_⟩ (fun q hq => by rw [t0 q (by omega)]; exact hk q hq) ⟨rfl, rfl, rfl⟩ rfl ⟨fun g _ => by rw [t0 232 (by decide)], fun j _ _ => by rw [t0 233 (by decide)], fun j _ _ => by rw [t0 234 (by decide)]⟩
        · rw [← et, up2_nj _ _ _ (by decide), up2_nj _ _ _ (by decide), up2_nj _ _ _ (by decide), up2_nj _ _ _ (by decide)]; exact b3
        · rw [← et, up2_nj _ _ _ (by decide), up2_nj _ _ _ (by decide), up2_nj _ _ _ (by decide), up2_nj _ _ _ (by decide)]; exact b4
        · rw [← et, up2_nj _ _ _ (by decide), up2_nj _ _ _ (by decide), up2_nj _ _ _ (by decide), up2_same]; rfl
        · rw [← et, up2_nj _ _ _ (by decide), up2_nj _ _ _ (by decide), up2_same]
        · rw [← et, up2_nj _ _ _ (by decide), up2_same]
        · rw [← et, up2_same]
      · exact absurd rfl q
  | succ f ih =>
    intro i sl ng nt np s hi hs hok hso hnp hk hR hP
    refine w_5_11 s 687 96 row687 _ _ ⟨fun q => absurd ((nI_leI (by omega) (by omega)).mp q) (by omega), fun _ => ?_⟩
    cases sl with
    | nil =>
      rcases hR with ⟨q, _⟩ | ⟨_, q⟩
      · omega
      · cases q
    | cons x sl =>
      have e4 : s 678 4 = nI (sl.length + 1) := hs.1.1
      have hlen := hok.1
      simp only [List.map_cons, List.length_cons, List.length_map] at hlen
      refine ⟨fun q => ?_, fun _ => ?_⟩
      · rw [e4] at q
        exact absurd ((nI_ltI (a := sl.length + 1) (b := 1) (by omega) (by decide)).mp q) (by omega)
      refine w_17 s 687 96 row687 (nI i) ⟨fun q => absurd q (nI_pos (by omega)), fun _ => ⟨fun q => ?_, fun _ => ⟨fun q => absurd ((nI_leI (a := 96) (by decide) (by omega)).mp q) (by omega), fun _ => ⟨rIn_nI (by omega) (by decide), ?_⟩⟩⟩⟩
      · rw [hk 687 (by omega), hr] at q
        exact absurd ((nI_leI (by omega) (by omega)).mp q) (by omega)
      rw [nI_clamp (by omega), hk 688 (by omega), htx i (by omega)]
      rcases hR with ⟨S2, g1, g2⟩ | ⟨_, q⟩
      · have hb := RRun_bad f (i + 1) S2 g2
        have o5 := hok.2.2.2.2 rfl
        simp only at o5
        have hx := hso.1 x List.mem_cons_self
        refine ⟨_, rfl, (ct_8 (i := i) hs hx.1 hx.2 o5.1 o5.2 (by omega) (by omega) g1 hb).imp ?_⟩
        rintro _ t1 ⟨rfl, sl2, np2, h1, h2, h3, h4⟩
        have hst : stOK (sl.map (fun x => x.1)) := fun w hw => by
          obtain ⟨y, hy, rfl⟩ := List.mem_map.mp hw
          exact (hso.1 y (List.mem_cons_of_mem _ hy)).2
        have ok2 := (rdOK_step hok hst g1).1
        have so2 := stE_ok hso g1 h4 hnp
        rw [nI_1]
        have eS : (sl2.map (fun x => x.1), S2.2.1, S2.2.2.1, (none : Option Nat)) = S2 := by rw [h2, ← hb]
        refine ⟨_, rfl, fun _ => ih (i + 1) sl2 S2.2.1 S2.2.2.1 np2 t1 (by omega) h1 (by rw [eS]; exact ok2) so2.1 so2.2 (hk.trans h3) (by rw [eS]; exact g2) (fun t tp Cd2 q1 q2 q3 q4 q5 q6 => ?_), fun q => absurd (by decide) q⟩
        rw [eS] at q4
        obtain ⟨Cd, c1, c2, c3⟩ := stE_back hso rfl g1 h4 q5 q6
        exact hP t tp Cd q1 q2 q3 ⟨S2, np2, Cd2, g1, q4, c1⟩ c2 c3
      · cases q
/-- a text that is a goal: it is read into the script in mind -/
theorem ct_5 {s : rSg} {n nG nT : Nat} (hn : n ≤ 96) (hr : s 687 1 = nI n) (hR : RRun (s 688) n n 0 ([103], 0, 0, none) (.inr (nG, nT, none))) : EvS rSkel 4 5 [.inr (.inr (some 678)), .inr (.inr (some 687))] s (fun v t => v = some (.inl (nI nG)) ∧ rd s t ∧ ∃ tp, tp ≤ nT ∧ seld t nG tp nT ∧ CD t (s 688) nG tp n 0 ([103], 0, 0, none) 0 [0]) := by
  refine w_5 s 687 96 row687 (w_6 s (w_20 s 231 scr231 ⟨rfl, ?_⟩))
  generalize eu : up2 (up2 (up2 (up2 (up2 (up2 s 231 3 0) 231 4 0) 678 4 0) 678 5 0) 678 6 0) 678 7 (-1) = u
  have ru : rd s u := fun q hq => by rw [← eu, up2_nk _ _ _ (by omega), up2_nk _ _ _ (by omega), up2_nk _ _ _ (by omega), up2_nk _ _ _ (by omega), up2_nk _ _ _ (by omega), up2_nk _ _ _ (by omega)]
  have u4 : u 678 4 = nI ([] : List Slt).length := by rw [← eu, up2_nj _ _ _ (by decide), up2_nj _ _ _ (by decide), up2_nj _ _ _ (by decide), up2_same]; rfl
  have u5 : u 678 5 = nI 0 := by rw [← eu, up2_nj _ _ _ (by decide), up2_nj _ _ _ (by decide), up2_same]; rfl
  have u6 : u 678 6 = nI 0 := by rw [← eu, up2_nj _ _ _ (by decide), up2_same]; rfl
  have u7 : u 678 7 = -1 := by rw [← eu, up2_same]
  have v3 : u 231 3 = nI 0 := by rw [← eu, up2_nk _ _ _ (by decide), up2_nk _ _ _ (by decide), up2_nk _ _ _ (by decide), up2_nk _ _ _ (by decide), up2_nj _ _ _ (by decide), up2_same]; rfl
  have v4 : u 231 4 = nI 0 := by rw [← eu, up2_nk _ _ _ (by decide), up2_nk _ _ _ (by decide), up2_nk _ _ _ (by decide), up2_nk _ _ _ (by decide), up2_same]; rfl
  refine (ct_7 (s := u) (sl := []) ⟨u4, trivial⟩ (by decide) (103, -1, 0, none)).imp ?_
  rintro _ w ⟨rfl, hw, kw⟩
  have rw0 : rd s w := ru.trans kw.2.2.2.2.1
  refine ⟨rfl, rfl, w_16 w 687 96 row687 ⟨_, rfl, ?_⟩⟩
  rw [rw0 687 (by omega), hr]
  refine ct_5b (tx := s 688) hn hr (fun _ _ => rfl) (nG := nG) (nT := nT) n 0 [(103, -1, 0, none)] 0 0 0 w (by omega) ⟨hw, by rw [kw.2.2.2.2.2 5 (by decide)]; exact u5, by rw [kw.2.2.2.2.2 6 (by decide)]; exact u6, by rw [kw.2.2.2.2.2 7 (by decide)]; exact u7, by rw [kw.1]; exact v3, by rw [kw.1]; exact v4⟩ rd0.1 ⟨fun x hx => ?_, List.nodup_nil⟩ (Nat.le_refl _) rw0 hR (fun t tp Cd q1 q2 q3 q4 q5 q6 => ⟨rfl, q3, tp, q1, q2, ?_⟩)
  · simp only [List.mem_cons, List.not_mem_nil, or_false] at hx
    subst hx
    exact ⟨Or.inl ⟨rfl, rfl⟩, Or.inl rfl⟩
  · have : Cd = [0] := by
      rcases q5 with ⟨q, _⟩ | ⟨_, e, C2, rfl, _, h2⟩
      · exact absurd (show (103 : Int32) = 41 from q) (by decide)
      · have h2 : C2 = [] := h2
        subst h2
        cases n with
        | zero => exact q4.elim
        | succ n =>
          obtain ⟨S2, np2, Cd2, _, _, h3⟩ := q4
          rcases h3 with ⟨q, _⟩ | ⟨q, _⟩ | ⟨_, _, _, _, es, r, h3, _⟩
          · exact absurd (show (103 : Int32) = 41 from q) (by decide)
          · exact absurd (show (103 : Int32) = 116 from q) (by decide)
          · cases h3; rfl
    rw [this] at q4
    exact q4
