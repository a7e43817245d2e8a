/-! '=' of a variable and an atom, '&', answers -/
theorem cSmall8 {sg : rSg} {s kb np a b : Nat} (hnp : np ≤ 8) : cSmall (cV sg s kb 64) (cD 64 np) a b := by
  intro W hext hrk
  obtain ⟨rk, hok⟩ := hrk
  have pr : ∀ c x y, cD 64 np c → W c = some (.inr (.inr (x, y))) → 256 ≤ c ∧ c < 256 + np := by
    intro c x y hc hp
    rcases hext c with h | ⟨_, e, h⟩
    · rw [hp] at h
      have h := h.symm
      unfold cD cF at hc
      unfold cV at h
      by_cases h1 : c < 128
      · rw [if_pos h1] at h
        split at h <;> cases h
      · rw [if_neg h1] at h
        by_cases h2 : c < 256
        · rw [if_pos h2] at h; cases h
        · omega
    · rw [hp] at h; cases h
  obtain ⟨hh, h1, h2⟩ := vHt_ex hok ((List.range np).map (fun j => 256 + j)) (fun c x y hc hp => by
    have := pr c x y hc hp
    exact List.mem_map.mpr ⟨c - 256, List.mem_range.mpr (by omega), by omega⟩)
  have h2 : ∀ c, hh c ≤ np := fun c => by have := h2 c; simpa using this
  obtain ⟨z, z1, z2⟩ := vSz_ex hok h1 (N := np) h2 (M := 128) (fun c e hc he => by
    by_cases h9 : c < 128
    · exact h9
    · rcases hext c with h | ⟨h, _⟩
      · rw [he] at h
        have h := h.symm
        unfold cV at h
        rw [if_neg h9] at h
        split at h
        · cases h
        · split at h <;> cases h
      · unfold cV at h
        rw [if_neg h9] at h
        split at h
        · cases h
        · split at h <;> cases h)
  have w8 : wt np ≤ 511 := Nat.le_trans (wt_mono hnp) (by decide)
  have zz : ∀ c, z c ≤ 999999 := fun c => by
    have := z2 c
    have h5 : wt np * (2 * 128 + 2) ≤ 511 * 258 := Nat.mul_le_mul_right _ w8
    omega
  exact ⟨hh, z, h1, z1, by have := h2 a; omega, by have := h2 b; omega, zz a, zz b⟩
theorem cSn_ext {s s2 : rSg} {l : Nat} (h1 : s2 1 = s 1) (h5 : s2 5 = s 5) (h : cSn s l) : cSn s2 l := by
  unfold cSn at *
  rw [h1, h5]
  exact h
theorem cWF0 {s : rSg} {b kb : Nat} (h : ∀ j, j < 64 → s kb j = -1) : cWF s b kb 64 0 := ⟨Or.inl rfl, by decide, fun j hj => absurd hj (by omega), fun i hi => Or.inl (h i hi)⟩
theorem cV0 {s : rSg} {b kb c : Nat} (h : ∀ j, j < 64 → s kb j = -1) (hc : c < 64) : cV s b kb 64 c = none := by
  unfold cV
  rw [if_pos (by omega), if_neg (fun q => q.2 (h c hc))]
theorem cOK0 {s : rSg} {b kb : Nat} (h : ∀ j, j < 64 → s kb j = -1) : vOK (cV s b kb 64) (cD 64 0) (fun _ => 0) := by
  intro c hc
  unfold cD cF at hc
  by_cases h1 : c < 64
  · rw [cV0 h h1]
    exact ⟨fun e he => (by cases he), fun n hn => (by cases hn), fun a b hp => (by cases hp)⟩
  · rw [cV_atom (by omega) (by omega)]
    refine ⟨fun e he => (by cases he), fun n hn => ?_, fun a b hp => (by cases hp)⟩
    have hn := Sum.inl.inj (Sum.inr.inj (Option.some.inj hn))
    omega
theorem cs_eq {s : rSg} {b h st t g x a l : Nat} {G : Nat → Int32} (hb : isSeaA rSkel b) (hq : cQ s b h st 6 (t + 1) G) (hst : st < 1000) (ht9 : t < 32) (hg : G t = nI g) (hg9 : g < 326) (hkd : s (b + 2) g = 61) (hx : s (b + 3) (3 * g) = nI x) (hx6 : x < 6) (hy : s (b + 3) (3 * g + 1) = nI (128 + a)) (ha : a < 10) (hb6 : ∀ j, j < 6 → s (b + 6 + 3 * h + 1) j = -1) (hbn : ∀ j, 6 ≤ j → j < 64 → s (b + 219) j = -1) (hsn : cSn s l) (hl9 : l + 300 < 2 ^ 31) {y1 y2 y3 : Nat} (hy1 : y1 < 2 ^ 31) (hy3 : y3 < y1) (hy2 : 1 ≤ y2) (hy29 : y2 < 2 ^ 31) {P : Option rv → rSg → Prop}
    (k : ∀ s2 l2, (∀ q, (q = 0 ∨ 5 < q) → (q < b ∨ b + 223 < q ∨ (b < q ∧ q < b + 6) ∨ (b + 126 ≤ q ∧ q < b + 218) ∨ b + 220 < q) → s2 q = s q) → cSn s2 l2 → l2 ≤ l + 66 → cQ s2 b ((h + 1) % 40) (st + 1) 6 t G → g_36_2 b (nI y1) (nI y2) (nI (y3 + 1)) s2 P) : g_36_2 b (nI y1) (nI y2) (nI y3) s P := by
  refine cs_go hb hq hst (by omega) ht9 hg hy1 hy3 hy2 hy29 (fun U cl => ?_)
  obtain ⟨u0, u7, u8, u9, u10, n2, n3, n4, n5, n6, n7⟩ := cl
  have b5 := hb.1.1
  have hscr : isScr (b + 1) := hb.1.2.2.2.2.2.1
  have hnow : isSt (b + 218) := hb.1.2.2.2.2.2.2.1
  have harr : isArr (b + 219) 64 := ⟨by omega, hnow.2.2.1⟩
  have um : ∀ j, j < 64 → U (b + 219) j = -1 := fun j hj => by
    by_cases h6 : j < 6
    · rw [n5 j h6]; exact hb6 j h6
    · rw [n6 j (by omega)]; exact hbn j (by omega) hj
  refine w_41 U b hb.1 (nI g) ((c_part hscr U hg9 (k := 0) (by decide)).imp ?_)
  rintro _ U ⟨rfl, rfl⟩
  refine ⟨_, rfl, (c_part hscr _ hg9 (k := 1) (by decide)).imp ?_⟩
  rintro _ U ⟨rfl, rfl⟩
  refine ⟨_, rfl, (c_kind hscr _ hg9).imp ?_⟩
  rintro _ U ⟨rfl, rfl⟩
  have ek : U (b + 1 + 1) g = 61 := by rw [u0 _ (by omega) (by omega) (by omega) (by omega)]; exact hkd
  have ex : U (b + 1 + 2) (3 * g + 0) = nI x := by rw [u0 _ (by omega) (by omega) (by omega) (by omega)]; exact hx
  have ey : U (b + 1 + 2) (3 * g + 1) = nI (128 + a) := by rw [u0 _ (by omega) (by omega) (by omega) (by omega)]; exact hy
  rw [ek, ex, ey]
  refine ⟨_, rfl, fun q => absurd q (by decide), fun q => absurd q (by decide), fun q => absurd q (by decide), fun _ => ?_, fun q => absurd q (by decide), fun q => absurd q (by decide), fun q => absurd q (by decide), fun q => absurd rfl q.2.2.2.1⟩
  have hDx : cD 64 0 x := Or.inl (Or.inl (by omega))
  have hDa : cD 64 0 (128 + a) := Or.inl (Or.inr (Or.inl (by omega)))
  refine (c_unify hscr harr (by omega) (cWF0 um) ⟨_, cOK0 um⟩ (cSn_ext (u0 1 (by omega) (by omega) (by omega) (by omega)) (u0 5 (by omega) (by omega) (by omega) (by omega)) hsn) hl9 hDx hDa (cSmall8 (by decide))).imp ?_
  rintro _ T ⟨r, bs, rfl, c1, c2, c3, ⟨c4, c4b, c4c, c4d, c4e, c4f⟩, ⟨l2, c5, c6⟩, c7⟩
  have hr : r = 1 := by
    rcases c7 with ⟨h1, _⟩ | ⟨_, h0⟩
    · exact h1
    · obtain ⟨th, t1, t2⟩ := vSol_any (cOK0 (b := b + 1) um) (i := x) (cV0 um (by omega)) a
      exfalso
      refine h0 th t1 ?_
      rw [t2, (t1 (128 + a) hDa).2.1 a (by rw [cV_atom (by omega) (by omega), Nat.add_sub_cancel_left])]
  subst hr
  refine ⟨_, rfl, fun q => absurd q (by decide), fun _ => ?_⟩
  have tk : ∀ q, (q = 0 ∨ 5 < q) → q ≠ b + 219 → T q = U q := c4
  refine w_42 T b hb.1 (b + 218) hnow (w_42_2 T b hb.1 (b + 218) hnow 0 ⟨fun q => absurd q (by decide), fun _ => ⟨fun _ => ?_, fun q => absurd (by rw [tk _ (by omega) (by omega)]; exact n4) q⟩⟩)
  have tb : T b = U b := tk b (by omega) (by omega)
  have tn : T (b + 218) = U (b + 218) := tk _ (by omega) (by omega)
  refine (cs_enq hb hnow (by intro i hi; omega) (by omega) (h := (h + 1) % 40) (st := st + 1) (v := 6) (t := t) (G := G) (by rw [tb]; exact u7) (Nat.mod_lt _ (by decide)) (by rw [tb]; exact u8) (by rw [tb]; exact u9) (by rw [tb]; exact u10) (by rw [tn]; exact n2) (by decide) (by rw [tn]; exact n3) (by omega) (by rw [tn]; exact n4) (fun j hj => by rw [tk _ (by omega) (by omega)]; exact n7 j hj) (Q := fun z => g_36_2 b (nI y1) (nI y2) (nI (y3 + 1)) z P) (fun s2 g1 g2 g3 g4 => k _ l2 (fun q h1 h2 => ?_) ?_ ?_ (cQ_up g4))).imp ?_
  · rw [up2_nk _ _ _ (by omega), g1 q (by omega) (by omega), tk q h1 (by omega), u0 q (by omega) (by omega) (by omega) (by omega)]
  · exact cSn_ext (by rw [up2_nk _ _ _ (by omega), g1 1 (by omega) (by omega)]) (by rw [up2_nk _ _ _ (by omega), g1 5 (by omega) (by omega)]) c5
  · have := opensC_le U (b + 219) 64
    omega
  · rintro _ z ⟨rfl, _, hz⟩
    exact ⟨rfl, rfl, rfl, hz⟩
/-! the reference -/
theorem ms_and {s : rSg} {z h st l g l2 n x y : Nat} (hz : z < 2) (hq : mQ s z h st l) (hst : st < 1000) (hl0 : 0 < l) (hl : l < 20000) (hg : s 733 l = nI g) (hg9 : g < 3000) (hr : s 735 l = nI l2) (hk : s 729 g = 38) (hx : s 730 g = nI x) (hy : s 731 g = nI y) (hn : s 725 12 = nI n) (hn2 : 2 ≤ n) (hn9 : n + 1 < 20000) {P : Option rv → rSg → Prop}
    (k : ∀ s2, mAft s s2 z h → s2 733 n = nI y → s2 735 n = nI l2 → s2 733 (n + 1) = nI x → s2 735 (n + 1) = nI n → s2 725 12 = nI (n + 2) → (∀ j, j < 64 → s2 739 (64 * (42 * z + (h + 1) % 42) + j) = s 739 (64 * (42 * z + h) + j)) → mQ s2 z ((h + 1) % 42) (st + 1) (n + 1) → P none s2) : EvS rSkel 13 139 [.inr (.inr (some 725))] s P := by
  obtain ⟨q21, q46, hh, q47, q48, q49, q40, q41, q42⟩ := hq
  refine ms_pre q21 hz q46 hh q47 q49 hst (fun U ld => ?_)
  obtain ⟨u0, u1, u46, u47, u49, u18, u19, u20, u16, ub, ub2, ukp⟩ := ld
  have e18 : U 725 18 = nI l := by rw [u18, q40]
  refine ⟨fun _ => ?_, fun q => absurd ((nI_eq (a := l) (b := 0) (by omega) (by decide)).mp (by rw [← e18]; exact q)) (by omega)⟩
  rw [e18, nI_clamp (by omega), u0 733 (by decide) (by decide) (by decide) (by decide) (by decide), hg, u0 735 (by decide) (by decide) (by decide) (by decide) (by decide), hr]
  refine ⟨rIn_nI hl (by decide), ?_⟩
  generalize eV : up2 U 725 18 (nI l2) = V
  have v0 : ∀ q, q ≠ 725 → V q = U q := fun q h => by rw [← eV, up2_nk _ _ _ h]
  have v1 : ∀ j, j ≠ 18 → V 725 j = U 725 j := fun j h => by rw [← eV, up2_nj _ _ _ h]
  have v18 : V 725 18 = nI l2 := by rw [← eV, up2_same]
  have ek : V 729 (nI g).toNatClampNeg = 38 := by rw [nI_clamp (by omega), v0 729 (by decide), u0 729 (by decide) (by decide) (by decide) (by decide) (by decide)]; exact hk
  have ex : V 730 (nI g).toNatClampNeg = nI x := by rw [nI_clamp (by omega), v0 730 (by decide), u0 730 (by decide) (by decide) (by decide) (by decide) (by decide)]; exact hx
  have ey : V 731 (nI g).toNatClampNeg = nI y := by rw [nI_clamp (by omega), v0 731 (by decide), u0 731 (by decide) (by decide) (by decide) (by decide) (by decide)]; exact hy
  refine w_143 V _ (nI g) ⟨rIn_nI hg9 (by decide), ?_⟩
  rw [ek, ex, ey, v18]
  have rg : rIn (nI g) 3000 = true := rIn_nI hg9 (by decide)
  refine ⟨fun q => absurd q (by decide), fun _ => ⟨rg, rg, ?_⟩, fun q => absurd q (by decide), fun q => absurd q (by decide), fun q => absurd q (by decide), fun q => absurd q (by decide), fun q => absurd q (by decide), fun q => absurd rfl q.2.1⟩
  refine (ev_m_list 0 V (t := n) (nI y) 0 (nI l2) (by rw [v1 12 (by decide), u1 12 (by decide) (by decide) (by decide) (by decide)]; exact hn) (by omega)).imp ?_
  rintro _ _ ⟨rfl, rfl⟩
  refine ⟨_, rfl, (ev_m_list 0 _ (t := n + 1) (nI x) 0 (nI n) (up2_same _ _ _ _) (by omega)).imp ?_⟩
  rintro _ _ ⟨rfl, rfl⟩
  refine ⟨_, rfl, ?_⟩
  generalize eX : up2 (up2 (up2 (up2 V 733 n (nI y)) 734 n 0) 735 n (nI l2)) 725 12 (nI (n + 1)) = X
  generalize eY : up2 (up2 (up2 (up2 (up2 X 733 (n + 1) (nI x)) 734 (n + 1) 0) 735 (n + 1) (nI n)) 725 12 (nI (n + 1 + 1))) 725 18 (nI (n + 1)) = Y
  have x0 : ∀ q, q ≠ 725 → (q < 733 ∨ 735 < q) → X q = V q := fun q h1 h2 => by rw [← eX, up2_nk _ _ _ h1, up2_nk _ _ _ (by omega), up2_nk _ _ _ (by omega), up2_nk _ _ _ (by omega)]
  have y0 : ∀ q, q ≠ 725 → (q < 733 ∨ 735 < q) → Y q = V q := fun q h1 h2 => by rw [← eY, up2_nk _ _ _ h1, up2_nk _ _ _ h1, up2_nk _ _ _ (by omega), up2_nk _ _ _ (by omega), up2_nk _ _ _ (by omega), x0 q h1 h2]
  have y1 : ∀ j, j ≠ 12 → j ≠ 18 → Y 725 j = V 725 j := fun j h1 h2 => by rw [← eY, up2_nj _ _ _ h2, up2_nj _ _ _ h1, up2_nk _ _ _ (by decide), up2_nk _ _ _ (by decide), up2_nk _ _ _ (by decide), ← eX, up2_nj _ _ _ h1, up2_nk _ _ _ (by decide), up2_nk _ _ _ (by decide), up2_nk _ _ _ (by decide)]
  have y18 : Y 725 18 = nI (n + 1) := by rw [← eY, up2_same]
  have y12 : Y 725 12 = nI (n + 2) := by rw [← eY, up2_nj _ _ _ (by decide), up2_same]
  have ya : Y 733 n = nI y := by rw [← eY, up2_nk _ _ _ (by decide), up2_nk _ _ _ (by decide), up2_nk _ _ _ (by decide), up2_nk _ _ _ (by decide), up2_nj _ _ _ (by omega), ← eX, up2_nk _ _ _ (by decide), up2_nk _ _ _ (by decide), up2_nk _ _ _ (by decide), up2_same]
  have yb : Y 735 n = nI l2 := by rw [← eY, up2_nk _ _ _ (by decide), up2_nk _ _ _ (by decide), up2_nj _ _ _ (by omega), up2_nk _ _ _ (by decide), up2_nk _ _ _ (by decide), ← eX, up2_nk _ _ _ (by decide), up2_same]
  have yc : Y 733 (n + 1) = nI x := by rw [← eY, up2_nk _ _ _ (by decide), up2_nk _ _ _ (by decide), up2_nk _ _ _ (by decide), up2_nk _ _ _ (by decide), up2_same]
  have yd : Y 735 (n + 1) = nI n := by rw [← eY, up2_nk _ _ _ (by decide), up2_nk _ _ _ (by decide), up2_same]
  have ykp : mKp V Y := by
    rw [← eY, ← eX]
    exact ((((((((mKp.rfl'.up (by unfold kpt; omega)).up (by unfold kpt; omega)).up (by unfold kpt; omega)).up (by unfold kpt; omega)).up (by unfold kpt; omega)).up (by unfold kpt; omega)).up (by unfold kpt; omega)).up (by unfold kpt; omega)).up (by unfold kpt; omega)
  refine ms_enq hz (by rw [y1 21 (by decide) (by decide), v1 21 (by decide), u1 21 (by decide) (by decide) (by decide) (by decide)]; exact q21) (by rw [y0 746 (by decide) (by decide), v0 746 (by decide)]; exact u46) (Nat.mod_lt _ (by decide)) (by rw [y0 747 (by decide) (by decide), v0 747 (by decide)]; exact u47) (by rw [y0 748 (by decide) (by decide), v0 748 (by decide), u0 748 (by decide) (by decide) (by decide) (by decide) (by decide)]; exact q48) (by rw [y0 749 (by decide) (by decide), v0 749 (by decide)]; exact u49) y18 (by rw [y1 19 (by decide) (by decide), v1 19 (by decide), u19, q41]) (by rw [y1 20 (by decide) (by decide), v1 20 (by decide), u20, q42]) (fun s2 g1 g2 g3 g4 => ?_)
  have both : ∀ s3 : rSg, (∀ q, q ≠ 751 → s3 q = s2 q) → (z = 1 → mKp s2 s3) → mQ s3 z ((h + 1) % 42) (st + 1) (n + 1) → P none s3 := by
    intro s3 t1 t2 t3
    refine k s3 ⟨fun q hq => ?_, fun j h1 h2 h3 h4 h5 h6 => ?_, fun hz1 => ?_⟩ ?_ ?_ ?_ ?_ ?_ (fun j hj => ?_) t3
    · rw [t1 q (by omega), g1 q (by omega), y0 q hq.2 (by omega), v0 q hq.2, u0 q hq.2 (by omega) (by omega) (by omega) (by omega)]
    · rw [t1 725 (by decide), g1 725 (by omega), y1 j h1 h4, v1 j h4, u1 j h2 h4 h5 h6]
    · refine ((((ukp hz1).trans ?_).trans ykp).trans (g2 hz1)).trans (t2 hz1)
      rw [← eV]
      exact mKp.rfl'.up (by unfold kpt; omega)
    · rw [t1 733 (by decide), g1 733 (by omega), ya]
    · rw [t1 735 (by decide), g1 735 (by omega), yb]
    · rw [t1 733 (by decide), g1 733 (by omega), yc]
    · rw [t1 735 (by decide), g1 735 (by omega), yd]
    · rw [t1 725 (by decide), g1 725 (by omega), y12]
    · rw [t1 739 (by decide), g3 j hj, y0 736 (by decide) (by decide), v0 736 (by decide), ub j hj]
  refine ⟨rfl, rfl, by rw [g1 725 (by omega), y1 21 (by decide) (by decide), v1 21 (by decide), u1 21 (by decide) (by decide) (by decide) (by decide)]; exact q21, both s2 (fun _ _ => rfl) (fun _ => mKp.rfl') g4, both _ (fun q hq => up2_nk _ _ _ hq) (fun hz1 => ?_) (mQ_up g4)⟩
  subst hz1
  exact mKp.rfl'.up (by unfold kpt; omega)
theorem mOK0 {s : rSg} (h : ∀ j, j < 128 → s 736 j = -9) : mSt s 75 ∧ vOK (mV s) (mD 75) (fun _ => 0) := by
  have hw : mWF s 75 := ⟨by decide, by decide, fun t h1 h2 => absurd h2 (by omega), fun i hi => Or.inl (h i hi)⟩
  have hok : vOK (mV s) (mD 75) (fun _ => 0) := by
    intro c hc
    have hc : c < 2 * 75 := hc
    by_cases h1 : c / 2 < 64
    · rcases mV_var hw h1 with ⟨_, q⟩ | ⟨e, _, q, _⟩
      · rw [q]
        exact ⟨fun e he => (by cases he), fun n hn => (by cases hn), fun a b hp => (by cases hp)⟩
      · rw [h _ (opn_lt h1)] at q
        exact absurd q.symm (nI_ne9 (by omega))
    · rw [mV_atom (by omega) (by omega)]
      refine ⟨fun e he => (by cases he), fun n hn => ?_, fun a b hp => (by cases hp)⟩
      have hn := Sum.inl.inj (Sum.inr.inj (Option.some.inj hn))
      omega
  exact ⟨⟨hw, _, hok⟩, hok⟩
theorem ms_eq {s : rSg} {z h st l g l2 x a : Nat} (hz : z < 2) (hq : mQ s z h st l) (hst : st < 1000) (hl0 : 0 < l) (hl : l < 20000) (hg : s 733 l = nI g) (hg9 : g < 3000) (hr : s 735 l = nI l2) (hk : s 729 g = 61) (hx : s 730 g = nI x) (hx6 : x < 6) (hy : s 731 g = nI (64 + a)) (ha : a < 10) (hb : ∀ j, j < 64 → s 739 (64 * (42 * z + h) + j) = -9) {P : Option rv → rSg → Prop}
    (k : ∀ s2, mAft s s2 z h → (∀ q, 733 ≤ q → q ≤ 735 → s2 q = s q) → s2 725 12 = s 725 12 → (∃ W : rSg, mSt W 75 ∧ ∀ j, j < 64 → s2 739 (64 * (42 * z + (h + 1) % 42) + j) = W 736 j) → mQ s2 z ((h + 1) % 42) (st + 1) l2 → P none s2) : EvS rSkel 13 139 [.inr (.inr (some 725))] s P := by
  obtain ⟨q21, q46, hh, q47, q48, q49, q40, q41, q42⟩ := hq
  refine ms_pre q21 hz q46 hh q47 q49 hst (fun U ld => ?_)
  obtain ⟨u0, u1, u46, u47, u49, u18, u19, u20, u16, ub, ub2, ukp⟩ := ld
  have e18 : U 725 18 = nI l := by rw [u18, q40]
  refine ⟨fun _ => ?_, fun q => absurd ((nI_eq (a := l) (b := 0) (by omega) (by decide)).mp (by rw [← e18]; exact q)) (by omega)⟩
  rw [e18, nI_clamp (by omega), u0 733 (by decide) (by decide) (by decide) (by decide) (by decide), hg, u0 735 (by decide) (by decide) (by decide) (by decide) (by decide), hr]
  refine ⟨rIn_nI hl (by decide), ?_⟩
  generalize eV : up2 U 725 18 (nI l2) = V
  have v0 : ∀ q, q ≠ 725 → V q = U q := fun q h => by rw [← eV, up2_nk _ _ _ h]
  have v1 : ∀ j, j ≠ 18 → V 725 j = U 725 j := fun j h => by rw [← eV, up2_nj _ _ _ h]
  have v18 : V 725 18 = nI l2 := by rw [← eV, up2_same]
  have ek : V 729 (nI g).toNatClampNeg = 61 := by rw [nI_clamp (by omega), v0 729 (by decide), u0 729 (by decide) (by decide) (by decide) (by decide) (by decide)]; exact hk
  have ex : V 730 (nI g).toNatClampNeg = nI x := by rw [nI_clamp (by omega), v0 730 (by decide), u0 730 (by decide) (by decide) (by decide) (by decide) (by decide)]; exact hx
  have ey : V 731 (nI g).toNatClampNeg = nI (64 + a) := by rw [nI_clamp (by omega), v0 731 (by decide), u0 731 (by decide) (by decide) (by decide) (by decide) (by decide)]; exact hy
  have vm : ∀ j, j < 128 → V 736 j = -9 := fun j hj => by
    rw [v0 736 (by decide)]
    by_cases h6 : j < 64
    · rw [ub j h6]; exact hb j h6
    · exact ub2 j (by omega) hj
  obtain ⟨hst0, hok⟩ := mOK0 vm
  refine w_143 V _ (nI g) ⟨rIn_nI hg9 (by decide), ?_⟩
  rw [ek, ex, ey]
  have rg : rIn (nI g) 3000 = true := rIn_nI hg9 (by decide)
  refine ⟨fun q => absurd q (by decide), fun q => absurd q (by decide), fun q => absurd q (by decide), fun _ => ⟨rg, rg, ?_⟩, fun q => absurd q (by decide), fun q => absurd q (by decide), fun q => absurd q (by decide), fun q => absurd rfl q.2.2.2.1⟩
  have e2x : (2 : Int32) * nI x = nI (2 * x) := by rw [show (2 : Int32) = nI 2 from rfl, pk_mul]
  have e2a : (2 : Int32) * nI (64 + a) = nI (2 * (64 + a)) := by rw [show (2 : Int32) = nI 2 from rfl, pk_mul]
  refine w_144 V (nI x) (nI (64 + a)) ?_
  rw [e2x, e2a]
  refine (m_unifies hst0 (by decide) (tr := 0) (by rw [v1 16 (by decide), u16]; rfl) (by decide) (show 2 * x < 2 * 75 by omega) (show 2 * (64 + a) < 2 * 75 by omega)).imp ?_
  rintro _ T ⟨r, bs, rfl, c1, ⟨c2, c3, c4, c5, c6, c7, c8⟩, c9⟩
  have hr1 : r = 1 := by
    rcases c9 with ⟨h1, _⟩ | ⟨_, h0⟩
    · exact h1
    · have ho : mV V (2 * x) = none := by
        rcases mV_var hst0.1 (c := 2 * x) (by omega) with ⟨_, q⟩ | ⟨e, _, q, _⟩
        · exact q
        · rw [vm _ (opn_lt (by omega))] at q
          exact absurd q.symm (nI_ne9 (by omega))
      obtain ⟨th, t1, t2⟩ := vSol_any hok (i := 2 * x) ho a
      exfalso
      refine h0 th t1 ?_
      rw [t2, (t1 (2 * (64 + a)) (show 2 * (64 + a) < 2 * 75 by omega)).2.1 a (by rw [mV_atom (by omega) (by omega)]; congr 3; omega)]
  subst hr1
  refine ⟨_, rfl, bN1, _, rfl, w_153 T 1 ⟨fun q => absurd q (by decide), fun _ => w_154 T ?_⟩⟩
  have t1 : ∀ j, j ≠ 16 → j ≠ 17 → T 725 j = V 725 j := c2.2
  have t0 : ∀ q, q ≠ 736 → q ≠ 737 → q ≠ 738 → q ≠ 725 → T q = V q := c2.1
  rw [t1 19 (by decide) (by decide), v1 19 (by decide), u19, q41]
  refine w_154_7 T 0 0 ⟨fun _ => ⟨fun _ => ⟨_, rfl, fun q => absurd q (by decide), fun _ => ?_⟩, fun q => absurd rfl q⟩, fun q => absurd (by decide) q⟩
  refine ms_enq hz (by rw [t1 21 (by decide) (by decide), v1 21 (by decide), u1 21 (by decide) (by decide) (by decide) (by decide)]; exact q21) (by rw [t0 746 (by decide) (by decide) (by decide) (by decide), v0 746 (by decide)]; exact u46) (Nat.mod_lt _ (by decide)) (by rw [t0 747 (by decide) (by decide) (by decide) (by decide), v0 747 (by decide)]; exact u47) (by rw [t0 748 (by decide) (by decide) (by decide) (by decide), v0 748 (by decide), u0 748 (by decide) (by decide) (by decide) (by decide) (by decide)]; exact q48) (by rw [t0 749 (by decide) (by decide) (by decide) (by decide), v0 749 (by decide)]; exact u49) (by rw [t1 18 (by decide) (by decide)]; exact v18) (by rw [t1 19 (by decide) (by decide), v1 19 (by decide), u19, q41]) (by rw [t1 20 (by decide) (by decide), v1 20 (by decide), u20, q42]) (fun s2 g1 g2 g3 g4 => ?_)
  have tkp : mKp V T := fun q j hq => by
    by_cases e : q = 725
    · subst e
      exact t1 j (by unfold kpt at hq; omega) (by unfold kpt at hq; omega)
    · rw [t0 q (by unfold kpt at hq; omega) (by unfold kpt at hq; omega) (by unfold kpt at hq; omega) e]
  have both : ∀ s3 : rSg, (∀ q, q ≠ 751 → s3 q = s2 q) → (z = 1 → mKp s2 s3) → mQ s3 z ((h + 1) % 42) (st + 1) l2 → P none s3 := by
    intro s3 r1 r2 r3
    refine k s3 ⟨fun q hq => ?_, fun j h1 h2 h3 h4 h5 h6 => ?_, fun hz1 => ?_⟩ (fun q h1 h2 => ?_) ?_ ⟨T, c1, fun j hj => ?_⟩ r3
    · rw [r1 q (by omega), g1 q (by omega), t0 q (by omega) (by omega) (by omega) hq.2, v0 q hq.2, u0 q hq.2 (by omega) (by omega) (by omega) (by omega)]
    · rw [r1 725 (by decide), g1 725 (by omega), t1 j h2 h3, v1 j h4, u1 j h2 h4 h5 h6]
    · refine ((((ukp hz1).trans ?_).trans tkp).trans (g2 hz1)).trans (r2 hz1)
      rw [← eV]
      exact mKp.rfl'.up (by unfold kpt; omega)
    · rw [r1 q (by omega), g1 q (by omega), t0 q (by omega) (by omega) (by omega) (by omega), v0 q (by omega), u0 q (by omega) (by omega) (by omega) (by omega) (by omega)]
    · rw [r1 725 (by decide), g1 725 (by omega), t1 12 (by decide) (by decide), v1 12 (by decide), u1 12 (by decide) (by decide) (by decide) (by decide)]
    · rw [r1 739 (by decide), g3 j hj]
  refine ⟨rfl, rfl, rfl, by rw [g1 725 (by omega), t1 21 (by decide) (by decide), v1 21 (by decide), u1 21 (by decide) (by decide) (by decide) (by decide)]; exact q21, both s2 (fun _ _ => rfl) (fun _ => mKp.rfl') g4, both _ (fun q hq => up2_nk _ _ _ hq) (fun hz1 => ?_) (mQ_up g4)⟩
  subst hz1
  exact mKp.rfl'.up (by unfold kpt; omega)
