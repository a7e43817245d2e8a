/-! MEET: the class's own run, but for the turns -/
def asS (x : Int32) : Int32 := if x < 256 then (if x < 0 then x else if 128 ≤ x then x else x + 64) else (x + 1280) - 256
theorem asS_m1 : asS (-1) = -1 := by decide
theorem asS_nI {c : Nat} (h : c < 896) : asS (nI c) = nI (sec c) := by
  unfold asS sec
  by_cases q : 256 ≤ c
  · rw [if_neg (fun z => by have := (nI_ltI (b := 256) (by omega) (by decide)).mp z; omega), if_pos q, show (1280 : Int32) = nI 1280 from rfl, nI_add, show (256 : Int32) = nI 256 from rfl, show nI (c + 1280) - nI 256 = nI (c + 1280 - 256) from pk_sub (by omega), show c + 1280 - 256 = c + 1024 by omega]
  · rw [if_pos (show nI c < 256 from (nI_ltI (a := c) (b := 256) (by omega) (by decide)).mpr (by omega)), if_neg (nI_pos (by omega)), if_neg q]
    by_cases q2 : c < 128
    · rw [if_neg (fun z => by have := (nI_leI (a := 128) (by decide) (by omega)).mp z; omega), if_pos q2, show (64 : Int32) = nI 64 from rfl, nI_add]
    · rw [if_pos (show 128 ≤ nI c from nI_le (a := 128) (b := c) (by omega) (by omega)), if_neg q2]
theorem cx_78 (s : rSg) (x : Int32) {P : Option rv → rSg → Prop} (hP : P (some (.inl (asS x))) s) : EvS rSkel 1 78 [.inl x] s P := by
  unfold asS at hP
  refine w_78 s x ⟨fun h => ⟨fun h2 => ?_, fun h2 => ⟨fun h3 => ?_, fun h3 => ?_⟩⟩, fun h => ?_⟩
  · rw [if_pos h, if_pos h2] at hP; exact hP
  · rw [if_pos h, if_neg h2, if_pos h3] at hP; exact hP
  · rw [if_pos h, if_neg h2, if_neg h3] at hP; exact hP
  · rw [if_neg h] at hP; exact hP
/-- takeBoth -/
def tkB (s t : rSg) (k k2 n1 n2 : Nat) : Prop := (∀ q, q ≠ 692 → t q = s q) ∧ (∀ j, j < 64 → t 692 j = if j < n1 then s (k + 1) j else -1) ∧ ∀ j, j < 64 → t 692 (64 + j) = if j < n2 then asS (s (k2 + 1) j) else -1
theorem cx_94c {k k2 : Nat} (hk : isSt k) (hk2 : isSt k2) (hkk : k2 + 2 < 692) {s : rSg} {n1 n2 : Nat} (h2 : s k2 2 = nI n2) (n2b : n2 < 64) {P : Option rv → rSg → Prop} (hP : ∀ t, tkB s t k k2 n1 n2 → P none t) : ∀ (m y : Nat) (t : rSg), y + m = n2 → (∀ q, q ≠ 692 → t q = s q) → (∀ j, j < 64 → t 692 j = if j < n1 then s (k + 1) j else -1) → (∀ j, j < 64 → t 692 (64 + j) = if j < y then asS (s (k2 + 1) j) else -1) → g_94_44 k k2 (nI y) t P := by
  intro m
  induction m with
  | zero =>
    intro y t hy a b c
    obtain rfl : y = n2 := by omega
    exact wn_94_44 t k hk k2 hk2 _ ⟨fun _ => hP t ⟨a, b, c⟩, fun _ => ⟨fun _ => hP t ⟨a, b, c⟩, fun q => absurd (by rw [a k2 (by omega), h2]; exact nI_le (Nat.le_refl _) (by omega)) q⟩⟩
  | succ m ih =>
    intro y t hy a b c
    refine wn_94_44 t k hk k2 hk2 _ ⟨fun q => ?_, fun _ => ⟨fun q => ?_, fun _ => ⟨rIn_nI (by omega) (by decide), ?_⟩⟩⟩
    · have := (nI_leI (a := 64) (by decide) (by omega)).mp q; omega
    · rw [a k2 (by omega), h2] at q; have := (nI_leI (by omega) (by omega)).mp q; omega
    · refine cx_78 t _ ⟨_, rfl, ?_⟩
      rw [show nI y + 64 = nI (y + 64) from nI_add y 64, nI_1, nI_clamp (by omega), nI_clamp (by omega), a (k2 + 1) (by omega)]
      refine ⟨rIn_nI (by omega) (by decide), ih (y + 1) _ (by omega) (fun q hq => by rw [up2_nk _ _ _ hq]; exact a q hq) (fun j hj => by rw [up2_nj _ _ _ (by omega)]; exact b j hj) (fun j hj => ?_)⟩
      by_cases e : j = y
      · subst e
        rw [show j + 64 = 64 + j by omega, up2_same, if_pos (by omega)]
      · rw [up2_nj _ _ _ (by omega), c j hj]
        by_cases q : j < y
        · rw [if_pos q, if_pos (by omega)]
        · rw [if_neg q, if_neg (by omega)]
theorem cx_94b {k k2 : Nat} (hk : isSt k) (hk2 : isSt k2) (hk9 : k + 2 < 692) (hkk : k2 + 2 < 692) {s : rSg} {n1 n2 : Nat} (h1 : s k 2 = nI n1) (n1b : n1 < 64) (h2 : s k2 2 = nI n2) (n2b : n2 < 64) {P : Option rv → rSg → Prop} (hP : ∀ t, tkB s t k k2 n1 n2 → P none t) : ∀ (m y : Nat) (t : rSg), y + m = n1 → (∀ q, q ≠ 692 → t q = s q) → (∀ j, j < 64 → t 692 j = if j < y then s (k + 1) j else -1) → (∀ j, j < 64 → t 692 (64 + j) = -1) → g_94_10 k k2 (nI y) t P := by
  intro m
  induction m with
  | zero =>
    intro y t hy a b c
    obtain rfl : y = n1 := by omega
    have go := cx_94c (n1 := y) hk hk2 hkk h2 n2b hP n2 0 t (by omega) a b (fun j hj => by rw [if_neg (by omega)]; exact c j hj)
    exact wn_94_10 t k hk k2 hk2 _ ⟨fun _ => go, fun _ => ⟨fun _ => go, fun q => absurd (by rw [a k (by omega), h1]; exact nI_le (Nat.le_refl _) (by omega)) q⟩⟩
  | succ m ih =>
    intro y t hy a b c
    refine wn_94_10 t k hk k2 hk2 _ ⟨fun q => ?_, fun _ => ⟨fun q => ?_, fun _ => ⟨rIn_nI (by omega) (by decide), rIn_nI (by omega) (by decide), ?_⟩⟩⟩
    · have := (nI_leI (a := 64) (by decide) (by omega)).mp q; omega
    · rw [a k (by omega), h1] at q; have := (nI_leI (by omega) (by omega)).mp q; omega
    · rw [nI_1, nI_clamp (by omega), a (k + 1) (by omega)]
      refine ih (y + 1) _ (by omega) (fun q hq => by rw [up2_nk _ _ _ hq]; exact a q hq) (fun j hj => ?_) (fun j hj => by rw [up2_nj _ _ _ (by omega)]; exact c j hj)
      by_cases e : j = y
      · subst e; rw [up2_same, if_pos (by omega)]
      · rw [up2_nj _ _ _ e, b j hj]
        by_cases q : j < y
        · rw [if_pos q, if_pos (by omega)]
        · rw [if_neg q, if_neg (by omega)]
theorem cx_94 {k k2 : Nat} (hk : isSt k) (hk2 : isSt k2) (hk9 : k + 2 < 692) (hkk : k2 + 2 < 692) {s : rSg} {n1 n2 : Nat} (h1 : s k 2 = nI n1) (n1b : n1 < 64) (h2 : s k2 2 = nI n2) (n2b : n2 < 64) : EvS rSkel 2 94 [.inr (.inr (some 0)), .inr (.inr (some k)), .inr (.inr (some k2))] s (fun v t => v = none ∧ tkB s t k k2 n1 n2) := by
  refine wn_94 s k hk k2 hk2 ((c_fill (Sk := rSkel) (kb := 692) (nb := 128) arr692 (by decide) s (-1)).imp ?_)
  rintro _ t ⟨rfl, t0, t1⟩
  exact ⟨rfl, cx_94b (P := fun v t => v = none ∧ tkB s t k k2 n1 n2) hk hk2 hk9 hkk h1 n1b h2 n2b (fun t ht => ⟨rfl, ht⟩) n1 0 t (by omega) t0 (fun j hj => by rw [t1 j (by omega), if_neg (by omega)]) (fun j hj => t1 _ (by omega))⟩
theorem cV_atm1 (s : rSg) (sc kb nb : Nat) : atm1 (cV s sc kb nb) := fun c h1 h2 => by
  unfold cV
  rw [if_neg (by omega), if_pos (by omega)]
/-- what takeBoth makes is both answers side by side -/
theorem tkB_V {s t : rSg} {k k2 np tp nv1 nv2 : Nat} {p1 p2 : Nat → Nat} {fs1 ms1 fs2 ms2 : List Nat} {H1 H2 : Nat → Prop} {K1 K2 : Kx} (htn : tp ≤ np) (hn : np ≤ 640) (h1 : cCo s 7 (k + 1) tp np p1 nv1 fs1 ms1 H1 K1) (h2 : cCo s 7 (k2 + 1) tp np p2 nv2 fs2 ms2 H2 K2) (h : tkB s t k k2 nv1 nv2) : vAg (jDm (cDm nv1 tp fs1 ms1) (cDm nv2 tp fs2 ms2)) (jVw (cV s 7 (k + 1) 64) (cV s 7 (k2 + 1) 64)) (cV t 7 692 128) ∧ cWG t 7 692 128 np (jDm (cDm nv1 tp fs1 ms1) (cDm nv2 tp fs2 ms2)) := by
  have c1 := cDm_cod htn hn h1
  have c2 := cDm_cod htn hn h2
  have b1 := h1.2.1.1
  have b2 := h2.2.1.1
  obtain ⟨t0, t1, t2⟩ := h
  have e10 : t (7 + 3) = s (7 + 3) := t0 10 (by decide)
  have v1 : ∀ c, cDm nv1 tp fs1 ms1 c → c < 64 → c < nv1 := fun c hc hl => by
    rcases cFr_code h1.2.1 htn hc with q | q | ⟨_, q⟩ <;> omega
  have v2 : ∀ c, cDm nv2 tp fs2 ms2 c → c < 64 → c < nv2 := fun c hc hl => by
    rcases cFr_code h2.2.1 htn hc with q | q | ⟨_, q⟩ <;> omega
  have w1 := h1.1
  have w2 := h2.1
  have fx : ∀ c, 256 ≤ c → c < 896 → 896 ≤ 1280 := fun _ _ _ => by decide
  refine ⟨fun c hc => ?_, Or.inr rfl, hn, fun c hc => ?_, fun c hc g1 g2 => ?_, fun c hc g1 => ?_, fun i hi g1 => ?_⟩
  · rcases hc with hc | ⟨d, rfl, hd⟩
    · rw [jVw_D1 c1 hc]
      rcases c1 c hc with q | q | q
      · have := v1 c hc q
        unfold cV
        rw [if_pos (show c < 128 by omega), if_pos (show c < 128 by omega), t1 c q, if_pos this]
        by_cases z : s (k + 1) c = -1
        · rw [if_neg (fun w => w.2 z), if_neg (fun w => w.2 z)]
        · rw [if_pos ⟨by omega, z⟩, if_pos ⟨q, z⟩]
      · rw [cV_atm1 t 7 692 128 c q.1 q.2, cV_atm1 s 7 (k + 1) 64 c q.1 q.2]
      · unfold cV
        rw [if_neg (by omega), if_neg (by omega), if_pos (by omega), if_neg (by omega), if_neg (by omega), if_pos (by omega), e10]
    · rw [jVw_D2 c2 (cV_atm1 _ _ _ _) (cV_atm1 _ _ _ _) hd]
      rcases c2 d hd with q | q | q
      · have := v2 d hd q
        have e : sec d = 64 + d := by unfold sec; rw [if_neg (by omega), if_pos (by omega)]; omega
        rw [e]
        rcases w2.2.2.2.2.2 d hd q with z | ⟨c, z, zc⟩
        · have a1 : cV t 7 692 128 (64 + d) = none := by
            unfold cV
            rw [if_pos (by omega), t2 d q, if_pos this, z, asS_m1, if_neg (fun w => w.2 rfl)]
          have a2 : cV s 7 (k2 + 1) 64 d = none := by
            unfold cV
            rw [if_pos (by omega), if_neg (fun w => w.2 z)]
          rw [a1, a2]; rfl
        · have cc := c2 c zc
          have ls : sec c < 2 ^ 31 := by unfold sec; split <;> (try split) <;> omega
          have a1 : cV t 7 692 128 (64 + d) = some (.inl (sec c)) := by
            unfold cV
            rw [if_pos (by omega), t2 d q, if_pos this, z, asS_nI (by omega), if_pos ⟨by omega, nI_nem1 ls⟩, nI_clamp ls]
          have a2 : cV s 7 (k2 + 1) 64 d = some (.inl c) := by
            unfold cV
            rw [if_pos (by omega), z, if_pos ⟨q, nI_nem1 (by omega)⟩, nI_clamp (by omega)]
          rw [a1, a2]; rfl
      · rw [sec_atom q.1 (by omega), cV_atm1 t 7 692 128 d q.1 q.2, cV_atm1 s 7 (k2 + 1) 64 d q.1 q.2]; rfl
      · have e : sec d = d + 1024 := by unfold sec; rw [if_pos q.1]
        rw [e]
        unfold cV
        rw [if_neg (by omega), if_neg (by omega), if_neg (by omega), if_neg (by omega), if_neg (by omega), if_pos (by omega), e10, show d + 1024 - 1280 = d - 256 by omega]
        rfl
  · rcases hc with hc | ⟨d, rfl, hd⟩
    · rcases h1.1.2.2.1 c hc with q | ⟨q, _⟩
      · exact Or.inl q
      · exact absurd q (by decide)
    · have hF : cF np d := by
        rcases h2.1.2.2.1 d hd with q | ⟨q, _⟩
        · exact q
        · exact absurd q (by decide)
      rcases hF with q | q | q
      · refine Or.inr ⟨rfl, Or.inl ?_⟩
        unfold sec; rw [if_neg (by omega), if_pos (by omega)]; omega
      · rw [sec_atom q.1 (by omega)]; exact Or.inl (Or.inr (Or.inl q))
      · refine Or.inr ⟨rfl, Or.inr ?_⟩
        unfold sec; rw [if_pos (by omega)]; omega
  · rcases hc with hc | ⟨d, rfl, hd⟩
    · obtain ⟨a, b, q1, q2, q3, q4⟩ := w1.2.2.2.1 c hc g1 g2
      exact ⟨a, b, by rw [e10]; exact q1, by rw [e10]; exact q2, Or.inl q3, Or.inl q4⟩
    · exfalso
      rcases c2 d hd with q | q | q
      · unfold sec at g1; rw [if_neg (by omega), if_pos (by omega)] at g1; omega
      · rw [sec_atom q.1 (by omega)] at g1; omega
      · unfold sec at g2; rw [if_pos q.1] at g2; omega
  · rcases hc with hc | ⟨d, rfl, hd⟩
    · have := c1 c hc; omega
    · have hd2 : 256 ≤ d ∧ d < 896 := by
        rcases c2 d hd with q | q | q
        · unfold sec at g1; rw [if_neg (by omega), if_pos (by omega)] at g1; omega
        · rw [sec_atom q.1 (by omega)] at g1; omega
        · exact q
      have e : sec d = d + 1024 := by unfold sec; rw [if_pos hd2.1]
      obtain ⟨a, b, q1, q2, q3, q4⟩ := w2.2.2.2.1 d hd hd2.1 (by omega)
      have fa : cF np a := by
        rcases w2.2.2.1 a q3 with q | ⟨q, _⟩
        · exact q
        · exact absurd q (by decide)
      have fb : cF np b := by
        rcases w2.2.2.1 b q4 with q | ⟨q, _⟩
        · exact q
        · exact absurd q (by decide)
      refine ⟨a, b, ?_, ?_, fa, fb, Or.inr ⟨a, rfl, q3⟩, Or.inr ⟨b, rfl, q4⟩⟩
      · rw [e, e10, show d + 1024 - 1280 = d - 256 by omega]; exact q1
      · rw [e, e10, show d + 1024 - 1280 = d - 256 by omega]; exact q2
  · rcases hi with hi | ⟨d, rfl, hd⟩
    · have i64 : i < 64 := by rcases c1 i hi with q | q | q <;> omega
      rw [t1 i i64, if_pos (v1 i hi i64)]
      rcases w1.2.2.2.2.2 i hi i64 with z | ⟨c, z, zc⟩
      · exact Or.inl z
      · exact Or.inr ⟨c, z, Or.inl zc⟩
    · have d64 : d < 64 := by
        rcases c2 d hd with q | q | q
        · exact q
        · rw [sec_atom q.1 (by omega)] at g1; omega
        · unfold sec at g1; rw [if_pos q.1] at g1; omega
      have e : sec d = 64 + d := by unfold sec; rw [if_neg (by omega), if_pos (by omega)]; omega
      rw [e, t2 d d64, if_pos (v2 d hd d64)]
      rcases w2.2.2.2.2.2 d hd d64 with z | ⟨c, z, zc⟩
      · rw [z, asS_m1]; exact Or.inl rfl
      · have cc := c2 c zc
        rw [z, asS_nI (by omega)]
        exact Or.inr ⟨sec c, rfl, Or.inr ⟨c, rfl, zc⟩⟩
