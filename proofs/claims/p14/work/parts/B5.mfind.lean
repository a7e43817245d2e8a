/-! THE REFERENCE: the text of an answer -/
def rS (s : rSg) (A : Nat) : rSg := upC s 736 (ldF (fun j => s 743 (64 * A + j)))
theorem rS_ext {s t : rSg} {A : Nat} (h1 : t 727 = s 727) (h2 : t 728 = s 728) (h3 : t 743 = s 743) : mV (rS t A) = mV (rS s A) ∧ mKc (rS t A) = mKc (rS s A) := by
  have e6 : rS t A 736 = rS s A 736 := by unfold rS; rw [upC_same, upC_same, h3]
  have e7 : rS t A 727 = rS s A 727 := by unfold rS; rw [upC_ne _ _ (by decide), upC_ne _ _ (by decide), h1]
  have e8 : rS t A 728 = rS s A 728 := by unfold rS; rw [upC_ne _ _ (by decide), upC_ne _ _ (by decide), h2]
  have ev := mV_ext e7 e8 e6
  refine ⟨ev, ?_⟩
  funext c
  unfold mKc
  rw [ev, e7, e8]
/-- tx is the text of variable v in the answer that lies at A -/
def fTx (s : rSg) (T A v : Nat) (tx : List Int32) : Prop := WRun (mV (rS s A)) (mKc (rS s A)) (mD T) 200 [.inl (2 * v)] [] [] tx
theorem fTx_det {s : rSg} {T A v : Nat} (hb : bRow s T (fun j => s 743 (64 * A + j))) (hv : v < T) {tx ty : List Int32} (h1 : fTx s T A v tx) (h2 : fTx s T A v ty) : tx = ty := by
  obtain ⟨⟨hw, rk, hok⟩, _⟩ := hb
  have hT := hw.2.1
  refine WRun_det (V := mV (rS s A)) (K := mKc (rS s A)) (D := mD T) (rk := rk) hok (fun c a b hc hp => ?_) 200 _ _ _ _ _ (fun x hx1 c e => ?_) h1 h2
  · have hc : c < 2 * T := hc
    unfold mKc at hp
    split at hp
    · exact ⟨((hok c hc).2.2 a b hp).1.1, ((hok c hc).2.2 a b hp).2.1⟩
    · next q =>
      obtain ⟨x, y, ea, eb, la, lb⟩ := hw.2.2.1 (c / 2) (by omega) (by omega)
      have ea : rS s A 727 (c / 2) = nI x := ea
      have eb : rS s A 728 (c / 2) = nI y := eb
      rw [ea, eb, nI_clamp (by omega), nI_clamp (by omega)] at hp
      cases hp
      exact ⟨show 2 * x < 2 * T by omega, show 2 * y < 2 * T by omega⟩
  · rw [List.mem_singleton.mp hx1] at e
    cases e
    show 2 * v < 2 * T
    omega
theorem ms_167b {s0 : rSg} {A : Nat} (hA : A < 60) {P : Option rv → rSg → Prop} (hP : ∀ t, (∀ q, q ≠ 736 → t q = s0 q) → (∀ j, j < 64 → t 736 j = s0 743 (64 * A + j)) → (∀ j, 64 ≤ j → t 736 j = s0 736 j) → P none t) : ∀ (n y : Nat) (t : rSg), y + n = 64 → (∀ q, q ≠ 736 → t q = s0 q) → (∀ j, j < y → t 736 j = s0 743 (64 * A + j)) → (∀ j, 64 ≤ j → t 736 j = s0 736 j) → g_167_16 (nI A) (nI y) t P := by
  intro n
  induction n with
  | zero =>
    intro y t hy h1 h2 h3
    obtain rfl : y = 64 := by omega
    exact w_167_16 t _ _ ⟨fun _ => hP t h1 h2 h3, fun q => absurd (nI_le (a := 64) (b := 64) (by decide) (by decide)) q⟩
  | succ n ih =>
    intro y t hy h1 h2 h3
    refine w_167_16 t _ _ ⟨fun q => absurd ((nI_leI (a := 64) (by decide) (by omega)).mp q) (by omega), fun _ => ?_⟩
    have e : 64 * nI A + nI y = nI (64 * A + y) := by rw [show (64 : Int32) = nI 64 from rfl, pk_mul, nI_add]
    rw [e, nI_clamp (by omega), nI_clamp (by omega), nI_1]
    refine ⟨rIn_nI (by omega) (by decide), rIn_nI (by omega) (by decide), ih (y + 1) _ (by omega) (fun q hq => ?_) (fun j hj => ?_) (fun j hj => ?_)⟩
    · rw [up2_nk _ _ _ hq]; exact h1 q hq
    · by_cases hjy : j = y
      · subst hjy
        rw [up2_same, h1 743 (by decide)]
      · rw [up2_nj _ _ _ hjy]; exact h2 j (by omega)
    · rw [up2_nj _ _ _ (by omega)]; exact h3 j hj
/-- loadsAnswer -/
theorem ms_167 {s : rSg} {z i : Nat} (h21 : s 725 21 = nI z) (hz : z < 2) (hi : i < 30) : EvS rSkel 2 167 [.inr (.inr (some 725)), .inl (nI i)] s (fun v t => v = none ∧ (∀ j, j < 128 → t 736 j = ldF (fun j => s 743 (64 * (30 * z + i) + j)) j) ∧ t 725 16 = nI 0 ∧ mK [736] [16] s t) := by
  refine w_167 s _ ((ev_m_empties 0 s).imp ?_)
  rintro _ _ ⟨rfl, rfl⟩
  have k : mK [736] [16] s (mEmp s) := by
    unfold mEmp
    refine mK.upF ?_ (by simp)
    exact ⟨fun q g1 g2 => upC_ne _ _ (fun e => g2 (by simp [e])), fun j _ => by rw [upC_ne _ _ (by decide)]⟩
  have e16 : mEmp s 725 16 = nI 0 := by unfold mEmp; rw [up2_same]; rfl
  have em : ∀ j, j < 128 → mEmp s 736 j = -9 := fun j hj => by
    unfold mEmp
    rw [up2_nk _ _ _ (by decide), upC_same]
    unfold fillF
    rw [if_pos (by omega)]
  generalize mEmp s = u at k e16 em
  refine ⟨rfl, ?_⟩
  rw [k.2 21 (by simp), h21, show (30 : Int32) * nI z + nI i = nI (30 * z + i) from by rw [show (30 : Int32) = nI 30 from rfl, pk_mul, nI_add]]
  refine ms_167b (s0 := u) (by omega) (fun t h1 h2 h3 => ⟨rfl, fun j hj => ?_, by rw [h1 725 (by decide)]; exact e16, k.trans ⟨fun q g1 g2 => h1 q (fun e => g2 (by simp [e])), fun j _ => by rw [h1 725 (by decide)]⟩⟩) 64 0 u rfl (fun _ _ => rfl) (fun j hj => absurd hj (by omega)) (fun _ _ => rfl)
  unfold ldF
  split
  · next q => rw [h2 j q, k.1 743 (by decide) (by simp)]
  · rw [h3 j (by omega), em j hj]
def kF : List Nat := [736, 738, 756, 757]
def jF : List Nat := [16, 17, 51, 52]
/-- findText -/
theorem ms_166 {s : rSg} {z T G L h w a i v : Nat} (hs : RS s z T G L h w a) (hi : i < a) (hv : v < 6) : EvS rSkel 5 166 [.inr (.inr (some 725)), .inl (nI i), .inl (nI v)] s (fun r t => r = none ∧ mK kF jF s t ∧ ∃ tx, fTx s T (30 * z + i) v tx ∧ tx5 t tx) := by
  have ha := hs.2.2.2.2.1.2
  have b1 := hs.1.1
  refine w_166 s _ _ ((ms_167 hs.2.1.1 hs.2.1.2 (by omega)).imp ?_)
  rintro _ t ⟨rfl, t6, t16, k⟩
  have hb := hs.2.2.2.2.2.2 i hi
  have e1 : ∀ j, j < T → t 727 j = s 727 j ∧ t 728 j = s 728 j := fun j _ => by rw [k.1 727 (by decide) (by simp), k.1 728 (by decide) (by simp)]; exact ⟨rfl, rfl⟩
  have hst : mSt t T := bRow_load hb (hs.1.2.2.1.ext e1) e1 t6
  refine ⟨rfl, (ms_168 hst (by omega)).imp ?_⟩
  rintro _ u ⟨rfl, ku, tx, h1, h2⟩
  have ev : mV t = mV (rS s (30 * z + i)) := by
    funext c
    unfold mV
    by_cases q : c / 2 < 64
    · rw [if_pos q, if_pos q, t6 _ (opn_lt q), show rS s (30 * z + i) 736 (opn c) = ldF (fun j => s 743 (64 * (30 * z + i) + j)) (opn c) from by unfold rS; rw [upC_same]]
    · rw [if_neg q, if_neg q, k.1 727 (by decide) (by simp), k.1 728 (by decide) (by simp), show rS s (30 * z + i) 727 = s 727 from upC_ne _ _ (by decide), show rS s (30 * z + i) 728 = s 728 from upC_ne _ _ (by decide)]
  have ek : mKc t = mKc (rS s (30 * z + i)) := by
    funext c
    unfold mKc
    rw [ev, k.1 727 (by decide) (by simp), k.1 728 (by decide) (by simp), show rS s (30 * z + i) 727 = s 727 from upC_ne _ _ (by decide), show rS s (30 * z + i) 728 = s 728 from upC_ne _ _ (by decide)]
  rw [ev, ek] at h1
  exact ⟨rfl, rfl, (k.mono (by simp [kF]) (by simp [jF])).trans (ku.mono (by simp [kT, kF]) (by simp [jT, jF])), tx, h1, h2⟩
theorem kF_I : ∀ q, q ∈ kF → q ∈ kI := by simp [kF, kI]
theorem jF_I : ∀ q, q ∈ jF → q ∈ jI := by simp [jF, jI]
theorem mi_find {s t : rSg} (h : MI s) (k : mK kF jF s t) : aft s t := h.aft (k.mono kF_I jF_I) (k.1 752 (by decide) (by simp [kF]))
theorem mi_length {s : rSg} (h : MI s) (x y : Int32) : EvS rSkel 6 163 [.inr (.inr (some 725)), .inl x, .inl y] s (fun v t => iRet v ∧ aft s t) := by
  obtain ⟨T, G, L, hd, w, a, st, g, hb⟩ := h.b
  have ha := hb.1.2.2.2.2.1
  refine w_163 s x y (ms_164 ha.1 ha.2 x (fun i hi e => ⟨_, rfl, fun q => absurd q (by decide), fun _ => ms_165 s y (fun j hj e2 => ⟨_, rfl, fun _ => ?_, fun q => absurd (by decide) q⟩) ⟨_, rfl, fun q => absurd rfl q, fun _ => mi_no h (by decide)⟩⟩) ⟨_, rfl, fun _ => mi_no h (by decide), fun q => absurd rfl q⟩)
  rw [e, e2]
  refine (ms_166 hb.1 hi hj).imp ?_
  rintro _ t ⟨rfl, k, _⟩
  exact ⟨rfl, ⟨_, rfl⟩, mi_find h k⟩
theorem mi_text {s : rSg} (h : MI s) (x y z : Int32) : EvS rSkel 6 172 [.inr (.inr (some 725)), .inl x, .inl y, .inl z] s (fun v t => iRet v ∧ aft s t) := by
  obtain ⟨T, G, L, hd, w, a, st, g, hb⟩ := h.b
  have ha := hb.1.2.2.2.2.1
  refine w_172 s x y z (ms_164 ha.1 ha.2 x (fun i hi e => ⟨_, rfl, fun q => absurd q (by decide), fun _ => ms_165 s y (fun j hj e2 => ⟨_, rfl, fun _ => ⟨fun hz => ?_, fun _ => mi_no h (by decide)⟩, fun q => absurd (by decide) q⟩) ⟨_, rfl, fun q => absurd rfl q, fun _ => mi_no h (by decide)⟩⟩) ⟨_, rfl, fun _ => mi_no h (by decide), fun q => absurd rfl q⟩)
  rw [e, e2]
  refine (ms_166 hb.1 hi hj).imp ?_
  rintro _ t ⟨rfl, k, tx, _, t1, t2, _⟩
  refine ⟨rfl, fun _ => ⟨⟨_, rfl⟩, mi_find h k⟩, fun q => ⟨?_, ⟨_, rfl⟩, mi_find h k⟩⟩
  obtain ⟨m, hm, rfl⟩ := nn_of (Int32.not_lt.mpr hz)
  have : m < tx.length := by
    have : ¬ tx.length ≤ m := fun r => q (by rw [t1]; exact nI_le r hm)
    omega
  exact rIn_nI (by omega) (by decide)
/-! judge -/
theorem ms_198b {s t : rSg} {tx : List Int32} (ht : tx5 t tx) {n : Nat} (hn : n ≤ 32) {P : Option rv → rSg → Prop} (hP : ∀ r, P (some (.inl r)) t) : ∀ (m y : Nat), y + m = n → g_198_32 (nI n) (nI y) t P := by
  intro m
  induction m with
  | zero =>
    intro y hy
    obtain rfl : y = n := by omega
    exact w_198_32 t _ _ ⟨fun _ => ⟨fun _ => hP _, fun _ => hP _⟩, fun q => absurd (nI_le (by omega) (by omega)) q⟩
  | succ m ih =>
    intro y hy
    refine w_198_32 t _ _ ⟨fun q => absurd ((nI_leI (by omega) (by omega)).mp q) (by omega), fun _ => ⟨fun _ => hP _, fun q => ⟨rIn_nI (by omega) (by decide), rIn_nI (by omega) (by decide), fun _ => ?_, fun _ => hP _⟩⟩⟩
    rw [nI_1]
    exact ih (y + 1) (by omega)
theorem mi_judge {s : rSg} (h : MI s) (x : Int32) : EvS rSkel 6 198 [.inr (.inr (some 725)), .inl x] s (fun v t => iRet v ∧ aft s t) := by
  obtain ⟨T, G, L, hd, w, a, st, g, hb⟩ := h.b
  have ha := hb.1.2.2.2.2.1
  obtain ⟨m, h58, hm⟩ := hb.2.2.2.2.2.1
  obtain ⟨n, h39, hn⟩ := hb.2.2.2.2.1
  refine w_198 s x (ms_164 ha.1 ha.2 x (fun i hi e => ⟨_, rfl, fun _ => ?_, fun q => absurd (by decide) q⟩) ⟨_, rfl, fun q => absurd rfl q, fun _ => mi_no h (by decide)⟩)
  rw [e, h58]
  have r1 := (hb.1.keep (t := up2 s 725 58 0) (fun q hq => up2_nk _ _ _ (by omega)) (fun j hj => up2_nj _ _ _ (by omega))).1
  refine (ms_166 (v := 0) r1 hi (by decide)).imp ?_
  rintro _ t ⟨rfl, k, tx, _, t5⟩
  have k2 : mK kI (jI ++ [39, 58]) s t := ((mK.rfl'.upF (by simp)).trans ((k.mono kF_I jF_I).mono (fun _ q => q) (fun _ q => List.mem_append_left _ q)))
  have f : aft s t := ⟨h.of k2 ⟨n, by rw [k.2 39 (by simp [jF]), up2_nj _ _ _ (by decide)]; exact h39, hn⟩ ⟨0, by rw [k.2 58 (by simp [jF]), up2_same]; rfl, by decide⟩, k2.C kI_ge, by rw [k.1 752 (by decide) (by simp [kF]), up2_nk _ _ _ (by decide)], by rw [k.2 39 (by simp [jF]), up2_nj _ _ _ (by decide)]⟩
  exact ⟨rfl, ms_198b (s := s) t5 hm (fun r => ⟨⟨_, rfl⟩, f⟩) m 0 (by omega)⟩
/-! which -/
theorem ms_196b {t : rSg} {m : Nat} (h58 : t 725 58 = nI m) (hm : m ≤ 32) {P : Option rv → rSg → Prop} (hP : ∀ r, rBool r = true → P (some (.inl r)) t) : ∀ (n y : Nat) (b : Int32), y + n = m → (b = 0 ∨ b = 1) → g_196_19 b (nI y) t P := by
  intro n
  induction n with
  | zero =>
    intro y b hy hb
    obtain rfl : y = m := by omega
    have r : rBool b = true := by rcases hb with rfl | rfl <;> decide
    exact w_196_19 t _ _ ⟨fun _ => ⟨r, hP b r⟩, fun q => absurd (by rw [h58]; exact nI_le (by omega) (by omega)) q⟩
  | succ n ih =>
    intro y b hy hb
    have r : rBool b = true := by rcases hb with rfl | rfl <;> decide
    refine w_196_19 t _ _ ⟨fun q => absurd ((nI_leI (a := m) (b := y) (by omega) (by omega)).mp (by rw [h58] at q; exact q)) (by omega), fun _ => ⟨fun _ => ⟨r, hP b r⟩, fun _ => ⟨rIn_nI (by omega) (by decide), rIn_nI (by omega) (by decide), fun _ => ?_, fun _ => ?_⟩⟩⟩
    · rw [nI_1]; exact ih (y + 1) 0 (by omega) (Or.inl rfl)
    · rw [nI_1]; exact ih (y + 1) 1 (by omega) (Or.inr rfl)
theorem ms_196 {t : rSg} {m : Nat} (h58 : t 725 58 = nI m) (hm : m ≤ 32) : EvS rSkel 1 196 [.inr (.inr (some 725))] t (fun v u => ∃ r, v = some (.inl r) ∧ rBool r = true ∧ u = t) := w_196 t ⟨fun _ => ms_196b h58 hm (fun r hr => ⟨r, rfl, hr, rfl⟩) m 0 0 (by omega) (Or.inl rfl), fun _ => ms_196b h58 hm (fun r hr => ⟨r, rfl, hr, rfl⟩) m 0 1 (by omega) (Or.inr rfl)⟩
theorem ms_195 {s : rSg} (h : MI s) {x y : Nat} (hx1 : x < 6) (hy : y < 10) : EvS rSkel 17 195 [.inr (.inr (some 725)), .inl (nI x), .inl (nI y)] s (fun v t => ∃ n : Int32, v = some (.inl n) ∧ aft s t) := by
  obtain ⟨T, G, L, hd, w, a, st, g, hb⟩ := h.b
  obtain ⟨m, h58, hm⟩ := hb.2.2.2.2.2.1
  refine w_195 s _ _ ((ms_183 hb.1.1).imp ?_)
  rintro _ t ⟨rfl, t1, t2, t3, t4⟩
  refine ⟨rfl, (ms_187 hb t2 t1 (by rw [t4]; exact hb.2.2.2.1.1) hx1 hy).imp ?_⟩
  rintro _ u ⟨rfl, u1, T3, G3, L3, h3, w3, a3, r3, l1, l2, l3⟩
  refine ⟨rfl, fun _ => (ms_184 hb u1).imp ?_, fun q => ?_⟩
  · rintro _ v ⟨rfl, v1, _⟩
    exact ⟨rfl, _, rfl, v1⟩
  · have ha := r3.2.2.2.2.1
    have a0 : 0 < a3 := by
      have : ¬ a3 ≤ 0 := fun r => q (by rw [ha.1]; exact nI_le r (by decide))
      omega
    refine (ms_166 (i := 0) (v := 0) r3 a0 (by decide)).imp ?_
    rintro _ v ⟨rfl, k, _⟩
    have mv : mid s T G L v := u1.K (Nat.le_refl _) (Nat.le_refl _) (Nat.le_refl _) (k.hx (fun k a b => by simp [kF]; omega)) k (by simp [kF, kM, kZ]) (fun k a b => by simp [kF]; omega) (by simp [jF, jM, jZ]) (by simp [jF])
    refine ⟨rfl, (ms_196 (m := m) (by rw [mv.2.2.2.2 58 (by simp [jM, jZ])]; exact h58) hm).imp ?_⟩
    rintro _ _ ⟨r, rfl, hr, rfl⟩
    refine ⟨r, rfl, (ms_184 hb mv).imp ?_⟩
    rintro _ z ⟨rfl, z1, _⟩
    exact ⟨rfl, hr, _, rfl, z1⟩
theorem ms_194b {s : rSg} {x : Nat} (hx1 : x < 6) : ∀ (m y : Nat) (b : Int32) (t : rSg), y + m = 10 → aft s t → g_194_17 (nI x) b (nI y) t (fun v u => iRet v ∧ aft s u) := by
  intro m
  induction m with
  | zero =>
    intro y b t hy ht
    obtain rfl : y = 10 := by omega
    exact w_194_17 t _ _ _ ⟨fun _ => ⟨⟨_, rfl⟩, ht⟩, fun q => absurd (by decide) q⟩
  | succ m ih =>
    intro y b t hy ht
    refine w_194_17 t _ _ _ ⟨fun q => absurd ((nI_leI (a := 10) (by decide) (by omega)).mp q) (by omega), fun _ => (ms_195 ht.1 hx1 (by omega)).imp ?_⟩
    rintro _ u ⟨n, rfl, hu⟩
    refine ⟨n, rfl, fun _ => ?_, fun _ => ?_⟩
    · rw [nI_1]; exact ih (y + 1) _ u (by omega) (ht.trans hu)
    · rw [nI_1]; exact ih (y + 1) _ u (by omega) (ht.trans hu)
theorem mi_which {s : rSg} (h : MI s) (x : Int32) : EvS rSkel 18 194 [.inr (.inr (some 725)), .inl x] s (fun v t => iRet v ∧ aft s t) := by
  refine w_194 s x (ms_165 s x (fun i hi e => ⟨_, rfl, fun _ => ?_, fun q => absurd (by decide) q⟩) ⟨_, rfl, fun q => absurd rfl q, fun _ => mi_no h (by decide)⟩)
  rw [e]
  exact ms_194b hi 10 0 0 s rfl (mi_same h)
