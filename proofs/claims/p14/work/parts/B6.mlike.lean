/-! THE REFERENCE: earliest, different, meet -/
def kL : List Nat := [736, 738, 756, 757, 758]
theorem kL_I : ∀ q, q ∈ kL → q ∈ kI := by simp [kL, kI]
theorem mi_like {s t : rSg} (h : MI s) (k : mK kL jF s t) : aft s t := h.aft (k.mono kL_I jF_I) (k.1 752 (by decide) (by simp [kL]))
theorem RS.L {s t : rSg} {z T G L h w a : Nat} (hs : RS s z T G L h w a) (k : mK kL jF s t) : RS t z T G L h w a := (hs.keep (t := t) (fun q hq => k.1 q (by omega) (by simp [kL]; omega)) (fun j hj => k.2 j (by simp [jF]; omega))).1
theorem fTx.L {s t : rSg} {T A v : Nat} {tx : List Int32} (h : fTx s T A v tx) (k : mK kL jF s t) : fTx t T A v tx := by
  have e := rS_ext (s := s) (t := t) (A := A) (k.1 727 (by decide) (by simp [kL])) (k.1 728 (by decide) (by simp [kL])) (k.1 743 (by decide) (by simp [kL]))
  unfold fTx
  rw [e.1, e.2]
  exact h
/-- the other text that is held -/
def ot (s : rSg) (tx : List Int32) : Prop := ∀ j x, tx[j]? = some x → s 758 j = x
theorem ms_179b {t : rSg} {tx ty : List Int32} (ho : ot t tx) (ht : tx5 t ty) (hl : tx.length ≤ 200) {P : Option rv → rSg → Prop} (hP : ∀ r, rBool r = true → (tx = ty → r = 1) → P (some (.inl r)) t) : ∀ (n y : Nat) (b : Int32), y + n = tx.length → (b = 0 ∨ b = 1) → (tx = ty → b = 1) → g_179_24 (nI tx.length) b (nI y) t P := by
  intro n
  induction n with
  | zero =>
    intro y b hy hb he
    obtain rfl : y = tx.length := by omega
    have r : rBool b = true := by rcases hb with rfl | rfl <;> decide
    exact w_179_24 t _ _ _ ⟨fun _ => ⟨r, hP b r he⟩, fun q => absurd (nI_le (by omega) (by omega)) q⟩
  | succ n ih =>
    intro y b hy hb he
    have r : rBool b = true := by rcases hb with rfl | rfl <;> decide
    refine w_179_24 t _ _ _ ⟨fun q => absurd ((nI_leI (by omega) (by omega)).mp q) (by omega), fun _ => ⟨fun _ => ⟨r, hP b r he⟩, fun _ => ⟨rIn_nI (by omega) (by decide), rIn_nI (by omega) (by decide), fun hne => ?_, fun _ => ?_⟩⟩⟩
    · rw [nI_1]
      refine ih (y + 1) 0 (by omega) (Or.inl rfl) (fun e => absurd ?_ hne)
      rw [nI_clamp (by omega)]
      have g : tx[y]? = some tx[y] := List.getElem?_eq_getElem (by omega)
      rw [ho y _ g, ht.2.2 y _ (by rw [← e]; exact g)]
    · rw [nI_1]
      exact ih (y + 1) 1 (by omega) (Or.inr rfl) (fun _ => rfl)
/-- isTextLike -/
theorem ms_179 {s : rSg} {T G L h w a i v : Nat} (hs : RS s 0 T G L h w a) (hi : i < a) (hv : v < 6) {tx : List Int32} (ho : ot s tx) (hl : tx.length ≤ 200) : EvS rSkel 6 179 [.inr (.inr (some 725)), .inl (nI i), .inl (nI v), .inl (nI tx.length)] s (fun r t => ∃ b, r = some (.inl b) ∧ mK kF jF s t ∧ (fTx s T (30 * 0 + i) v tx → b = 1)) := by
  have b1 := hs.1.1
  refine w_179 s _ _ _ ((ms_166 hs hi hv).imp ?_)
  rintro _ t ⟨rfl, k, ty, f1, f2⟩
  have ot' : ot t tx := fun j x q => by rw [k.1 758 (by decide) (by simp [kF])]; exact ho j x q
  have key : fTx s T (30 * 0 + i) v tx → tx = ty := fun f => fTx_det (hs.2.2.2.2.2.2 i hi) (by omega) f f1
  have out : ∀ b : Int32, (b = 0 ∨ b = 1) → (tx = ty → b = 1) → g_179_24 (nI tx.length) b 0 t (fun r t => ∃ b, r = some (.inl b) ∧ mK kF jF s t ∧ (fTx s T (30 * 0 + i) v tx → b = 1)) := fun b hb he => ms_179b ot' f2 hl (fun r _ hr => ⟨r, rfl, k, fun f => hr (key f)⟩) tx.length 0 b (by omega) hb he
  exact ⟨rfl, fun hne => out 0 (Or.inl rfl) (fun e => absurd (by rw [e]; exact f2.1) hne), fun _ => out 1 (Or.inr rfl) (fun _ => rfl)⟩
theorem ms_178c {s : rSg} {T G L h w a i v : Nat} (hs : RS s 0 T G L h w a) (hi : i < a) (hv : v < 6) {tx : List Int32} (hl : tx.length ≤ 200) (hf : fTx s T (30 * 0 + i) v tx) {P : Option rv → rSg → Prop} (hP : ∀ r t, mK kL jF s t → P (some (.inl r)) t) : ∀ (n y : Nat) (t : rSg), y + n = i → mK kL jF s t → ot t tx → g_178_43 (nI v) (nI tx.length) (nI y) t P := by
  have a9 := hs.2.2.2.2.1.2
  intro n
  induction n with
  | zero =>
    intro y t hy k ho
    obtain rfl : y = i := by omega
    refine w_178_43 t _ _ _ ((ms_179 (hs.L k) hi hv ho hl).imp ?_)
    rintro _ u ⟨b, rfl, ku, hb⟩
    have := hb (hf.L k)
    subst this
    exact ⟨_, rfl, fun _ => hP _ u (k.trans (ku.mono (by simp [kF, kL]) (fun _ q => q))), fun q => absurd (by decide) q⟩
  | succ n ih =>
    intro y t hy k ho
    refine w_178_43 t _ _ _ ((ms_179 (i := y) (hs.L k) (by omega) hv ho hl).imp ?_)
    rintro _ u ⟨b, rfl, ku, hb⟩
    have k2 := k.trans (ku.mono (ks2 := kL) (by simp [kF, kL]) (fun _ q => q))
    refine ⟨_, rfl, fun _ => hP _ u k2, fun _ => ?_⟩
    rw [nI_1]
    exact ih (y + 1) u (by omega) k2 (fun j x q => by rw [ku.1 758 (by decide) (by simp [kF])]; exact ho j x q)
theorem ms_178b {s0 : rSg} {tx : List Int32} {v : Int32} (hl : tx.length ≤ 200) (h5 : ∀ j x, tx[j]? = some x → s0 756 j = x) {P : Option rv → rSg → Prop} (hP : ∀ t, mK [758] [] s0 t → ot t tx → g_178_43 v (nI tx.length) 0 t P) : ∀ (n y : Nat) (t : rSg), y + n = tx.length → mK [758] [] s0 t → (∀ j x, j < y → tx[j]? = some x → t 758 j = x) → g_178_14 v (nI tx.length) (nI y) t P := by
  intro n
  induction n with
  | zero =>
    intro y t hy k h
    obtain rfl : y = tx.length := by omega
    exact w_178_14 t _ _ _ ⟨fun _ => hP t k (fun j x q => h j x (List.getElem?_eq_some_iff.mp q).1 q), fun q => absurd (nI_le (by omega) (by omega)) q⟩
  | succ n ih =>
    intro y t hy k h
    refine w_178_14 t _ _ _ ⟨fun q => absurd ((nI_leI (by omega) (by omega)).mp q) (by omega), fun _ => ⟨rIn_nI (by omega) (by decide), rIn_nI (by omega) (by decide), ?_⟩⟩
    rw [nI_clamp (by omega), nI_1]
    refine ih (y + 1) _ (by omega) (k.up (by simp) (by decide)) (fun j x hj q => ?_)
    by_cases e : j = y
    · subst e
      rw [up2_same, k.1 756 (by decide) (by simp)]
      exact h5 j x q
    · rw [up2_nj _ _ _ e]
      exact h j x (by omega) q
/-- earliestLike -/
theorem ms_178 {s : rSg} {T G L h w a i v : Nat} (hs : RS s 0 T G L h w a) (hi : i < a) (hv : v < 6) : EvS rSkel 7 178 [.inr (.inr (some 725)), .inl (nI i), .inl (nI v)] s (fun r t => ∃ n : Int32, r = some (.inl n) ∧ mK kL jF s t) := by
  refine w_178 s _ _ ((ms_166 hs hi hv).imp ?_)
  rintro _ t ⟨rfl, k, tx, f1, f2⟩
  have k1 : mK kL jF s t := k.mono (by simp [kF, kL]) (fun _ q => q)
  refine ⟨rfl, ?_⟩
  rw [f2.1]
  refine ms_178b (s0 := t) f2.2.1 f2.2.2 (fun u ku ho => ?_) tx.length 0 t (by omega) mK.rfl' (fun j x hj => absurd hj (by omega))
  have k2 : mK kL jF s u := k1.trans (ku.mono (by simp [kL]) (by simp))
  exact ms_178c hs hi hv f2.2.1 f1 (fun r z kz => ⟨r, rfl, kz⟩) i 0 u (by omega) k2 ho
theorem mi_earliest {s : rSg} (h : MI s) (x y : Int32) : EvS rSkel 8 180 [.inr (.inr (some 725)), .inl x, .inl y] s (fun v t => iRet v ∧ aft s t) := by
  obtain ⟨T, G, L, hd, w, a, st, g, hb⟩ := h.b
  have ha := hb.1.2.2.2.2.1
  refine w_180 s x y (ms_164 ha.1 ha.2 x (fun i hi e => ⟨_, rfl, fun q => absurd q (by decide), fun _ => ms_165 s y (fun j hj e2 => ⟨_, rfl, fun q => absurd q (by decide), fun _ => ?_⟩) ⟨_, rfl, fun _ => mi_no h (by decide), fun q => absurd rfl q⟩⟩) ⟨_, rfl, fun _ => mi_no h (by decide), fun q => absurd rfl q⟩)
  rw [e, e2]
  refine (ms_178 hb.1 hi hj).imp ?_
  rintro _ t ⟨n, rfl, k⟩
  exact ⟨n, rfl, ⟨_, rfl⟩, mi_like h k⟩
theorem ms_177b {s : rSg} {T G L h w a v : Nat} (hs : RS s 0 T G L h w a) (hv : v < 6) {P : Option rv → rSg → Prop} (hP : ∀ r t, mK kL jF s t → P (some (.inl r)) t) : ∀ (n y : Nat) (b : Int32) (t : rSg), y + n = a → mK kL jF s t → g_177_17 (nI v) b (nI y) t P := by
  have a9 := hs.2.2.2.2.1
  intro n
  induction n with
  | zero =>
    intro y b t hy k
    obtain rfl : y = a := by omega
    exact w_177_17 t _ _ _ ⟨fun _ => hP _ t k, fun q => absurd (by rw [k.1 748 (by decide) (by simp [kL]), a9.1]; exact nI_le (by omega) (by omega)) q⟩
  | succ n ih =>
    intro y b t hy k
    refine w_177_17 t _ _ _ ⟨fun q => absurd ((nI_leI (a := a) (b := y) (by omega) (by omega)).mp (by rw [k.1 748 (by decide) (by simp [kL]), a9.1] at q; exact q)) (by omega), fun _ => (ms_178 (hs.L k) (by omega) hv).imp ?_⟩
    rintro _ u ⟨m, rfl, ku⟩
    refine ⟨m, rfl, fun _ => ?_, fun _ => ?_⟩
    · rw [nI_1]; exact ih (y + 1) _ u (by omega) (k.trans ku)
    · rw [nI_1]; exact ih (y + 1) _ u (by omega) (k.trans ku)
theorem mi_different {s : rSg} (h : MI s) (x : Int32) : EvS rSkel 8 177 [.inr (.inr (some 725)), .inl x] s (fun v t => iRet v ∧ aft s t) := by
  obtain ⟨T, G, L, hd, w, a, st, g, hb⟩ := h.b
  refine w_177 s x (ms_165 s x (fun i hi e => ⟨_, rfl, fun _ => ?_, fun q => absurd (by decide) q⟩) ⟨_, rfl, fun q => absurd rfl q, fun _ => mi_no h (by decide)⟩)
  rw [e]
  exact ms_177b hb.1 hi (fun r t k => ⟨⟨_, rfl⟩, mi_like h k⟩) a 0 0 s (by omega) mK.rfl'
/-! meet: the two answers, one beside the other -/
theorem mSt_two {s : rSg} {T : Nat} (hP : hpP s T) {f g : Nat → Int32} (hf : bRow s T f) (hg : bRow s T g) {t : rSg} (e : ∀ j, j < T → t 727 j = s 727 j ∧ t 728 j = s 728 j) (e1 : ∀ j, j < 64 → t 736 j = f j) (e2 : ∀ j, j < 64 → t 736 (64 + j) = if g j < 0 then -9 else g j + 1) : mSt t T := by
  obtain ⟨⟨wf, rk, hok⟩, evf⟩ := hf
  obtain ⟨⟨wg, rk2, hok2⟩, evg⟩ := hg
  obtain ⟨t1, t2, _, w4⟩ := wf
  have w5 := wg.2.2.2
  have hP2 := hP.ext e
  have f4 : ∀ j, j < 64 → f j = -9 ∨ ∃ c, f j = nI (2 * c) ∧ 2 * c < 2 * T := fun j hj => by
    have := w4 j (by omega)
    rw [upC_same] at this
    unfold ldF at this
    rw [if_pos hj] at this
    rcases evf j hj with q | ⟨c, q, hc⟩
    · exact Or.inl q
    · rcases this with z | ⟨d, z, hd⟩
      · exact Or.inl z
      · exact Or.inr ⟨c, q, by rw [q] at z; have := nI_inj (by omega) (by omega) z; omega⟩
  have g4 : ∀ j, j < 64 → g j = -9 ∨ ∃ c, g j = nI (2 * c) ∧ 2 * c < 2 * T := fun j hj => by
    have := w5 j (by omega)
    rw [upC_same] at this
    unfold ldF at this
    rw [if_pos hj] at this
    rcases evg j hj with q | ⟨c, q, hc⟩
    · exact Or.inl q
    · rcases this with z | ⟨d, z, hd⟩
      · exact Or.inl z
      · exact Or.inr ⟨c, q, by rw [q] at z; have := nI_inj (by omega) (by omega) z; omega⟩
  have b1 : ∀ j, j < 64 → t 736 j = -9 ∨ ∃ c, t 736 j = nI (2 * c) ∧ 2 * c < 2 * T := fun j hj => by rw [e1 j hj]; exact f4 j hj
  have b2 : ∀ j, j < 64 → t 736 (64 + j) = -9 ∨ ∃ c, t 736 (64 + j) = nI (2 * c + 1) ∧ 2 * c < 2 * T ∧ g j = nI (2 * c) := fun j hj => by
    rw [e2 j hj]
    rcases g4 j hj with q | ⟨c, q, hc⟩
    · rw [q, if_pos (by decide)]; exact Or.inl rfl
    · rw [q, if_neg (nI_pos (by omega)), nI_1]; exact Or.inr ⟨c, rfl, hc, rfl⟩
  refine ⟨⟨t1, t2, fun q h1 h2 => ?_, fun i hi => ?_⟩, ?_⟩
  · obtain ⟨a, b, r1, r2, r3, r4⟩ := hP2 q h1 h2
    exact ⟨a, b, r1, r2, by omega, by omega⟩
  · by_cases q : i < 64
    · rcases b1 i q with z | ⟨c, z, hc⟩
      · exact Or.inl z
      · exact Or.inr ⟨_, z, hc⟩
    · have := b2 (i - 64) (by omega)
      rw [show 64 + (i - 64) = i by omega] at this
      rcases this with z | ⟨c, z, hc, _⟩
      · exact Or.inl z
      · exact Or.inr ⟨_, z, by omega⟩
  · refine ⟨fun c => if c % 2 = 0 then rk c else rk2 (c - 1), fun c hc => ?_⟩
    have hc : c < 2 * T := hc
    by_cases h1 : c / 2 < 64
    · by_cases hev : c % 2 = 0
      · have eo : opn c = c / 2 := by unfold opn; omega
        rcases b1 (c / 2) h1 with z | ⟨d, z, hd⟩
        · have : mV t c = none := by unfold mV; rw [if_pos h1, eo, z, if_pos (by decide)]
          rw [this]; exact ⟨fun _ z => (by cases z), fun _ z => (by cases z), fun _ _ z => (by cases z)⟩
        · have ev : mV t c = some (.inl (2 * d)) := by unfold mV; rw [if_pos h1, eo, z, if_neg (nI_pos (by omega)), nI_clamp (by omega)]
          have ev2 : mV (upC s 736 (ldF f)) c = some (.inl (2 * d)) := by
            unfold mV
            rw [if_pos h1, eo, upC_same, show ldF f (c / 2) = f (c / 2) from if_pos h1, ← e1 _ h1, z, if_neg (nI_pos (by omega)), nI_clamp (by omega)]
          have := (hok c hc).1 _ ev2
          rw [ev]
          refine ⟨fun y q => ?_, fun _ q => (by cases q), fun _ _ q => (by cases q)⟩
          cases q
          refine ⟨show 2 * d < 2 * T by omega, ?_⟩
          simp only
          rw [if_pos (by omega), if_pos hev]
          exact this.2
      · have eo : opn c = 64 + c / 2 := by unfold opn; omega
        rcases b2 (c / 2) h1 with z | ⟨d, z, hd, zg⟩
        · have : mV t c = none := by unfold mV; rw [if_pos h1, eo, z, if_pos (by decide)]
          rw [this]; exact ⟨fun _ z => (by cases z), fun _ z => (by cases z), fun _ _ z => (by cases z)⟩
        · have ev : mV t c = some (.inl (2 * d + 1)) := by unfold mV; rw [if_pos h1, eo, z, if_neg (nI_pos (by omega)), nI_clamp (by omega)]
          have eo2 : opn (c - 1) = c / 2 := by unfold opn; omega
          have ev2 : mV (upC s 736 (ldF g)) (c - 1) = some (.inl (2 * d)) := by
            unfold mV
            rw [if_pos (by omega), eo2, upC_same, show ldF g (c / 2) = g (c / 2) from if_pos h1, zg, if_neg (nI_pos (by omega)), nI_clamp (by omega)]
          have := (hok2 (c - 1) (show c - 1 < 2 * T by omega)).1 _ ev2
          rw [ev]
          refine ⟨fun y q => ?_, fun _ q => (by cases q), fun _ _ q => (by cases q)⟩
          cases q
          refine ⟨show 2 * d + 1 < 2 * T by omega, ?_⟩
          simp only
          rw [if_neg (by omega), if_neg hev]
          exact this.2
    · by_cases h2 : c / 2 < 75
      · rw [mV_atom (by omega) h2]
        exact ⟨fun _ z => (by cases z), fun n z => (by cases z; omega), fun _ _ z => (by cases z)⟩
      · obtain ⟨a, b, r1, r2, r3, r4⟩ := hP2 (c / 2) (by omega) (by omega)
        have ev : ∀ u : rSg, u 727 (c / 2) = nI a → u 728 (c / 2) = nI b → ∀ d, d / 2 = c / 2 → mV u d = some (.inr (.inr (2 * a + d % 2, 2 * b + d % 2))) := fun u q1 q2 d hd => by
          unfold mV
          rw [if_neg (by omega), if_neg (by omega), hd, q1, q2, nI_clamp (by omega), nI_clamp (by omega)]
        have es := e (c / 2) (by omega)
        have sa : s 727 (c / 2) = nI a := by rw [← es.1]; exact r1
        have sb : s 728 (c / 2) = nI b := by rw [← es.2]; exact r2
        rw [ev t r1 r2 c rfl]
        refine ⟨fun _ z => (by cases z), fun _ z => (by cases z), fun x y q => ?_⟩
        cases q
        by_cases hev : c % 2 = 0
        · have := (hok c hc).2.2 _ _ (ev (upC s 736 (ldF f)) (by rw [upC_ne _ _ (by decide)]; exact sa) (by rw [upC_ne _ _ (by decide)]; exact sb) c rfl)
          simp only
          rw [if_pos (show (2 * a + c % 2) % 2 = 0 by omega), if_pos (show (2 * b + c % 2) % 2 = 0 by omega), if_pos hev]
          exact ⟨⟨show _ < 2 * T by omega, this.1.2⟩, ⟨show _ < 2 * T by omega, this.2.2⟩⟩
        · have := (hok2 (c - 1) (show c - 1 < 2 * T by omega)).2.2 _ _ (ev (upC s 736 (ldF g)) (by rw [upC_ne _ _ (by decide)]; exact sa) (by rw [upC_ne _ _ (by decide)]; exact sb) (c - 1) (by omega))
          simp only
          rw [if_neg (show ¬ (2 * a + c % 2) % 2 = 0 by omega), if_neg (show ¬ (2 * b + c % 2) % 2 = 0 by omega), if_neg hev]
          rw [show (c - 1) % 2 = 0 by omega] at this
          rw [show 2 * a + c % 2 - 1 = 2 * a + 0 by omega, show 2 * b + c % 2 - 1 = 2 * b + 0 by omega]
          exact ⟨⟨show _ < 2 * T by omega, this.1.2⟩, ⟨show _ < 2 * T by omega, this.2.2⟩⟩
theorem ms_181b {s0 : rSg} {A : Nat} (hA : A < 60) {P : Option rv → rSg → Prop} (hP : ∀ t, (∀ q, q ≠ 736 → t q = s0 q) → (∀ j, j < 64 → t 736 j = s0 736 j) → (∀ j, j < 64 → t 736 (64 + j) = if s0 743 (64 * A + j) < 0 then -9 else s0 743 (64 * A + j) + 1) → g_181_87 1 0 t P) : ∀ (n y : Nat) (t : rSg), y + n = 64 → (∀ q, q ≠ 736 → t q = s0 q) → (∀ j, j < 64 → t 736 j = s0 736 j) → (∀ j, j < y → t 736 (64 + j) = if s0 743 (64 * A + j) < 0 then -9 else s0 743 (64 * A + j) + 1) → g_181_29 (nI A) (nI y) t P := by
  intro n
  induction n with
  | zero =>
    intro y t hy h1 h2 h3
    obtain rfl : y = 64 := by omega
    exact w_181_29 t _ _ ⟨fun _ => hP t h1 h2 h3, fun q => absurd (nI_le (a := 64) (b := 64) (by decide) (by decide)) q⟩
  | succ n ih =>
    intro y t hy h1 h2 h3
    refine w_181_29 t _ _ ⟨fun q => absurd ((nI_leI (a := 64) (by decide) (by omega)).mp q) (by omega), fun _ => ?_⟩
    have e : 64 * nI A + nI y = nI (64 * A + y) := by rw [show (64 : Int32) = nI 64 from rfl, pk_mul, nI_add]
    have e64 : (64 : Int32) + nI y = nI (64 + y) := by rw [show (64 : Int32) = nI 64 from rfl, nI_add]
    have r1 : rIn (nI (64 * A + y)) 3840 = true := rIn_nI (by omega) (by decide)
    have r2 : rIn (nI (64 + y)) 128 = true := rIn_nI (by omega) (by decide)
    rw [e, e64, nI_clamp (by omega), nI_clamp (by omega), nI_1, h1 743 (by decide)]
    have nx : ∀ x : Int32, x = (if s0 743 (64 * A + y) < 0 then -9 else s0 743 (64 * A + y) + 1) → g_181_29 (nI A) (nI (y + 1)) (up2 t 736 (64 + y) x) P := fun x hx1 => by
      refine ih (y + 1) _ (by omega) (fun q hq => ?_) (fun j hj => ?_) (fun j hj => ?_)
      · rw [up2_nk _ _ _ hq]; exact h1 q hq
      · rw [up2_nj _ _ _ (by omega)]; exact h2 j hj
      · by_cases hjy : j = y
        · subst hjy; rw [up2_same]; exact hx1
        · rw [up2_nj _ _ _ (by omega)]; exact h3 j (by omega)
    exact ⟨r1, fun q => ⟨r1, r2, nx _ (by rw [if_neg (Int32.not_lt.mpr q)])⟩, fun q => ⟨r2, nx _ (by rw [if_pos (Int32.not_le.mp q)])⟩⟩
theorem ms_181c {s0 : rSg} {T : Nat} (hT : T ≤ 1400) {P : Option rv → rSg → Prop} (hP : ∀ r t, mfb s0 t → P (some (.inl r)) t) : ∀ (n y : Nat) (b : Int32) (t : rSg) (tr : Nat), y + n = 6 → mSt t T → t 725 16 = nI tr → tr ≤ 128 * y → mfb s0 t → g_181_87 b (nI y) t P := by
  intro n
  induction n with
  | zero =>
    intro y b t tr hy hm h16 htr k
    obtain rfl : y = 6 := by omega
    exact w_181_87 t _ _ ⟨fun _ => ⟨fun _ => hP _ t k, fun _ => hP _ t k⟩, fun q => absurd (by decide) q⟩
  | succ n ih =>
    intro y b t tr hy hm h16 htr k
    have h75 := hm.1.1
    refine w_181_87 t _ _ ⟨fun q => absurd ((nI_leI (a := 6) (by decide) (by omega)).mp q) (by omega), fun _ => ⟨fun _ => ⟨fun _ => hP _ t k, fun _ => hP _ t k⟩, fun _ => ?_⟩⟩
    rw [nI_dbl, nI_1, nI_1]
    refine (m_unifies hm hT h16 (by omega) (by omega) (by omega)).imp ?_
    rintro _ u ⟨x, bs, rfl, g1, g2, _⟩
    have := g2.2.2.2.2.2.2
    have := opens_le t
    exact ⟨x, rfl, ih (y + 1) x u _ (by omega) g1 g2.2.1 (by omega) (k.trans g2.1)⟩
theorem mi_meet {s : rSg} (h : MI s) (x y : Int32) : EvS rSkel 7 181 [.inr (.inr (some 725)), .inl x, .inl y] s (fun v t => iRet v ∧ aft s t) := by
  obtain ⟨T, G, L, hd, w, a, st, g, hb⟩ := h.b
  have ha := hb.1.2.2.2.2.1
  have b1 := hb.1.1.1
  refine w_181 s x y (ms_164 ha.1 ha.2 x (fun i hi e => ⟨_, rfl, fun q => absurd q (by decide), fun _ => ms_164 ha.1 ha.2 y (fun j hj e2 => ⟨_, rfl, fun _ => ?_, fun q => absurd (by decide) q⟩) ⟨_, rfl, fun q => absurd rfl q, fun _ => mi_no h (by decide)⟩⟩) ⟨_, rfl, fun _ => mi_no h (by decide), fun q => absurd rfl q⟩)
  rw [e, e2]
  refine (ms_167 hb.1.2.1.1 hb.1.2.1.2 (by omega)).imp ?_
  rintro _ t ⟨rfl, t6, t16, k⟩
  refine ⟨rfl, ms_181b (s0 := t) (A := j) (by omega) (fun u u1 u2 u3 => ?_) 64 0 t rfl (fun _ _ => rfl) (fun _ _ => rfl) (fun q hq => absurd hq (by omega))⟩
  have ku : mK [736] [16] s u := k.trans ⟨fun q g1 g2 => u1 q (fun e => g2 (by simp [e])), fun q _ => by rw [u1 725 (by decide)]⟩
  have hm : mSt u T := by
    refine mSt_two hb.1.1.2.2.1 (hb.1.2.2.2.2.2.2 i hi) (hb.1.2.2.2.2.2.2 j hj) (fun q _ => by rw [ku.1 727 (by decide) (by simp), ku.1 728 (by decide) (by simp)]; exact ⟨rfl, rfl⟩) (fun q hq => ?_) (fun q hq => ?_)
    · rw [u2 q hq, t6 q (by omega)]; exact if_pos hq
    · rw [u3 q hq, k.1 743 (by decide) (by simp), show 30 * 0 + j = j by omega]
  refine ms_181c (s0 := u) (by omega) (fun r v kv => ⟨⟨_, rfl⟩, h.aft ?_ ?_⟩) 6 0 1 u 0 rfl hm (by rw [u1 725 (by decide)]; exact t16) (by omega) mfb.rfl'
  · exact (ku.mono (by simp [kI]) (by simp [jI])).trans (kv.K.mono (by simp [kI]) (by simp [jI]))
  · rw [kv.K.1 752 (by decide) (by simp), ku.1 752 (by decide) (by simp)]
