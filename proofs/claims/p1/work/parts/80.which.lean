/-! WHICH: the reference, and both -/
theorem mSt_load {W u : rSg} (hW : mSt W 75) (h1 : ∀ j, j < 64 → u 736 j = W 736 j) (h2 : ∀ j, 64 ≤ j → j < 128 → u 736 j = -9) : mSt u 75 := by
  obtain ⟨hw, rk, hok⟩ := hW
  have wu : mWF u 75 := by
    refine ⟨by decide, by decide, fun t a b => absurd b (by omega), fun i hi => ?_⟩
    by_cases h : i < 64
    · rw [h1 i h]; exact hw.2.2.2 i hi
    · exact Or.inl (h2 i (by omega) hi)
  refine ⟨wu, rk, fun c hc => ?_⟩
  have hc : c < 2 * 75 := hc
  by_cases h64 : c / 2 < 64
  · by_cases ho : opn c < 64
    · have e : mV u c = mV W c := by
        unfold mV
        rw [if_pos h64, if_pos h64, h1 _ ho]
      rw [e]
      exact hok c hc
    · have e : mV u c = none := by
        unfold mV
        rw [if_pos h64, h2 _ (by omega) (opn_lt h64), if_pos (by decide)]
      rw [e]
      exact ⟨fun e he => (by cases he), fun n hn => (by cases hn), fun a b hp => (by cases hp)⟩
  · rw [mV_atom (by omega) (by omega)]
    refine ⟨fun e he => (by cases he), fun n hn => ?_, fun a b hp => (by cases hp)⟩
    have hn := Sum.inl.inj (Sum.inr.inj (Option.some.inj hn))
    omega
theorem m_brings {s : rSg} (h : mdF s) {x a : Nat} (hx : x < 6) (ha : a < 10) : EvS rSkel 17 195 [.inr (.inr (some 725)), .inl (nI x), .inl (nI a)] s (fun v t => v = some (.inl 1) ∧ mdF t) := by
  obtain ⟨m11, m12, m47, m29⟩ := m_minds h
  refine w_195 s (nI x) (nI a) (w_183 s ⟨rfl, m_left (s := mMin s) m11 m12 m47 m29 hx ha (fun t tk t21 t48 tW => ⟨rfl, fun q => absurd q (by rw [t48]; decide), fun _ => ?_⟩)⟩)
  obtain ⟨W, hW, hWj⟩ := tW
  refine w_166 t 0 0 (w_167 t 0 ((ev_m_empties 0 t).imp ?_))
  rintro _ _ ⟨rfl, rfl⟩
  have e0 : ∀ q, q ≠ 725 → q ≠ 736 → mEmp t q = t q := fun q g1 g2 => by unfold mEmp; rw [up2_nk _ _ _ g1, upC_ne _ _ g2]
  have e1 : ∀ j, j ≠ 16 → mEmp t 725 j = t 725 j := fun j g => by unfold mEmp; rw [up2_nj _ _ _ g, upC_ne _ _ (by decide)]
  have ey : (30 : Int32) * mEmp t 725 21 + 0 = nI 30 := by rw [e1 21 (by decide), t21]; rfl
  refine ⟨rfl, ?_⟩
  rw [ey]
  refine m_load_loop (s0 := mEmp t) (fun u u0 u1 u2 => ⟨rfl, ?_⟩) 64 0 (mEmp t) rfl (fun _ _ => rfl) (fun j hj => absurd hj (by omega)) (fun _ _ => rfl)
  have hu : mSt u 75 := mSt_load hW (fun j hj => by rw [u1 j hj, e0 743 (by decide) (by decide)]; exact hWj j hj) (fun j g1 g2 => by
    rw [u2 j g1]
    unfold mEmp
    rw [up2_nk _ _ _ (by decide), upC_same]
    unfold fillF
    rw [if_pos (by omega)])
  refine m_text0 hu (fun w w0 w1 w51 => ⟨rfl, rfl, ?_⟩)
  obtain ⟨n, hn, hw51⟩ := w51
  have kuw : mKp t w := fun q j hq => by
    by_cases e : q = 725
    · subst e
      rw [w1 j (by unfold kpt at hq; omega) (by unfold kpt at hq; omega) (by unfold kpt at hq; omega), u0 725 (by decide), e1 j (by unfold kpt at hq; omega)]
    · rw [w0 q e (by unfold kpt at hq; omega) (by unfold kpt at hq; omega) (by unfold kpt at hq; omega), u0 q (by unfold kpt at hq; omega), e0 q e (by unfold kpt at hq; omega)]
  have w58 : w 725 58 = 0 := by
    rw [(tk.trans kuw) 725 58 (by unfold kpt; omega), (mMin_f s).2.1 58 (by decide)]
    exact h.2.2.2.2.1
  refine w_196 w ⟨fun q => absurd q (by rw [w58, hw51]; exact nI_pos (by omega)), fun _ => w_196_19 w 1 0 ⟨fun _ => ⟨bN1, _, rfl, w_184 w ⟨rfl, bN1, rfl, m_forget h (tk.trans kuw)⟩⟩, fun q => absurd (by rw [w58]; decide) q⟩⟩
theorem m_which_loop {x : Nat} (hx : x < 6) {r : Int32} : ∀ (n a : Nat) (B : Int32) (s : rSg), a + n = 10 → bw n a B = r → mdF s → g_194_17 (nI x) B (nI a) s (fun v _ => v = some (.inl r)) := by
  intro n
  induction n with
  | zero =>
    intro a B s ha hB _
    obtain rfl : a = 10 := by omega
    refine w_194_17 s (nI x) B (nI 10) ⟨fun _ => ?_, fun q => absurd (by decide) q⟩
    rw [show B = r from hB]
  | succ n ih =>
    intro a B s ha hB h
    refine w_194_17 s (nI x) B (nI a) ⟨fun q => absurd ((nI_leI (a := 10) (by decide) (by omega)).mp q) (by omega), fun _ => (m_brings h hx (by omega)).imp ?_⟩
    rintro _ t ⟨rfl, ht⟩
    refine ⟨_, rfl, fun q => absurd q (by decide), fun _ => ?_⟩
    rw [nI_1]
    exact ih (a + 1) _ t (by omega) hB ht
theorem o_which {s : rSg} (hc : clF s) (hm : mdF s) (a : Int32) : opI s 102 194 [.inl a] := by
  rcases named_01 a with h0 | ⟨h1, x, hx, rfl⟩
  · refine op2 hm (d := 8) (d2 := 18) (r := -1) (by decide) (by decide) (w_102 s a ((c_named s a).imp ?_)) (fun s2 h => w_194 s2 a ((m_named s2 a).imp ?_))
    · rintro _ _ ⟨rfl, rfl⟩
      exact ⟨_, rfl, fun q => absurd h0 q, fun _ => c_ref fr.rfl' (-1)⟩
    · rintro _ _ ⟨rfl, rfl⟩
      exact ⟨_, rfl, fun q => absurd h0 q, fun _ => m_ref (by decide) _⟩
  · have n1 : ¬ named (nI x) = 0 := by rw [h1]; decide
    refine op2 hm (d := 8) (d2 := 18) (r := bw 10 0 0) (by decide) (by decide) (w_102 s (nI x) ((c_named s (nI x)).imp ?_)) (fun s2 h => w_194 s2 (nI x) ((m_named s2 (nI x)).imp ?_))
    · rintro _ s ⟨rfl, rfl⟩
      exact ⟨_, rfl, fun _ => c_which_loop hx (fun t ht => ⟨rfl, ht⟩) 10 0 0 0 s rfl rfl fr.rfl' (cTold_of hc) hc.2.2.2.2.2.2.1 (cSn_of hc) (by decide), fun q => absurd n1 q⟩
    · rintro _ s2 ⟨rfl, rfl⟩
      exact ⟨_, rfl, fun _ => m_which_loop hx 10 0 0 s2 rfl rfl h, fun q => absurd n1 q⟩
