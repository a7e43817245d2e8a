/-! THE REFERENCE: a text is written -/
theorem ms_118w {s : rSg} {T : Nat} {st : List (Nat ⊕ Int32)} (h17 : s 725 17 = nI st.length) (hs : stW s T st) (hl : st.length < 8000) {x : Nat ⊕ Int32} {v0 : Int32} (hv : v0 = pw x) (hx1 : wOk T x) : EvS rSkel 1 118 [.inr (.inr (some 725)), .inl v0] s (fun v t => v = none ∧ t 725 17 = nI (x :: st).length ∧ stW t T (x :: st) ∧ mK [738] [17] s t) := by
  subst hv
  refine (ev_m_piles 0 s _ h17 hl).imp ?_
  rintro _ _ ⟨rfl, rfl⟩
  refine ⟨rfl, by rw [up2_same]; simp, ⟨?_, hx1, stW_ext (fun j hj => ?_) hs⟩, (mK.rfl'.up (by simp) (by decide)).upF (by simp)⟩
  · rw [up2_nk _ _ _ (by decide), up2_same]
  · rw [up2_nk _ _ _ (by decide), up2_nj _ _ _ (by omega)]
theorem TW.keep {s t : rSg} {T : Nat} {st : List (Nat ⊕ Int32)} {nm : List Nat} {out : List Int32} (h : TW s T st nm out) {ks js : List Nat} (k : mK ks js s t) (h1 : 738 ∉ ks ∧ 756 ∉ ks ∧ 757 ∉ ks) (h2 : 17 ∉ js ∧ 51 ∉ js ∧ 52 ∉ js) : TW t T st nm out := by
  obtain ⟨a1, a2, a3, a4, a5, a6, a7⟩ := h
  exact ⟨by rw [k.2 17 h2.1]; exact a1, stW_ext (fun j _ => by rw [k.1 738 (by decide) h1.1]) a2, by rw [k.2 52 h2.2.2]; exact a3, fun i v q => by rw [k.1 757 (by decide) h1.2.2]; exact a4 i v q, by rw [k.2 51 h2.2.1]; exact a5, fun j x hj q => by rw [k.1 756 (by decide) h1.2.1]; exact a6 j x hj q, a7⟩
theorem mK.St {ks js : List Nat} {s t : rSg} (k : mK ks js s t) (h : 727 ∉ ks ∧ 728 ∉ ks ∧ 736 ∉ ks) : mV t = mV s ∧ mKc t = mKc s ∧ ∀ T, mSt s T → mSt t T := by
  have e1 := k.1 727 (by decide) h.1
  have e2 := k.1 728 (by decide) h.2.1
  have e3 := k.1 736 (by decide) h.2.2
  have ev := mV_ext e1 e2 e3
  refine ⟨ev, ?_, fun T hT => ⟨(mWF_ext e1 e2 e3).mpr hT.1, by rw [ev]; exact hT.2⟩⟩
  funext c
  unfold mKc
  rw [ev, e1, e2]
theorem nmIx_le : ∀ (nm : List Nat) (c : Nat), nmIx nm c ≤ nm.length
  | [], _ => Nat.le_refl _
  | x :: l, c => by
    have := nmIx_le l c
    simp only [nmIx, List.length_cons]
    split <;> omega
/-- one letter only -/
theorem TW.letter {s t : rSg} {T : Nat} {st : List (Nat ⊕ Int32)} {nm : List Nat} {out : List Int32} {c : Int32} (h : TW s T st nm out) (hlt : out.length < 201) (h51 : t 725 51 = nI (out ++ [c]).length) (hx1 : ∀ j x, j < 200 → (out ++ [c])[j]? = some x → t 756 j = x) (k : mK [756] [51] s t) : TW t T st nm (out ++ [c]) := by
  obtain ⟨a1, a2, a3, a4, a5, a6, a7, a8, a9⟩ := h
  refine ⟨by rw [k.2 17 (by simp)]; exact a1, stW_ext (fun j _ => by rw [k.1 738 (by decide) (by simp)]) a2, by rw [k.2 52 (by simp)]; exact a3, fun i v q => by rw [k.1 757 (by decide) (by simp)]; exact a4 i v q, h51, hx1, ?_, ?_, ?_⟩
  all_goals
    simp only [List.length_append, List.length_cons, List.length_nil]
    omega
theorem ms_170 {s : rSg} {T : Nat} (hst : mSt s T) {st : List (Nat ⊕ Int32)} {nm : List Nat} {out : List Int32} (hw : TW s T st nm out) (hlt : out.length < 200) (hs9 : st.length ≤ 3 * out.length) {c : Nat} (hc : c < 2 * T) : EvS rSkel 3 170 [.inr (.inr (some 725)), .inl (nI c)] s (fun v t => v = none ∧ mK kT jT s t ∧ ∃ st2 nm2 out2, TW t T st2 nm2 out2 ∧ out.length < out2.length ∧ ∀ f r, WRun (mV s) (mKc s) (mD T) f st2 nm2 out2 r → WRun (mV s) (mKc s) (mD T) (f + 1) (.inl c :: st) nm out r) := by
  obtain ⟨hwf, rk, hok⟩ := id hst
  have hT := hwf.2.1
  refine w_170 s _ ((mw_walk hwf hok hc).imp ?_)
  rintro _ s ⟨rfl, c2, rfl, D2, r2, w2⟩
  refine ⟨_, rfl, (m_isOpen s (by omega)).imp ?_⟩
  rintro _ s ⟨rfl, rfl⟩
  obtain ⟨a1, a2, a3, a4, a5, a6, a7, a8, a9⟩ := id hw
  rw [nI_half (by omega)]
  by_cases h64 : c2 / 2 < 64
  · rw [if_pos h64]
    have ko : mKc s c2 = none := by
      unfold mKc
      rw [if_pos (by omega)]
      rcases mV_var hwf h64 with ⟨_, q⟩ | ⟨e, _, _, q⟩
      · exact q
      · exact absurd q (r2 e)
    refine ⟨_, rfl, fun q => absurd q (by decide), fun _ => (ms_169 (T := T) (st := st) (nm := nm) a5 a6 (by omega) 95).imp ?_⟩
    rintro _ t ⟨rfl, t51, t56, kt⟩
    have wt := hw.letter (by omega) t51 t56 kt
    refine ⟨rfl, (m_openOf t (by omega)).imp ?_⟩
    rintro _ t ⟨rfl, rfl⟩
    refine ⟨_, rfl, (ms_171 wt.2.2.1 wt.2.2.2.1 (by omega) h64).imp ?_⟩
    rintro _ u ⟨rfl, u52, u57, ku⟩
    have e10 : irem (nI (nmIx nm c2)) 10 = nI (nmIx nm c2 % 10) := by
      have := nmIx_le nm c2
      exact pk_rem (by omega) (by decide) (by decide)
    refine ⟨_, rfl, ?_⟩
    rw [e10]
    refine (ms_169 (s := u) (T := T) (st := st) (nm := nm) (out := out ++ [95]) (by rw [ku.2 51 (by simp)]; exact t51) (fun j x hj q => by rw [ku.1 756 (by decide) (by simp)]; exact t56 j x hj q) (by simp; omega) (48 + nI (nmIx nm c2 % 10))).imp ?_
    rintro _ v ⟨rfl, v51, v56, kv⟩
    have la : (nmAdd nm c2).length ≤ nm.length + 1 := by unfold nmAdd; split <;> simp
    have eo : out ++ [95] ++ [48 + nI (nmIx nm c2 % 10)] = out ++ [95, 48 + nI (nmIx nm c2 % 10)] := by simp
    rw [eo] at v51 v56
    refine ⟨rfl, rfl, ((kt.mono (by simp [kT]) (by simp [jT])).trans (ku.mono (by simp [kT]) (by simp [jT]))).trans (kv.mono (by simp [kT]) (by simp [jT])), st, nmAdd nm c2, out ++ [95, 48 + nI (nmIx nm c2 % 10)], ⟨?_, ?_, by rw [kv.2 52 (by simp)]; exact u52, fun i x q => by rw [kv.1 757 (by decide) (by simp)]; exact u57 i x q, v51, v56, ?_, ?_, ?_⟩, by simp, fun f r hr => Or.inr ⟨hlt, c2, w2, r2, Or.inl ⟨ko, hr⟩⟩⟩
    · rw [kv.2 17 (by simp), ku.2 17 (by simp), kt.2 17 (by simp)]; exact a1
    · exact stW_ext (fun j _ => by rw [kv.1 738 (by decide) (by simp), ku.1 738 (by decide) (by simp), kt.1 738 (by decide) (by simp)]) a2
    · simp only [List.length_append, List.length_cons, List.length_nil]; omega
    · simp only [List.length_append, List.length_cons, List.length_nil]; omega
    · simp only [List.length_append, List.length_cons, List.length_nil]; omega
  · rw [if_neg h64]
    by_cases h75 : c2 / 2 < 75
    · have ka : mKc s c2 = some (.inr (.inl (c2 / 2 - 64))) := by
        unfold mKc
        rw [if_pos h75, mV_atom (by omega) h75]
      have put : ∀ x : Int32, x = (if c2 / 2 - 64 = 10 then 110 else nI (48 + (c2 / 2 - 64))) → EvS rSkel 1 169 [.inr (.inr (some 725)), .inl x] s (fun v t => v = none ∧ (none : Option rv) = none ∧ mK kT jT s t ∧ ∃ st2 nm2 out2, TW t T st2 nm2 out2 ∧ out.length < out2.length ∧ ∀ f r, WRun (mV s) (mKc s) (mD T) f st2 nm2 out2 r → WRun (mV s) (mKc s) (mD T) (f + 1) (.inl c :: st) nm out r) := fun x hx1 => by
        refine (ms_169 (T := T) (st := st) (nm := nm) a5 a6 (by omega) x).imp ?_
        rintro _ t ⟨rfl, t51, t56, kt⟩
        exact ⟨rfl, rfl, kt.mono (by simp [kT]) (by simp [jT]), st, nm, out ++ [x], hw.letter (by omega) t51 t56 kt, by simp, fun f r hr => Or.inr ⟨hlt, c2, w2, r2, Or.inr (Or.inl ⟨_, ka, by rw [← hx1]; exact hr⟩)⟩⟩
      refine ⟨_, rfl, fun _ => ⟨fun h74 => ⟨fun q => absurd ?_ q, fun _ => put 110 ?_⟩, fun h74 => put _ ?_⟩, fun q => absurd rfl q⟩
      · have := (nI_leI (a := 74) (by decide) (by omega)).mp h74
        rw [show c2 / 2 = 74 by omega]
        rfl
      · have := (nI_leI (a := 74) (by decide) (by omega)).mp h74
        rw [if_pos (by omega)]
      · have : ¬ 74 ≤ c2 / 2 := fun q => h74 ((nI_leI (a := 74) (by decide) (by omega)).mpr q)
        rw [if_neg (by omega), show (48 : Int32) + nI (c2 / 2) = nI (48 + c2 / 2) from nI_add 48 _, show nI (48 + c2 / 2) - 64 = nI (48 + c2 / 2 - 64) from pk_sub (a := 48 + c2 / 2) (b := 64) (by omega)]
        congr 1
        omega
    · obtain ⟨a, b, ea, eb, la, lb⟩ := hwf.2.2.1 (c2 / 2) (by omega) (by omega)
      have kp : mKc s c2 = some (.inr (.inr (2 * a, 2 * b))) := by
        unfold mKc
        rw [if_neg h75, ea, eb, nI_clamp (by omega), nI_clamp (by omega)]
      have rn : rIn (nI (c2 / 2)) 6000 = true := rIn_nI (by omega) (by decide)
      refine ⟨_, rfl, fun _ => ⟨fun _ => ⟨fun _ => ?_, fun q => absurd (fun e => absurd ((nI_eq (b := 74) (by omega) (by decide)).mp e) (by omega)) q⟩, fun q => absurd (nI_le (a := 74) (b := c2 / 2) (by omega) (by omega)) q⟩, fun q => absurd rfl q⟩
      refine (ms_169 (T := T) (st := st) (nm := nm) a5 a6 (by omega) 40).imp ?_
      rintro _ t ⟨rfl, t51, t56, kt⟩
      refine ⟨rfl, (ms_118w (s := t) (T := T) (st := st) (x := .inr 41) (by rw [kt.2 17 (by simp)]; exact a1) (stW_ext (fun j _ => by rw [kt.1 738 (by decide) (by simp)]) a2) (by omega) rfl (Or.inl rfl)).imp ?_⟩
      rintro _ t1 ⟨rfl, p1, q1, k1⟩
      refine ⟨rfl, rn, ?_⟩
      rw [nI_clamp (by omega), k1.1 728 (by decide) (by simp), kt.1 728 (by decide) (by simp), eb, nI_dbl]
      refine (ms_118w (x := .inl (2 * b)) p1 q1 (by simp; omega) rfl (show 2 * b < 2 * T by omega)).imp ?_
      rintro _ t2 ⟨rfl, p2, q2, k2⟩
      refine ⟨rfl, (ms_118w (x := .inr 46) p2 q2 (by simp; omega) rfl (Or.inr rfl)).imp ?_⟩
      rintro _ t3 ⟨rfl, p3, q3, k3⟩
      refine ⟨rfl, rn, ?_⟩
      rw [k3.1 727 (by decide) (by simp), k2.1 727 (by decide) (by simp), k1.1 727 (by decide) (by simp), kt.1 727 (by decide) (by simp), ea, nI_dbl]
      refine (ms_118w (x := .inl (2 * a)) p3 q3 (by simp; omega) rfl (show 2 * a < 2 * T by omega)).imp ?_
      rintro _ t4 ⟨rfl, p4, q4, k4⟩
      have k14 : mK [738] [17] t t4 := ((k1.trans k2).trans k3).trans k4
      refine ⟨rfl, rfl, (kt.mono (by simp [kT]) (by simp [jT])).trans (k14.mono (by simp [kT]) (by simp [jT])), _, nm, out ++ [40], ⟨p4, q4, ?_, ?_, ?_, ?_, ?_, ?_, ?_⟩, by simp, fun f r hr => Or.inr ⟨hlt, c2, w2, r2, Or.inr (Or.inr ⟨_, _, kp, hr⟩)⟩⟩
      · rw [k14.2 52 (by simp), kt.2 52 (by simp)]; exact a3
      · intro i v q
        rw [k14.1 757 (by decide) (by simp), kt.1 757 (by decide) (by simp)]
        exact a4 i v q
      · rw [k14.2 51 (by simp)]; exact t51
      · intro j x hj q
        rw [k14.1 756 (by decide) (by simp)]
        exact t56 j x hj q
      · simp only [List.length_append, List.length_cons, List.length_nil]; omega
      · simp only [List.length_append, List.length_cons, List.length_nil]; omega
      · simp only [List.length_append, List.length_cons, List.length_nil]; omega
/-- the text that stands there -/
def tx5 (t : rSg) (tx : List Int32) : Prop := t 725 51 = nI tx.length ∧ tx.length ≤ 200 ∧ ∀ j x, tx[j]? = some x → t 756 j = x
theorem ms_168b {s0 : rSg} {T : Nat} (h0 : mSt s0 T) : ∀ (f : Nat) (st : List (Nat ⊕ Int32)) (nm : List Nat) (out : List Int32) (s : rSg), TW s T st nm out → 200 ≤ out.length + f → mK kT jT s0 s → g_168_22 s (fun v t => v = none ∧ mK kT jT s0 t ∧ ∃ tx, WRun (mV s0) (mKc s0) (mD T) f st nm out tx ∧ tx5 t tx) := by
  intro f
  induction f with
  | zero =>
    intro st nm out s hw hf hk
    obtain ⟨a1, a2, a3, a4, a5, a6, a7, a8, a9⟩ := id hw
    have fin : ∀ (st : List (Nat ⊕ Int32)), WRun (mV s0) (mKc s0) (mD T) 0 st nm out (out.take 200) → ((s 725 51) ≤ 200 → (none : Option rv) = none ∧ mK kT jT s0 s ∧ ∃ tx, WRun (mV s0) (mKc s0) (mD T) 0 st nm out tx ∧ tx5 s tx) ∧ (¬ ((s 725 51) ≤ 200) → (none : Option rv) = none ∧ mK kT jT s0 (up2 s 725 51 200) ∧ ∃ tx, WRun (mV s0) (mKc s0) (mD T) 0 st nm out tx ∧ tx5 (up2 s 725 51 200) tx) := fun st hr => by
      have e9 : ∀ j x, (out.take 200)[j]? = some x → j < 200 ∧ out[j]? = some x := fun j x q => by
        rw [List.getElem?_take] at q
        split at q
        · next z => exact ⟨z, q⟩
        · cases q
      refine ⟨fun h => ⟨rfl, hk, _, hr, ?_, by simp; omega, fun j x q => a6 j x (e9 j x q).1 (e9 j x q).2⟩, fun h => ⟨rfl, hk.upF (by simp [jT]), _, hr, ?_, by simp; omega, fun j x q => by rw [up2_nk _ _ _ (by decide)]; exact a6 j x (e9 j x q).1 (e9 j x q).2⟩⟩
      · rw [a5] at h
        have := (nI_leI (b := 200) (by omega) (by decide)).mp h
        rw [a5, List.length_take]
        congr 1
        omega
      · rw [up2_same, List.length_take, show min 200 out.length = 200 by omega]
        rfl
    cases st with
    | nil => exact w_168_22 s ⟨fun _ => fin [] rfl, fun q => absurd (by rw [a1]; decide) q⟩
    | cons x r =>
      have f2 := fin (x :: r) ⟨by omega, rfl⟩
      exact w_168_22 s ⟨fun _ => f2, fun _ => ⟨fun _ => f2, fun q => absurd (by rw [a5]; exact nI_le (a := 200) (by omega) (by omega)) q⟩⟩
  | succ f ih =>
    intro st nm out s hw hf hk
    obtain ⟨a1, a2, a3, a4, a5, a6, a7, a8, a9⟩ := id hw
    have fin : ∀ (st : List (Nat ⊕ Int32)), WRun (mV s0) (mKc s0) (mD T) (f + 1) st nm out (out.take 200) → ((s 725 51) ≤ 200 → (none : Option rv) = none ∧ mK kT jT s0 s ∧ ∃ tx, WRun (mV s0) (mKc s0) (mD T) (f + 1) st nm out tx ∧ tx5 s tx) ∧ (¬ ((s 725 51) ≤ 200) → (none : Option rv) = none ∧ mK kT jT s0 (up2 s 725 51 200) ∧ ∃ tx, WRun (mV s0) (mKc s0) (mD T) (f + 1) st nm out tx ∧ tx5 (up2 s 725 51 200) tx) := fun st hr => by
      have e9 : ∀ j x, (out.take 200)[j]? = some x → j < 200 ∧ out[j]? = some x := fun j x q => by
        rw [List.getElem?_take] at q
        split at q
        · next z => exact ⟨z, q⟩
        · cases q
      refine ⟨fun h => ⟨rfl, hk, _, hr, ?_, by simp; omega, fun j x q => a6 j x (e9 j x q).1 (e9 j x q).2⟩, fun h => ⟨rfl, hk.upF (by simp [jT]), _, hr, ?_, by simp; omega, fun j x q => by rw [up2_nk _ _ _ (by decide)]; exact a6 j x (e9 j x q).1 (e9 j x q).2⟩⟩
      · rw [a5] at h
        have := (nI_leI (b := 200) (by omega) (by decide)).mp h
        rw [a5, List.length_take]
        congr 1
        omega
      · have : ¬ out.length ≤ 200 := fun q => h (by rw [a5]; exact nI_le q (by decide))
        rw [up2_same, List.length_take, show min 200 out.length = 200 by omega]
        rfl
    cases st with
    | nil => exact w_168_22 s ⟨fun _ => fin [] rfl, fun q => absurd (by rw [a1]; decide) q⟩
    | cons x r =>
      refine w_168_22 s ⟨fun q => absurd ((nI_leI (a := r.length + 1) (b := 0) (by simp at a9; omega) (by decide)).mp (by rw [a1] at q; exact q)) (by omega), fun _ => ⟨fun h => fin (x :: r) ?_, fun h => ?_⟩⟩
      · rw [a5] at h
        have := (nI_leI (a := 200) (by decide) (by omega)).mp h
        cases x with
        | inl c => exact Or.inl ⟨this, rfl⟩
        | inr c => exact Or.inl ⟨this, rfl⟩
      · have hlt : out.length < 200 := by
          have : ¬ 200 ≤ out.length := fun q => h (by rw [a5]; exact nI_le q (by omega))
          omega
        obtain ⟨b1, b2, b3⟩ := a2
        simp only [List.length_cons] at a1 a9
        refine ms_116 a1 (by omega) b1 ⟨_, rfl, ?_⟩
        have kp : mK kT jT s (up2 s 725 17 (nI r.length)) := mK.rfl'.upF (by simp [jT])
        have wp : TW (up2 s 725 17 (nI r.length)) T r nm out := ⟨up2_same _ _ _ _, stW_ext (fun j _ => by rw [up2_nk _ _ _ (by decide)]) b3, by rw [up2_nj _ _ _ (by decide)]; exact a3, fun i v q => by rw [up2_nk _ _ _ (by decide)]; exact a4 i v q, by rw [up2_nj _ _ _ (by decide)]; exact a5, fun j y hj q => by rw [up2_nk _ _ _ (by decide)]; exact a6 j y hj q, a7, a8, by omega⟩
        generalize up2 s 725 17 (nI r.length) = s1 at kp wp
        have k1 := hk.trans kp
        obtain ⟨ev, ek, es⟩ := k1.St (by simp [kT])
        cases x with
        | inl c =>
          have hc : c < 2 * T := b2
          have hT := h0.1.2.1
          refine ⟨fun _ => ?_, fun q => absurd (Int32.not_lt.mp (nI_pos (by omega))) q⟩
          refine (ms_170 (es T h0) wp hlt (by omega) hc).imp ?_
          rintro _ t ⟨rfl, kt, st2, nm2, out2, w2, l2, step⟩
          rw [ev, ek] at step
          refine ⟨rfl, (ih st2 nm2 out2 t w2 (by omega) (k1.trans kt)).imp ?_⟩
          rintro _ u ⟨rfl, ku, tx, q1, q2⟩
          exact ⟨rfl, ku, tx, step f tx q1, q2⟩
        | inr c =>
          have hc : c = 41 ∨ c = 46 := b2
          refine ⟨fun q => absurd q (by rcases hc with rfl | rfl <;> decide), fun _ => ?_⟩
          rw [show - pw (.inr c) = c from by rcases hc with rfl | rfl <;> decide]
          refine (ms_169 (T := T) (st := r) (nm := nm) wp.2.2.2.2.1 wp.2.2.2.2.2.1 (by omega) c).imp ?_
          rintro _ t ⟨rfl, t51, t56, kt⟩
          refine ⟨rfl, (ih r nm (out ++ [c]) t (wp.letter (by omega) t51 t56 kt) (by simp; omega) (k1.trans (kt.mono (by simp [kT]) (by simp [jT])))).imp ?_⟩
          rintro _ u ⟨rfl, ku, tx, q1, q2⟩
          exact ⟨rfl, ku, tx, Or.inr ⟨hlt, q1⟩, q2⟩
theorem ms_168 {s : rSg} {T : Nat} (h0 : mSt s T) {v : Nat} (hv : v < T) : EvS rSkel 4 168 [.inr (.inr (some 725)), .inl (nI v)] s (fun r t => r = none ∧ mK kT jT s t ∧ ∃ tx, WRun (mV s) (mKc s) (mD T) 200 [.inl (2 * v)] [] [] tx ∧ tx5 t tx) := by
  refine w_168 s _ ?_
  rw [nI_dbl]
  have kp : mK kT jT s (up2 (up2 (up2 s 725 51 0) 725 52 0) 725 17 0) := ((mK.rfl'.upF (by simp [jT])).upF (by simp [jT])).upF (by simp [jT])
  have e17 : up2 (up2 (up2 s 725 51 0) 725 52 0) 725 17 0 725 17 = nI ([] : List (Nat ⊕ Int32)).length := by rw [up2_same]; rfl
  have e52 : up2 (up2 (up2 s 725 51 0) 725 52 0) 725 17 0 725 52 = nI 0 := by rw [up2_nj _ _ _ (by decide), up2_same]; rfl
  have e51 : up2 (up2 (up2 s 725 51 0) 725 52 0) 725 17 0 725 51 = nI 0 := by rw [up2_nj _ _ _ (by decide), up2_nj _ _ _ (by decide), up2_same]; rfl
  generalize up2 (up2 (up2 s 725 51 0) 725 52 0) 725 17 0 = s1 at kp e17 e52 e51
  refine (ms_118w (s := s1) (T := T) (st := []) (x := .inl (2 * v)) e17 trivial (by decide) rfl (show 2 * v < 2 * T by omega)).imp ?_
  rintro _ t ⟨rfl, p1, q1, k1⟩
  exact ⟨rfl, ms_168b h0 200 [.inl (2 * v)] [] [] t ⟨p1, q1, by rw [k1.2 52 (by simp)]; exact e52, fun i v q => (by cases q), by rw [k1.2 51 (by simp)]; exact e51, fun j x _ q => (by cases q), by decide, by decide, by simp⟩ (by decide) (kp.trans (k1.mono (by simp [kT]) (by simp [jT])))⟩
