/-! THE CLASS tells a text, exactly: a term, the loop -/
section TELL
variable {s0 : rSg} {sc k np : Nat} {D : Nat → Prop} {rk : Nat → Nat}
theorem cV_tf {s t : rSg} {sc k : Nat} (h : tf s t) (h1 : sc + 3 < 682) (h2 : k + 1 < 682) : cV t sc (k + 1) 64 = cV s sc (k + 1) 64 := by
  funext c
  unfold cV
  rw [h (sc + 3) (by omega), h (k + 1) (by omega)]
theorem tc_61 (hs : isScr sc) (h1 : sc + 3 < 682) (hw : cWG s0 sc (k + 1) 64 np D) {s : rSg} (hf : tf s0 s) {st : List (Nat ⊕ Int32)} {nm : List Nat} {out : List Int32} (h : TC s st nm out) (hl : st.length < 600) {c : Nat} (hc : D c) (hr : vRes (cV s0 sc (k + 1) 64) c) : EvS rSkel 3 61 [.inr (.inr (some 682)), .inr (.inr (some sc)), .inl (nI c)] s (fun v t => v = none ∧ tf s0 t ∧ ∃ st2 nm2 out2, TC t st2 nm2 out2 ∧ st2.length ≤ st.length + 4 ∧ (∀ x, x ∈ st2 → x ∈ st ∨ ∀ e, x = .inl e → D e) ∧ out.length < out2.length ∧ out <+: out2 ∧ ((cV s0 sc (k + 1) 64 c = none ∧ st2 = st ∧ nm2 = nmAdd nm c ∧ out2 = out ++ [95, 48 + nI (nmIx nm c % 10)]) ∨ (∃ n, cV s0 sc (k + 1) 64 c = some (.inr (.inl n)) ∧ st2 = st ∧ nm2 = nm ∧ out2 = out ++ [if n = 10 then 110 else nI (48 + n)]) ∨ (∃ a b, cV s0 sc (k + 1) 64 c = some (.inr (.inr (a, b))) ∧ st2 = .inl a :: .inr 46 :: .inl b :: .inr 41 :: st ∧ nm2 = nm ∧ out2 = out ++ [40]))) := by
  have hlt := cWG_lt hw hc
  have hcD := hw.2.2.1 c hc
  refine w_61 s sc hs _ (w_74 s _ ⟨fun hlt256 => ⟨_, rfl, fun _ => ⟨fun h138 => ?_, fun h138 => ?_⟩, fun q => absurd rfl q⟩, fun hge => ⟨_, rfl, fun q => absurd q (by decide), fun _ => ?_⟩⟩)
  · have c256 : c < 256 := (nI_ltI (b := 256) (by omega) (by decide)).mp hlt256
    have c138 : c ≠ 138 := fun e => h138 (by rw [e]; rfl)
    by_cases c128 : c < 128
    · -- an open one
      have cD : c < 64 := by
        rcases hcD with q | ⟨q, _⟩
        · unfold cF at q; omega
        · omega
      have ho : cV s0 sc (k + 1) 64 c = none := by
        rcases cG_var hw hc cD with ⟨_, q⟩ | ⟨e, _, _, q⟩
        · exact q
        · exact absurd q (hr e)
      refine w_77 s _ ⟨fun q => absurd q (nI_pos (by omega)), fun _ => ⟨fun q => absurd ((nI_leI (a := 128) (by decide) (by omega)).mp q) (by omega), fun _ => ⟨_, rfl, fun q => absurd q (by decide), fun _ => (h.put 95).imp ?_⟩⟩⟩
      rintro _ t ⟨rfl, t1, t2⟩
      refine ⟨rfl, (t1.name cD).imp ?_⟩
      rintro _ u ⟨rfl, u1, u2⟩
      have e10 : irem (nI (nmIx nm c)) 10 = nI (nmIx nm c % 10) := by
        have := nmIx_le nm c
        have := nd_len h.2.1.2.2.2 h.2.1.2.2.1
        exact pk_rem (by omega) (by decide) (by decide)
      refine ⟨_, rfl, ?_⟩
      rw [e10]
      refine (u1.put _).imp ?_
      rintro _ w ⟨rfl, w1, w2⟩
      refine ⟨rfl, rfl, ((hf.trans t2).trans u2).trans w2, st, _, _, w1, by omega, fun x hx => Or.inl hx, by simp, ?_, Or.inl ⟨ho, rfl, rfl, ?_⟩⟩
      · rw [List.append_assoc]; exact List.prefix_append _ _
      · rw [List.append_assoc]; rfl
    · -- an atom
      have c139 : 128 ≤ c ∧ c < 139 := by
        rcases hcD with q | ⟨q, _⟩
        · unfold cF at q; omega
        · omega
      have hv : cV s0 sc (k + 1) 64 c = some (.inr (.inl (c - 128))) := by
        unfold cV
        rw [if_neg (by omega), if_pos (by omega)]
      refine w_77 s _ ⟨fun q => absurd q (nI_pos (by omega)), fun _ => ⟨fun _ => ⟨_, rfl, fun _ => ?_, fun q => absurd rfl q⟩, fun q => absurd ((nI_leI (a := 128) (by decide) (by omega)).mpr (by omega)) q⟩⟩
      rw [show (48 : Int32) + nI c - 128 = nI (48 + (c - 128)) by rw [show (48 : Int32) = nI 48 from rfl, nI_add]; exact (pk_sub (a := 48 + c) (b := 128) (by omega)).trans (by rw [show 48 + c - 128 = 48 + (c - 128) by omega])]
      refine (h.put _).imp ?_
      rintro _ t ⟨rfl, t1, t2⟩
      refine ⟨rfl, rfl, hf.trans t2, st, nm, _, t1, by omega, fun x hx => Or.inl hx, by simp, List.prefix_append _ _, Or.inr (Or.inl ⟨c - 128, hv, rfl, rfl, ?_⟩)⟩
      rw [if_neg (by omega)]
  · have e : nI c = 138 := Classical.not_not.mp h138
    obtain rfl : c = 138 := (nI_eq (b := 138) (by omega) (by decide)).mp e
    have hv : cV s0 sc (k + 1) 64 138 = some (.inr (.inl 10)) := by
      unfold cV
      rw [if_neg (by omega), if_pos (by omega)]
    refine (h.put 110).imp ?_
    rintro _ t ⟨rfl, t1, t2⟩
    exact ⟨rfl, rfl, hf.trans t2, st, nm, _, t1, by omega, fun x hx => Or.inl hx, by simp, List.prefix_append _ _, Or.inr (Or.inl ⟨10, hv, rfl, rfl, by rw [if_pos rfl]⟩)⟩
  · have c256 : 256 ≤ c := by
      have : ¬ c < 256 := fun q => hge ((nI_ltI (b := 256) (by omega) (by decide)).mpr q)
      omega
    obtain ⟨a, b, hv, da, db, ev⟩ := cG_half hs hw c256 hc
    refine (h.put 40).imp ?_
    rintro _ t1 ⟨rfl, t1a, t1b⟩
    refine ⟨rfl, (t1a.push (by omega) (.inr 41)).imp ?_⟩
    rintro _ t2 ⟨rfl, t2a, t2b⟩
    have f2 := (hf.trans t1b).trans t2b
    refine ⟨rfl, ((ev t2 (f2 _ (by omega))).2).imp ?_⟩
    rintro _ t2' ⟨rfl, rfl⟩
    refine ⟨_, rfl, (t2a.push (by simp; omega) (.inl b)).imp ?_⟩
    rintro _ t3 ⟨rfl, t3a, t3b⟩
    refine ⟨rfl, (t3a.push (by simp; omega) (.inr 46)).imp ?_⟩
    rintro _ t4 ⟨rfl, t4a, t4b⟩
    have f4 := (f2.trans t3b).trans t4b
    refine ⟨rfl, ((ev t4 (f4 _ (by omega))).1).imp ?_⟩
    rintro _ t4' ⟨rfl, rfl⟩
    refine ⟨_, rfl, (t4a.push (by simp; omega) (.inl a)).imp ?_⟩
    rintro _ t5 ⟨rfl, t5a, t5b⟩
    refine ⟨rfl, rfl, f4.trans t5b, _, nm, _, t5a, by simp, fun x hx => ?_, by simp, List.prefix_append _ _, Or.inr (Or.inr ⟨a, b, hv, rfl, rfl, rfl⟩)⟩
    simp only [List.mem_cons] at hx
    rcases hx with rfl | rfl | rfl | rfl | hx
    · exact Or.inr (fun e q => by cases q; exact da)
    · exact Or.inr (fun e q => by cases q)
    · exact Or.inr (fun e q => by cases q; exact db)
    · exact Or.inr (fun e q => by cases q)
    · exact Or.inl hx
/-- the text, as it lies there -/
def txC (t : rSg) (tx : List Int32) : Prop := t 682 3 = nI tx.length ∧ tx.length ≤ 200 ∧ ∀ j x, tx[j]? = some x → t 683 j = x
theorem ouC.tx {t : rSg} {out : List Int32} (h : ouC t out) : txC t (out.take 200) := ⟨by rw [List.length_take, Nat.min_comm]; exact h.1, by rw [List.length_take]; omega, fun j x q => by
  have hj : j < 200 := by
    have := (List.getElem?_eq_some_iff.mp q).1
    rw [List.length_take] at this
    omega
  exact h.2 j x hj (by rwa [List.getElem?_take_of_lt hj] at q)⟩
theorem tc_58b (hs : isScr sc) (hk : isSt k) (h1 : sc + 3 < 682) (h2 : k + 1 < 682) (hw : cWG s0 sc (k + 1) 64 np D) (hok : vOK (cV s0 sc (k + 1) 64) D rk) : ∀ (f y : Nat) (st : List (Nat ⊕ Int32)) (nm : List Nat) (out : List Int32) (s : rSg), y + f = 200 → TC s st nm out → tf s0 s → stD D st → (∀ x, x ∈ st → ∀ e, x = .inr e → e = 46 ∨ e = 41) → st.length ≤ 1 + 3 * y → y ≤ out.length → g_58_31 sc k (nI y) s (fun v t => v = none ∧ tf s0 t ∧ ∃ out2, WRun (cV s0 sc (k + 1) 64) (cV s0 sc (k + 1) 64) D f st nm out (out2.take 200) ∧ out <+: out2 ∧ ouC t out2) := by
  have harr : isArr (k + 1) 64 := ⟨by have := hk.1; omega, hk.2.2.1⟩
  intro f
  induction f with
  | zero =>
    intro y st nm out s hy hT hf hD hlt hlen hyo
    obtain rfl : y = 200 := by omega
    refine w_58_31 s sc hs k hk (nI 200) ⟨fun _ => ⟨rfl, hf, out, ?_, List.prefix_refl _, hT.2.2⟩, fun q => absurd (by decide) q⟩
    cases st with
    | nil => exact rfl
    | cons x st => exact ⟨hyo, rfl⟩
  | succ f ih =>
    intro y st nm out s hy hT hf hD hlt hlen hyo
    obtain ⟨⟨w4, wst⟩, hN, hO⟩ := id hT
    cases st with
    | nil =>
      refine w_58_31 s sc hs k hk (nI y) ⟨fun q => absurd ((nI_leI (a := 200) (by decide) (by omega)).mp q) (by omega), fun _ => ⟨fun _ => ⟨rfl, hf, out, rfl, List.prefix_refl _, hO⟩, fun q => absurd (by rw [w4]; decide) q⟩⟩
    | cons x st =>
      simp only [List.length_cons] at w4 hlen
      have wx : s 684 st.length = pw x := wst.1
      refine w_58_31 s sc hs k hk (nI y) ?_
      rw [w4, show nI (st.length + 1) - 1 = nI st.length from nI_pred _, nI_clamp (by omega), wx]
      refine ⟨fun q => absurd ((nI_leI (a := 200) (by decide) (by omega)).mp q) (by omega), fun _ => ⟨fun q => absurd ((nI_leI (b := 0) (by omega) (by decide)).mp q) (by omega), fun _ => ⟨fun q => absurd ((nI_ltI (a := 604) (by decide) (by omega)).mp q) (by omega), fun _ => ⟨rIn_nI (by omega) (by decide), fun h0 => ?_, fun h0 => ?_⟩⟩⟩⟩
      · -- a term
        cases x with
        | inr e =>
          exfalso
          rcases hlt _ List.mem_cons_self e rfl with rfl | rfl
          · exact absurd h0 (by decide)
          · exact absurd h0 (by decide)
        | inl c =>
          have dc : D c := hD _ List.mem_cons_self c rfl
          generalize eu : up2 s 682 4 (nI st.length) = u
          have uf : tf s u := by rw [← eu]; exact tf.rfl'.up (by decide)
          have uT : TC u st nm out := by
            have k9 : tfk [] [4] s u := by rw [← eu]; exact ⟨fun q _ h => up2_nk _ _ _ h, fun j hj => up2_nj _ _ _ (by simpa using hj)⟩
            exact ⟨⟨by rw [← eu, up2_same], stC_ext (fun j _ => by rw [k9.1 684 (by simp) (by decide)]) wst.2⟩, hN.k k9 (by simp) (by simp), hO.k k9 (by simp) (by simp)⟩
          have fu := hf.trans uf
          have eV := cV_tf fu h1 h2
          have hwu : cWG u sc (k + 1) 64 np D := (cWG_ext (fu _ (by omega)) (fu _ (by omega))).mpr hw
          refine (cG_walk harr hwu (rk := rk) (by rw [eV]; exact hok) dc).imp ?_
          rintro _ u' ⟨rfl, c2, rfl, d2, r2, w2⟩
          rw [eV] at r2 w2
          refine ⟨_, rfl, (tc_61 hs h1 hw fu uT (by omega) d2 r2).imp ?_⟩
          rintro _ t ⟨rfl, tf1, st2, nm2, out2, T2, l2, m2, o2, p2, step⟩
          have hD2 : stD D st2 := fun z hz e he => by
            rcases m2 z hz with q | q
            · exact hD z (List.mem_cons_of_mem _ q) e he
            · exact q e he
          have hlt2 : ∀ z, z ∈ st2 → ∀ e, z = .inr e → e = 46 ∨ e = 41 := fun z hz e he => by
            rcases step with ⟨_, rfl, _⟩ | ⟨_, _, rfl, _⟩ | ⟨a, b, _, rfl, _⟩
            · exact hlt z (List.mem_cons_of_mem _ hz) e he
            · exact hlt z (List.mem_cons_of_mem _ hz) e he
            · simp only [List.mem_cons] at hz
              rcases hz with rfl | rfl | rfl | rfl | hz
              · cases he
              · cases he; exact Or.inl rfl
              · cases he
              · cases he; exact Or.inr rfl
              · exact hlt z (List.mem_cons_of_mem _ hz) e he
          rw [nI_1]
          refine ⟨rfl, GoS.imp (ih (y + 1) st2 nm2 out2 t (by omega) T2 tf1 hD2 hlt2 (by omega) (by omega)) ?_⟩
          rintro v w ⟨rfl, w1, out3, w3, w4', w5⟩
          refine ⟨rfl, w1, out3, ?_, p2.trans w4', w5⟩
          by_cases h200 : 200 ≤ out.length
          · refine Or.inl ⟨h200, ?_⟩
            obtain ⟨z, hz⟩ := p2.trans w4'
            rw [← hz, List.take_append_of_le_length h200]
          · refine Or.inr ⟨by omega, c2, w2, r2, ?_⟩
            rcases step with ⟨v1, rfl, rfl, rfl⟩ | ⟨n, v1, rfl, rfl, rfl⟩ | ⟨a, b, v1, rfl, rfl, rfl⟩
            · exact Or.inl ⟨v1, w3⟩
            · exact Or.inr (Or.inl ⟨n, v1, w3⟩)
            · exact Or.inr (Or.inr ⟨a, b, v1, w3⟩)
      · -- a sign
        cases x with
        | inl c => exact absurd (Int32.not_lt.mp (nI_pos (n := c) (by have := cWG_lt hw (hD _ List.mem_cons_self c rfl); omega))) h0
        | inr e =>
          have ee : -(pw (.inr e)) = e := by show - - e = e; exact Int32.neg_neg
          rw [ee]
          generalize eu : up2 s 682 4 (nI st.length) = u
          have uf : tf s u := by rw [← eu]; exact tf.rfl'.up (by decide)
          have uT : TC u st nm out := by
            have k9 : tfk [] [4] s u := by rw [← eu]; exact ⟨fun q _ h => up2_nk _ _ _ h, fun j hj => up2_nj _ _ _ (by simpa using hj)⟩
            exact ⟨⟨by rw [← eu, up2_same], stC_ext (fun j _ => by rw [k9.1 684 (by simp) (by decide)]) wst.2⟩, hN.k k9 (by simp) (by simp), hO.k k9 (by simp) (by simp)⟩
          refine (uT.put e).imp ?_
          rintro _ t ⟨rfl, t1, t2⟩
          rw [nI_1]
          refine ⟨rfl, GoS.imp (ih (y + 1) st nm (out ++ [e]) t (by omega) t1 ((hf.trans uf).trans t2) (fun z hz => hD z (List.mem_cons_of_mem _ hz)) (fun z hz => hlt z (List.mem_cons_of_mem _ hz)) (by omega) (by simp; omega)) ?_⟩
          rintro v w ⟨rfl, w1, out3, w3, w4', w5⟩
          have p2 : out <+: out3 := (List.prefix_append _ _).trans w4'
          refine ⟨rfl, w1, out3, ?_, p2, w5⟩
          by_cases h200 : 200 ≤ out.length
          · refine Or.inl ⟨h200, ?_⟩
            obtain ⟨z, hz⟩ := p2
            rw [← hz, List.take_append_of_le_length h200]
          · exact Or.inr ⟨by omega, w3⟩
theorem tc_58 (hs : isScr sc) (hk : isSt k) (h1 : sc + 3 < 682) (h2 : k + 1 < 682) (hw : cWG s0 sc (k + 1) 64 np D) (hok : vOK (cV s0 sc (k + 1) 64) D rk) {v : Nat} (hv : D v) : EvS rSkel 4 58 [.inr (.inr (some 682)), .inr (.inr (some sc)), .inr (.inr (some k)), .inl (nI v)] s0 (fun r t => r = none ∧ tf s0 t ∧ ∃ tx, WRun (cV s0 sc (k + 1) 64) (cV s0 sc (k + 1) 64) D 200 [.inl v] [] [] tx ∧ txC t tx) := by
  refine w_58 s0 sc hs k hk _ ((c_fill (Sk := rSkel) (kb := 685) (nb := 64) ⟨by decide, sk_685⟩ (by decide) _ (-1)).imp ?_)
  rintro _ t ⟨rfl, t0, tN⟩
  generalize eu : up2 t 682 4 0 = u
  have fu : tf s0 u := by
    rw [← eu]
    refine tf.up (fun q hq => ?_) (by decide)
    rw [t0 q (by omega), up2_nk _ _ _ (by omega), up2_nk _ _ _ (by omega)]
  have uT : TC u [] [] [] := by
    refine ⟨⟨by rw [← eu, up2_same]; rfl, trivial⟩, ⟨?_, fun v hv => ?_, fun v hv => (by cases hv), List.nodup_nil⟩, ⟨?_, fun j x hj q => (by simp at q)⟩⟩
    · rw [← eu, up2_nj _ _ _ (by decide), t0 682 (by decide), up2_same]; rfl
    · rw [← eu, up2_nk _ _ _ (by decide), tN v hv, if_neg (by simp)]
    · rw [← eu, up2_nj _ _ _ (by decide), t0 682 (by decide), up2_nj _ _ _ (by decide), up2_same]; rfl
  refine ⟨rfl, (uT.push (by decide) (.inl v)).imp ?_⟩
  rintro _ w ⟨rfl, w1, w2⟩
  refine ⟨rfl, GoS.imp (tc_58b hs hk h1 h2 hw hok 200 0 [.inl v] [] [] w rfl w1 (fu.trans w2) (fun z hz e he => ?_) (fun z hz e he => ?_) (by simp) (by simp)) ?_⟩
  · simp at hz; subst hz; cases he; exact hv
  · simp at hz; subst hz; cases he
  · rintro _ x ⟨rfl, x1, out2, x2, _, x4⟩
    exact ⟨rfl, x1, _, x2, x4.tx⟩
end TELL
