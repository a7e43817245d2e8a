/-! THE REFERENCE: unifies -/
def flat : List (Nat × Nat) → List Nat
  | [] => []
  | q :: qs => q.2 :: q.1 :: flat qs
theorem flat_len : ∀ qs : List (Nat × Nat), (flat qs).length = 2 * qs.length
  | [] => rfl
  | q :: qs => by simp [flat, flat_len qs]; omega
def hch2 (hh : Nat → Nat) (A B : Nat) : List (Nat × Nat) → Prop
  | [] => True
  | q :: qs => hh q.1 + qs.length ≤ A ∧ hh q.2 + qs.length ≤ B ∧ hch2 hh A B qs
def wts2 (hh : Nat → Nat) : List (Nat × Nat) → Nat
  | [] => 0
  | q :: qs => wt (hh q.1) + wts2 hh qs
theorem hch2_len {hh : Nat → Nat} {A B : Nat} : ∀ {qs : List (Nat × Nat)}, hch2 hh A B qs → qs.length ≤ A + 1
  | [], _ => Nat.zero_le _
  | e :: es, h => by have := h.1; simp; omega
/-- how many are open -/
def opens (sg : rSg) : Nat := (List.range 128).countP (fun i => decide (sg 736 i < 0))
theorem opens_le (sg : rSg) : opens sg ≤ 128 := by
  have := List.countP_le_length (p := fun i => decide (sg 736 i < 0)) (l := List.range 128)
  simpa [opens] using this
theorem countP_upd {p q : Nat → Bool} {i : Nat} (h1 : p i = true) (h2 : q i = false) (h3 : ∀ j, j ≠ i → q j = p j) : ∀ {l : List Nat}, l.Nodup → i ∈ l → l.countP q + 1 = l.countP p
  | [], _, h => by cases h
  | x :: t, hn, hi => by
    have hn2 := List.nodup_cons.mp hn
    rw [List.countP_cons, List.countP_cons]
    rcases List.mem_cons.mp hi with rfl | hi
    · have e : t.countP q = t.countP p := List.countP_congr (fun x hx => by rw [h3 x (fun e => hn2.1 (e ▸ hx))])
      rw [if_neg (by rw [h2]; decide), if_pos h1, e]
    · have ih := countP_upd h1 h2 h3 hn2.2 hi
      rw [h3 x (fun e => hn2.1 (e ▸ hi))]
      omega
theorem opens_bind {sg s2 : rSg} {i c : Nat} (hi : i < 128) (ho : sg 736 i = -9) (h : s2 736 = upd (sg 736) i (nI c)) (hc : c < 2 ^ 31) : opens s2 + 1 = opens sg := by
  refine countP_upd (p := fun i => decide (sg 736 i < 0)) (q := fun i => decide (s2 736 i < 0)) (i := i) (by simp [ho]) ?_ (fun j hj => ?_) List.nodup_range (List.mem_range.mpr hi)
  · have := nI_pos hc
    rw [h]
    show decide (upd (sg 736) i (nI c) i < 0) = false
    rw [show upd (sg 736) i (nI c) i = nI c from if_pos rfl]
    simp [this]
  · rw [h]
    show decide (upd (sg 736) i (nI c) j < 0) = _
    rw [show upd (sg 736) i (nI c) j = sg 736 j from if_neg hj]
/-- the trail from a place on, the last first -/
def trl (sg : rSg) (tr : Nat) : List Nat → Prop
  | [] => True
  | v :: bs => sg 737 (tr + bs.length) = nI v ∧ trl sg tr bs
theorem trl_ext {sg s2 : rSg} {tr : Nat} : ∀ {bs : List Nat}, (∀ j, j < tr + bs.length → s2 737 j = sg 737 j) → trl sg tr bs → trl s2 tr bs
  | [], _, _ => trivial
  | e :: es, h, hp => ⟨by rw [h _ (by simp)]; exact hp.1, trl_ext (fun j hj => h j (by simp; omega)) hp.2⟩
/-- what unify may change -/
def mfb (sg s2 : rSg) : Prop := (∀ k, k ≠ 736 → k ≠ 737 → k ≠ 738 → k ≠ 725 → s2 k = sg k) ∧ (∀ j, j ≠ 16 → j ≠ 17 → s2 725 j = sg 725 j)
theorem mfb.rfl' {sg : rSg} : mfb sg sg := ⟨fun _ _ _ _ _ => rfl, fun _ _ _ => rfl⟩
theorem mfb.trans {a b c : rSg} (h1 : mfb a b) (h2 : mfb b c) : mfb a c := ⟨fun k g1 g2 g3 g4 => (h2.1 k g1 g2 g3 g4).trans (h1.1 k g1 g2 g3 g4), fun j g1 g2 => (h2.2 j g1 g2).trans (h1.2 j g1 g2)⟩
theorem mf.b {a b : rSg} (h : mf a b) : mfb a b := ⟨fun k _ _ g3 g4 => h.1 k g3 g4, fun j _ g2 => h.2 j g2⟩
/-- what has been bound since s0: these, the last first -/
def mBd (s0 sg : rSg) (tr : Nat) (bs : List Nat) : Prop := mfb s0 sg ∧ sg 725 16 = nI (tr + bs.length) ∧ trl sg tr bs ∧ (∀ j, j < tr → sg 737 j = s0 737 j) ∧ (∀ v ∈ bs, v < 128 ∧ s0 736 v = -9 ∧ ¬ sg 736 v < 0) ∧ (∀ j, j < 128 → j ∉ bs → sg 736 j = s0 736 j) ∧ bs.length + opens sg = opens s0
/-- what comes of unify -/
def mUni (s0 s2 : rSg) (T a b tr : Nat) (x : Int32) (bs : List Nat) : Prop := mSt s2 T ∧ mBd s0 s2 tr bs ∧
  ((x = 1 ∧ (∀ th, vSol (mV s2) (mD T) th ↔ vSol (mV s0) (mD T) th ∧ th a = th b) ∧ (bs = [] ∨ ∃ th, vSol (mV s0) (mD T) th ∧ th a ≠ th b)) ∨ (x = 0 ∧ ∀ th, vSol (mV s0) (mD T) th → th a ≠ th b))
theorem mV_same {s0 sg : rSg} (hf : mfb s0 sg) (h : ∀ j, j < 128 → sg 736 j = s0 736 j) : mV sg = mV s0 := by
  funext c
  unfold mV
  rw [hf.1 727 (by decide) (by decide) (by decide) (by decide), hf.1 728 (by decide) (by decide) (by decide) (by decide)]
  by_cases h1 : c / 2 < 64
  · rw [if_pos h1, if_pos h1, h _ (opn_lt h1)]
  · rw [if_neg h1, if_neg h1]
/-- all that is bound is bound to even codes: those of the first of two answers, and of a search -/
def evR (s : rSg) : Prop := ∀ j, j < 128 → s 736 j = -9 ∨ ∃ c, s 736 j = nI (2 * c) ∧ c < 100000
def evQ (s : rSg) (a b : Nat) : Prop := evR s ∧ a % 2 = 0 ∧ b % 2 = 0
theorem evR_same {s t : rSg} (e : t 736 = s 736) (h : evR s) : evR t := fun j hj => by rw [e]; exact h j hj
theorem ev_reach {s : rSg} {a b : Nat} (h : evR s) (ha : a % 2 = 0) (hr : reach (mV s) a b) : b % 2 = 0 := by
  refine hr (fun x => x % 2 = 0) (fun c hc => ⟨fun e he => ?_, fun x y hp => ?_⟩) ha
  · unfold mV at he
    split at he
    · next q =>
      rcases h (opn c) (opn_lt q) with g | ⟨d, g, gd⟩
      · rw [g, if_pos (by decide)] at he; cases he
      · rw [g, if_neg (nI_pos (by omega)), nI_clamp (by omega)] at he
        cases he
        omega
    · split at he <;> cases he
  · unfold mV at hp
    split at hp
    · split at hp <;> cases hp
    · split at hp
      · cases hp
      · cases hp
        omega
theorem m_unify_loop {s0 : rSg} {T a0 b0 tr : Nat} (hT9 : T ≤ 1400) (htr : tr + 128 < 4000) {P : Option rv → rSg → Prop} (hP : ∀ x bs s2, mUni s0 s2 T a0 b0 tr x bs → (evQ s0 a0 b0 → evR s2) → P (some (.inl x)) s2) :
    ∀ (m n : Nat) (sg : rSg) (qs : List (Nat × Nat)) (bs : List Nat) (hh : Nat → Nat), opens sg < m → mWF sg T → (∃ rk, vOK (mV sg) (mD T) rk) → vHt (mV sg) (mD T) hh → (∀ c, hh c ≤ 2 * (T - 75)) → wts2 hh qs < n → pil sg 0 (flat qs) → sg 725 17 = nI (2 * qs.length) → (∀ q ∈ qs, q.1 < 2 * T ∧ q.2 < 2 * T) → (∀ hh, vHt (mV sg) (mD T) hh → hch2 hh (hh a0) (hh b0) qs) →
    (∀ th, (vSol (mV s0) (mD T) th ∧ th a0 = th b0) ↔ (vSol (mV sg) (mD T) th ∧ ∀ q ∈ qs, th q.1 = th q.2)) → mBd s0 sg tr bs → (bs = [] ∨ ∃ th, vSol (mV s0) (mD T) th ∧ th a0 ≠ th b0) → (evQ s0 a0 b0 → evR sg ∧ ∀ q ∈ qs, q.1 % 2 = 0 ∧ q.2 % 2 = 0) → g_145_17 1 sg P := by
  intro m
  induction m with
  | zero => intro n sg qs bs hh h; omega
  | succ m ihm =>
    intro n
    induction n with
    | zero => intro sg qs bs hh _ _ _ _ _ h; omega
    | succ n ihn =>
      intro sg qs bs hh hm hw hrk hht hhb hn hpil htop hqs hch hsol hbd hbs hev
      obtain ⟨rk, hok⟩ := hrk
      have hT := hw.2.1
      have hlen := hch2_len (hch hh hht)
      have hA := hhb a0
      refine w_145_17 sg 1 ⟨fun h0 => absurd h0 (by decide), fun _ => ?_⟩
      rw [htop]
      refine ⟨fun h0 => ?_, fun h0 => ?_⟩
      · have hq0 : qs = [] := by
          cases qs with
          | nil => rfl
          | cons q qs => exact absurd ((nI_leI (a := 2 * (q :: qs).length) (b := 0) (by simp at hlen ⊢; omega) (by decide)).mp h0) (by simp)
        subst hq0
        refine ⟨bN1, hP 1 bs sg ⟨⟨hw, rk, hok⟩, hbd, Or.inl ⟨rfl, fun th => ?_, hbs⟩⟩ (fun e => (hev e).1)⟩
        rw [hsol th]
        simp
      · cases qs with
        | nil => exact absurd (nI_le (a := 2 * ([] : List (Nat × Nat)).length) (b := 0) (by simp) (by decide)) h0
        | cons q qs =>
          obtain ⟨x0, y0⟩ := q
          have hq := hqs (x0, y0) List.mem_cons_self
          have hq1 : x0 < 2 * T := hq.1
          have hq2 : y0 < 2 * T := hq.2
          have hqs2 : ∀ q ∈ qs, q.1 < 2 * T ∧ q.2 < 2 * T := fun q hq => hqs q (List.mem_cons_of_mem _ hq)
          have hl1 : (flat qs).length = 2 * qs.length := flat_len qs
          simp only [List.length_cons] at hlen htop ⊢
          have e2 : nI (2 * (qs.length + 1)) - 2 = nI (2 * qs.length) := by
            rw [show (2 : Int32) = nI 2 from rfl, pk_sub (by omega), show 2 * (qs.length + 1) - 2 = 2 * qs.length by omega]
          rw [e2, nI_clamp (by omega)]
          have g1 : sg 738 (2 * qs.length) = nI x0 := by have := hpil.2.1; rw [hl1, Nat.zero_add] at this; exact this
          have g2 : sg 738 (2 * qs.length + 1) = nI y0 := by have := hpil.1; simp only [List.length_cons, hl1, Nat.zero_add] at this; exact this
          rw [g1]
          refine ⟨rIn_nI (by omega) (by decide), ?_⟩
          have f1 : mf sg (up2 sg 725 17 (nI (2 * qs.length))) := mf.top _ _
          have V1 := f1.V
          refine (mw_walk (f1.WF.mpr hw) (V1 ▸ hok) hq1).imp ?_
          rintro _ s1 ⟨rfl, x, rfl, hx, rx, wx⟩
          generalize hs1 : up2 sg 725 17 (nI (2 * qs.length)) = s1 at *
          rw [V1] at rx wx
          have p1 : s1 725 17 = nI (2 * qs.length) := by rw [← hs1, up2_same]
          have c1 : ∀ j, s1 738 j = sg 738 j := fun j => by rw [← hs1, up2_nk _ _ _ (by decide)]
          have hw1 := f1.WF.mpr hw
          have hok1 : vOK (mV s1) (mD T) rk := V1 ▸ hok
          have tr1 : s1 725 16 = nI (tr + bs.length) := by rw [f1.2 16 (by decide)]; exact hbd.2.1
          have s1_6 : s1 736 = sg 736 := f1.1 736 (by decide) (by decide)
          have s1_7 : s1 737 = sg 737 := f1.1 737 (by decide) (by decide)
          have op1 : opens s1 = opens sg := by unfold opens; rw [s1_6]
          have hbd1 : mBd s0 s1 tr bs := ⟨hbd.1.trans f1.b, tr1, trl_ext (fun j _ => by rw [s1_7]) hbd.2.2.1, fun j hj => by rw [s1_7]; exact hbd.2.2.2.1 j hj, fun v hv => by rw [s1_6]; exact hbd.2.2.2.2.1 v hv, fun j hj hb => by rw [s1_6]; exact hbd.2.2.2.2.2.1 j hj hb, by rw [op1]; exact hbd.2.2.2.2.2.2⟩
          have pil1 : pil s1 0 (flat qs) := pil_ext (fun j _ => c1 j) hpil.2.2
          have hbl : bs.length ≤ 128 := by have := hbd.2.2.2.2.2.2; have := opens_le s0; omega
          rw [p1, nI_1, nI_clamp (by omega), c1, g2]
          refine ⟨_, rfl, rIn_nI (by omega) (by decide), ?_⟩
          refine (mw_walk hw1 hok1 hq2).imp ?_
          rintro _ s9 ⟨e9, y, rfl, hy, ry, wy⟩
          rw [e9]
          rw [V1] at ry wy
          have hhx := wx.2.1 hh hht
          have hhy := wy.2.1 hh hht
          have hwn : wts2 hh qs < n := by have := wt_pos (hh x0); simp only [wts2] at hn; omega
          have exy : evQ s0 a0 b0 → x % 2 = 0 ∧ y % 2 = 0 := fun e => ⟨ev_reach (hev e).1 ((hev e).2 (x0, y0) List.mem_cons_self).1 wx.2.2.1, ev_reach (hev e).1 ((hev e).2 (x0, y0) List.mem_cons_self).2 wy.2.2.1⟩
          -- the two are the same: on with the rest
          have same : (∀ th, vSol (mV sg) (mD T) th → th x = th y) → g_145_17 1 s1 P := by
            intro hxy
            refine ihn s1 qs bs hh (by rw [op1]; exact hm) hw1 ⟨rk, hok1⟩ (by rw [V1]; exact hht) hhb hwn pil1 p1 hqs2 (fun h9 h8 => (hch h9 (V1 ▸ h8)).2.2) (fun th => ?_) hbd1 hbs (fun e => ⟨evR_same s1_6 (hev e).1, fun q hq => (hev e).2 q (List.mem_cons_of_mem _ hq)⟩)
            rw [hsol th, V1]
            constructor
            · exact fun h => ⟨h.1, fun q hq => h.2 q (List.mem_cons_of_mem _ hq)⟩
            · refine fun h => ⟨h.1, fun q hq => ?_⟩
              rcases List.mem_cons.mp hq with rfl | hq
              · show th x0 = th y0
                rw [wx.1 th h.1, wy.1 th h.1]
                exact hxy th h.1
              · exact h.2 q hq
          refine ⟨_, rfl, fun h1 => ?_, fun h1 => ?_⟩
          · have hxy : x = y := (nI_eq (by omega) (by omega)).mp h1
            exact same (fun th _ => by rw [hxy])
          · have hne : x ≠ y := fun q => h1 (by rw [q])
            refine (m_meets hw1 hok1 hx hy (V1 ▸ rx) (V1 ▸ ry) hne p1 (by omega) tr1 (by omega)).imp ?_
            rintro r s2 hmeet
            unfold mMeet at hmeet
            rw [V1] at hmeet
            rcases hmeet with ⟨i, c, hic, rfl, hi64, ho, hnr, hbf⟩ | ⟨rfl, hno, hk8, hj8⟩ | ⟨a, b, c, d, rfl, hvx, hvy, la, lb, lc, ld, f2, p2, qa, qc, qb, qd, r2⟩ | ⟨rfl, hxy, rfl⟩
            · -- a binding
              refine ⟨1, rfl, fun q => absurd q (by decide), fun _ => ?_⟩
              have hic2 : i < 2 * T ∧ c < 2 * T := by rcases hic with ⟨rfl, rfl⟩ | ⟨rfl, rfl⟩ <;> constructor <;> assumption
              have k7 : s2 727 = sg 727 := by rw [hbf.1 727 (by decide) (by decide) (by decide) (by decide), f1.1 727 (by decide) (by decide)]
              have k8 : s2 728 = sg 728 := by rw [hbf.1 728 (by decide) (by decide) (by decide) (by decide), f1.1 728 (by decide) (by decide)]
              have k6 : s2 736 = upd (sg 736) (opn i) (nI c) := by rw [hbf.2.2.1, s1_6]
              have V2 : mV s2 = vB (mV sg) i c := mV_bind hT k7 k8 k6 hi64 hic2.2
              have hw2 := mWF_bind k7 k8 k6 hic2.2 hw
              have hoi : sg 736 (opn i) = -9 := (mV_open hw ho).2
              have op2 : opens s2 + 1 = opens sg := opens_bind (opn_lt hi64) hoi k6 (by omega)
              obtain ⟨rk2, hok2⟩ := vOK_bind ho hok hic2.2 hnr
              rw [← V2] at hok2
              obtain ⟨hh2, hht2, hhb2⟩ := mHt hw2 hok2
              have fb : mfb s1 s2 := ⟨hbf.1, fun j h6 _ => hbf.2.1 j h6⟩
              have hnb : opn i ∉ bs := fun q => (hbd.2.2.2.2.1 _ q).2.2 (by rw [hoi]; decide)
              refine ihm (wts2 hh2 qs + 1) s2 qs (opn i :: bs) hh2 (by omega) hw2 ⟨rk2, hok2⟩ hht2 hhb2 (by omega) (pil_ext (fun j hj => hbf.2.2.2.2.2 j (by rw [hl1] at hj; omega)) pil1) (by rw [hbf.2.1 17 (by decide)]; exact p1) hqs2 (fun h9 h8 => (hch h9 (vHt_bind ho (V2 ▸ h8))).2.2) (fun th => ?_) ⟨hbd1.1.trans fb, ?_, ⟨?_, trl_ext (fun j hj => ?_) hbd1.2.2.1⟩, fun j hj => ?_, ?_, ?_, ?_⟩ (Or.inr ?_) (fun e => ⟨fun j hj => ?_, fun q hq => (hev e).2 q (List.mem_cons_of_mem _ hq)⟩)
              · rw [hsol th, V2, vSol_bind ho hic2.1]
                constructor
                · intro h
                  refine ⟨⟨h.1, ?_⟩, fun q hq => h.2 q (List.mem_cons_of_mem _ hq)⟩
                  have h0 : th x0 = th y0 := h.2 (x0, y0) List.mem_cons_self
                  rw [wx.1 th h.1, wy.1 th h.1] at h0
                  rcases hic with ⟨rfl, rfl⟩ | ⟨rfl, rfl⟩
                  · exact h0
                  · exact h0.symm
                · rintro ⟨⟨h3, h4⟩, h5⟩
                  refine ⟨h3, fun q hq => ?_⟩
                  rcases List.mem_cons.mp hq with rfl | hq
                  · show th x0 = th y0
                    rw [wx.1 th h3, wy.1 th h3]
                    rcases hic with ⟨rfl, rfl⟩ | ⟨rfl, rfl⟩
                    · exact h4
                    · exact h4.symm
                  · exact h5 q hq
              · rw [hbf.2.2.2.2.1]; rfl
              · rw [hbf.2.2.2.1]; exact if_pos rfl
              · rw [hbf.2.2.2.1]; exact if_neg (by omega)
              · rw [hbf.2.2.2.1, show upd (s1 737) (tr + bs.length) (nI (opn i)) j = s1 737 j from if_neg (by omega)]; exact hbd1.2.2.2.1 j hj
              · intro v hv
                rcases List.mem_cons.mp hv with rfl | hv
                · refine ⟨opn_lt hi64, ?_, ?_⟩
                  · rw [← hbd.2.2.2.2.2.1 (opn i) (opn_lt hi64) hnb]
                    exact hoi
                  · rw [k6, show upd (sg 736) (opn i) (nI c) (opn i) = nI c from if_pos rfl]
                    exact nI_pos (by omega)
                · have h0 := hbd.2.2.2.2.1 v hv
                  refine ⟨h0.1, h0.2.1, ?_⟩
                  rw [k6, show upd (sg 736) (opn i) (nI c) v = sg 736 v from if_neg (fun (q : v = opn i) => hnb (by rw [← q]; exact hv))]
                  exact h0.2.2
              · intro j hj hjb
                rw [k6, show upd (sg 736) (opn i) (nI c) j = sg 736 j from if_neg (fun q => hjb (by rw [q]; exact List.mem_cons_self))]
                exact hbd.2.2.2.2.2.1 j hj (fun q => hjb (List.mem_cons_of_mem _ q))
              · have := hbd.2.2.2.2.2.2
                simp only [List.length_cons]
                omega
              · rcases hbs with rfl | hbs
                · have Vs : mV sg = mV s0 := mV_same hbd.1 (fun j hj => hbd.2.2.2.2.2.1 j hj (by simp))
                  obtain ⟨th, h3, h4⟩ := vSol_other hok ho hnr
                  refine ⟨th, Vs ▸ h3, fun q => h4 ?_⟩
                  have h5 := ((hsol th).mp ⟨Vs ▸ h3, q⟩).2 (x0, y0) List.mem_cons_self
                  have h5 : th x0 = th y0 := h5
                  rw [wx.1 th h3, wy.1 th h3] at h5
                  rcases hic with ⟨rfl, rfl⟩ | ⟨rfl, rfl⟩
                  · exact h5
                  · exact h5.symm
                · exact hbs
              · have ec : c % 2 = 0 := by
                  rcases hic with ⟨_, q⟩ | ⟨_, q⟩
                  · rw [q]; exact (exy e).2
                  · rw [q]; exact (exy e).1
                rw [k6]
                by_cases q : j = opn i
                · rw [q]
                  exact Or.inr ⟨c / 2, by rw [show upd (sg 736) (opn i) (nI c) (opn i) = nI c from if_pos rfl]; congr 1; omega, by omega⟩
                · rw [show upd (sg 736) (opn i) (nI c) j = sg 736 j from if_neg q]
                  exact (hev e).1 j hj
            · -- they can't be the same
              refine ⟨0, rfl, fun _ => ?_, fun q => absurd rfl q⟩
              have fb : mf s1 s2 := ⟨fun k h3 _ => hk8 k h3, fun j _ => by rw [hk8 725 (by decide)]⟩
              have V2 : mV s2 = mV sg := fb.V.trans V1
              have k6 : s2 736 = s1 736 := hk8 736 (by decide)
              have k7 : s2 737 = s1 737 := hk8 737 (by decide)
              have op2 : opens s2 = opens s1 := by unfold opens; rw [k6]
              refine w_145_17 s2 0 ⟨fun _ => ⟨bN0, hP 0 bs s2 ⟨⟨fb.WF.mpr hw1, rk, V2 ▸ hok⟩, ⟨hbd1.1.trans fb.b, by rw [hk8 725 (by decide)]; exact tr1, trl_ext (fun j _ => by rw [k7]) hbd1.2.2.1, fun j hj => by rw [k7]; exact hbd1.2.2.2.1 j hj, fun v hv => by rw [k6]; exact hbd1.2.2.2.2.1 v hv, fun j hj hb => by rw [k6]; exact hbd1.2.2.2.2.2.1 j hj hb, by rw [op2]; exact hbd1.2.2.2.2.2.2⟩, Or.inr ⟨rfl, fun th hs q => ?_⟩⟩ (fun e => evR_same (k6.trans s1_6) (hev e).1)⟩, fun q => absurd rfl q⟩
              have h5 := (hsol th).mp ⟨hs, q⟩
              have h6 : th x0 = th y0 := h5.2 (x0, y0) List.mem_cons_self
              rw [wx.1 th h5.1, wy.1 th h5.1] at h6
              exact hno th h5.1 h6
            · -- two pairs
              refine ⟨1, rfl, fun q => absurd q (by decide), fun _ => ?_⟩
              have V2 : mV s2 = mV sg := f2.V.trans V1
              have k6 : s2 736 = s1 736 := f2.1 736 (by decide) (by decide)
              have k7 : s2 737 = s1 737 := f2.1 737 (by decide) (by decide)
              have op2 : opens s2 = opens s1 := by unfold opens; rw [k6]
              have hab := (hht x hx).2 a b hvx
              have hw3 := wt_two (a := hh b) (b := hh a) (c := hh x0) (by omega) (by omega)
              refine ihn s2 ((b, d) :: (a, c) :: qs) bs hh (by rw [op2, op1]; exact hm) (f2.WF.mpr hw1) ⟨rk, V2 ▸ hok⟩ (V2 ▸ hht) hhb (by simp only [wts2] at hn ⊢; omega) ⟨?_, ?_, ?_, ?_, pil_ext (fun j hj => r2 j (by rw [hl1] at hj; omega)) pil1⟩ (by rw [p2]; simp only [List.length_cons]; congr 1) ?_ (fun h9 h8 => ?_) (fun th => ?_) ⟨hbd1.1.trans f2.b, by rw [f2.2 16 (by decide)]; exact tr1, trl_ext (fun j _ => by rw [k7]) hbd1.2.2.1, fun j hj => by rw [k7]; exact hbd1.2.2.2.1 j hj, fun v hv => by rw [k6]; exact hbd1.2.2.2.2.1 v hv, fun j hj hb => by rw [k6]; exact hbd1.2.2.2.2.2.1 j hj hb, by rw [op2]; exact hbd1.2.2.2.2.2.2⟩ hbs (fun e => ⟨evR_same (k6.trans s1_6) (hev e).1, ?_⟩)
              · simp only [List.length_cons, hl1, flat, Nat.zero_add]; exact qd
              · simp only [List.length_cons, hl1, flat, Nat.zero_add]; exact qb
              · simp only [List.length_cons, hl1, flat, Nat.zero_add]; exact qc
              · simp only [hl1, Nat.zero_add]; exact qa
              · intro q hq
                rcases List.mem_cons.mp hq with rfl | hq
                · exact ⟨lb, ld⟩
                · rcases List.mem_cons.mp hq with rfl | hq
                  · exact ⟨la, lc⟩
                  · exact hqs2 q hq
              · rw [V2] at h8
                have h0 := hch h9 h8
                have hx9 := wx.2.1 h9 h8
                have hy9 := wy.2.1 h9 h8
                have hab9 := (h8 x hx).2 a b hvx
                have hcd9 := (h8 y hy).2 c d hvy
                have z1 : h9 x0 + qs.length ≤ h9 a0 := h0.1
                have z2 : h9 y0 + qs.length ≤ h9 b0 := h0.2.1
                exact ⟨by simp only [List.length_cons]; omega, by simp only [List.length_cons]; omega, by simp only []; omega, by simp only []; omega, h0.2.2⟩
              · rw [hsol th, V2]
                have key : vSol (mV sg) (mD T) th → (th x0 = th y0 ↔ th b = th d ∧ th a = th c) := by
                  intro h
                  rw [wx.1 th h, wy.1 th h, (h x hx).2.2 a b hvx, (h y hy).2.2 c d hvy]
                  constructor
                  · intro q
                    have := nd_inj q
                    exact ⟨this.2, this.1⟩
                  · rintro ⟨q1, q2⟩
                    rw [q1, q2]
                constructor
                · intro h
                  have := (key h.1).mp (h.2 (x0, y0) List.mem_cons_self)
                  refine ⟨h.1, fun q hq => ?_⟩
                  rcases List.mem_cons.mp hq with rfl | hq
                  · exact this.1
                  · rcases List.mem_cons.mp hq with rfl | hq
                    · exact this.2
                    · exact h.2 q (List.mem_cons_of_mem _ hq)
                · intro h
                  refine ⟨h.1, fun q hq => ?_⟩
                  rcases List.mem_cons.mp hq with rfl | hq
                  · exact (key h.1).mpr ⟨h.2 (b, d) (by simp), h.2 (a, c) (by simp)⟩
                  · exact h.2 q (by simp [hq])
              · intro q hq
                have ea := ev_reach (hev e).1 (exy e).1 (reach.left hvx)
                have eb := ev_reach (hev e).1 (exy e).1 (reach.right hvx)
                have ec := ev_reach (hev e).1 (exy e).2 (reach.left hvy)
                have ed := ev_reach (hev e).1 (exy e).2 (reach.right hvy)
                rcases List.mem_cons.mp hq with rfl | hq
                · exact ⟨eb, ed⟩
                · rcases List.mem_cons.mp hq with rfl | hq
                  · exact ⟨ea, ec⟩
                  · exact (hev e).2 q (List.mem_cons_of_mem _ hq)
            · exact ⟨1, rfl, fun q => absurd q (by decide), fun _ => same hxy⟩
/-- unifies: what comes of it -/
theorem m_unifiesE {s0 : rSg} {T a b tr : Nat} (hst : mSt s0 T) (hT9 : T ≤ 1400) (ht : s0 725 16 = nI tr) (htr : tr + 128 < 4000) (ha : a < 2 * T) (hb : b < 2 * T) : EvS rSkel 6 145 [.inr (.inr (some 725)), .inl (nI a), .inl (nI b)] s0 (fun r s2 => ∃ x bs, r = some (.inl x) ∧ mUni s0 s2 T a b tr x bs ∧ (evQ s0 a b → evR s2)) := by
  obtain ⟨hw, rk, hok⟩ := hst
  refine w_145 s0 (nI a) (nI b) ((m_piles (up2 s0 725 17 0) (p := 0) (nI a) (up2_same _ _ _ _) (by decide)).imp ?_)
  rintro _ s1 ⟨rfl, f1, p1, q1, r1⟩
  refine ⟨rfl, (m_piles s1 (nI b) p1 (by decide)).imp ?_⟩
  rintro _ s2 ⟨rfl, f2, p2, q2, r2⟩
  refine ⟨rfl, ?_⟩
  have f : mf s0 s2 := ((mf.top s0 0).trans f1).trans f2
  have V2 := f.V
  obtain ⟨hh, hht, hhb⟩ := mHt hw hok
  have k6 : s2 736 = s0 736 := f.1 736 (by decide) (by decide)
  have k7 : s2 737 = s0 737 := f.1 737 (by decide) (by decide)
  have op : opens s2 = opens s0 := by unfold opens; rw [k6]
  refine m_unify_loop hT9 htr (fun x bs s3 h he => ⟨x, bs, rfl, h, he⟩) (opens s2 + 1) (wts2 hh [(a, b)] + 1) s2 [(a, b)] [] hh (by omega) (f.WF.mpr hw) ⟨rk, V2 ▸ hok⟩ (V2 ▸ hht) hhb (by omega) ⟨q2, by rw [show 0 + (flat []).length = 0 from rfl, r2 0 (by decide)]; exact q1, trivial⟩ p2 ?_ (fun h9 _ => ⟨by simp, by simp, trivial⟩) (fun th => ?_) ⟨f.b, by rw [f.2 16 (by decide)]; exact ht, trivial, fun j _ => by rw [k7], fun v hv => (by cases hv), fun j _ _ => by rw [k6], by rw [op]; simp⟩ (Or.inl rfl) (fun e => ⟨evR_same k6 e.1, fun q hq => by
    rcases List.mem_cons.mp hq with rfl | hq
    · exact e.2
    · cases hq⟩)
  · intro q hq
    rcases List.mem_cons.mp hq with rfl | hq
    · exact ⟨ha, hb⟩
    · cases hq
  · rw [V2]
    simp
theorem m_unifies {s0 : rSg} {T a b tr : Nat} (hst : mSt s0 T) (hT9 : T ≤ 1400) (ht : s0 725 16 = nI tr) (htr : tr + 128 < 4000) (ha : a < 2 * T) (hb : b < 2 * T) : EvS rSkel 6 145 [.inr (.inr (some 725)), .inl (nI a), .inl (nI b)] s0 (fun r s2 => ∃ x bs, r = some (.inl x) ∧ mUni s0 s2 T a b tr x bs) := (m_unifiesE hst hT9 ht htr ha hb).imp (fun r s2 h => by
  obtain ⟨x, bs, h1, h2, _⟩ := h
  exact ⟨x, bs, h1, h2⟩)
/-- undoes: the variables that were bound are open again -/
theorem m_undoes {s0 : rSg} {tr : Nat} (htr : tr + 128 < 4000) {P : Option rv → rSg → Prop} (hP : ∀ s2, mfb s0 s2 → s2 725 16 = nI tr → (∀ j, j < tr → s2 737 j = s0 737 j) → (∀ j, j < 128 → s2 736 j = s0 736 j) → P none s2) : ∀ (bs : List Nat) (sg : rSg), bs.length ≤ 128 → mfb s0 sg → sg 725 16 = nI (tr + bs.length) → trl sg tr bs → (∀ j, j < tr → sg 737 j = s0 737 j) → (∀ v ∈ bs, v < 128 ∧ s0 736 v = -9) → (∀ j, j < 128 → j ∉ bs → sg 736 j = s0 736 j) → g_156_0 (nI tr) sg P := by
  intro bs
  induction bs with
  | nil =>
    intro sg _ hf ht _ hl _ hj
    refine w_156_0 sg (nI tr) ?_
    rw [ht]
    exact ⟨fun _ => hP sg hf ht hl (fun j h => hj j h (by simp)), fun h => absurd (nI_le (by simp) (by omega)) h⟩
  | cons v bs ih =>
    intro sg hlen hf ht htl hl hv hj
    simp only [List.length_cons] at hlen ht
    refine w_156_0 sg (nI tr) ?_
    rw [ht, show nI (tr + (bs.length + 1)) - 1 = nI (tr + bs.length) from nI_pred _, nI_clamp (by omega), htl.1]
    have h0 := hv v List.mem_cons_self
    refine ⟨fun h => absurd ((nI_leI (by omega) (by omega)).mp h) (by omega), fun _ => ?_⟩
    rw [nI_clamp (by omega)]
    refine ⟨rIn_nI (by omega) (by decide), rIn_nI h0.1 (by decide), ?_⟩
    refine ih _ (by omega) (hf.trans ⟨fun k g1 g2 g3 g4 => by rw [up2_nk _ _ _ g1, up2_nk _ _ _ g4], fun j g1 g2 => by rw [up2_nk _ _ _ (by decide), up2_nj _ _ _ g1]⟩) (by rw [up2_nk _ _ _ (by decide), up2_same]) (trl_ext (fun j _ => by rw [up2_nk _ _ _ (by decide), up2_nk _ _ _ (by decide)]) htl.2) (fun j h => by rw [up2_nk _ _ _ (by decide), up2_nk _ _ _ (by decide)]; exact hl j h) (fun w hw => hv w (List.mem_cons_of_mem _ hw)) (fun j h hjb => ?_)
    by_cases hjv : j = v
    · subst hjv
      rw [up2_same, h0.2]
    · rw [up2_nj _ _ _ hjv, up2_nk _ _ _ (by decide)]
      exact hj j h (by simp [hjv, hjb])
theorem mw_undoes {s0 sg : rSg} {tr : Nat} (htr : tr + 128 < 4000) {bs : List Nat} (h : mBd s0 sg tr bs) : EvS rSkel 1 156 [.inr (.inr (some 725)), .inl (nI tr)] sg (fun r s2 => r = none ∧ mfb s0 s2 ∧ s2 725 16 = nI tr ∧ (∀ j, j < tr → s2 737 j = s0 737 j) ∧ (∀ j, j < 128 → s2 736 j = s0 736 j)) := by
  have h7 := h.2.2.2.2.2.2
  have := opens_le s0
  exact w_156 sg (nI tr) (m_undoes htr (fun s2 h1 h2 h3 h4 => ⟨rfl, h1, h2, h3, h4⟩) bs sg (by omega) h.1 h.2.1 h.2.2.1 h.2.2.2.1 (fun v hv => ⟨(h.2.2.2.2.1 v hv).1, (h.2.2.2.2.1 v hv).2.1⟩) h.2.2.2.2.2.1)
