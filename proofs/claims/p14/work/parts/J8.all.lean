/-! NEW OBJECTS; EVERY CALL OF BOTH -/
def tb0 : Tb := fun _ => (42, vr 0, vr 0, vr 0, 0, 0)
def C0f : Cf := (0, 1, 0, False, fun _ => 1, tb0, fun _ => 1, fun _ => 0, fun _ _ => 0)
theorem C0f_ok : cfT C0f 0 := by
  refine ⟨⟨by decide, fun q => q.elim, by decide, fun g hg => ⟨Nat.le_refl _, fun q => ?_, fun q => ?_, fun q => ?_⟩⟩, by decide, by decide, by decide, fun q => Nat.zero_le 1⟩
  · rcases q with q | q
    · exact absurd (show (42 : Nat) = 38 from q) (by decide)
    · exact absurd (show (42 : Nat) = 124 from q) (by decide)
  · exact absurd (show (42 : Nat) = 77 from q) (by decide)
  · exact absurd (show (42 : Nat) = 35 ∨ (42 : Nat) = 77 from q) (by decide)
theorem hQ_new {s : rSg} (h : seF s 6) : hQ s 6 tb0 1 0 (bgn 0) := by
  obtain ⟨sc, b1, b2, b3, b4, h7, h8, h9, h10, h11, h12, k2, k3, k4, k6⟩ := h
  obtain ⟨z2, z3, z4, z5, z6, z7, z1⟩ := sc
  have hto : cTo s 7 0 C0f.p := ⟨fun c _ => (show (0 : Nat) < 1 ∧ 1 ≤ 100 by decide), fun c h1 h2 => by omega⟩
  have htab : cTab C0f s 7 := fun g hg => by
    have : g = 0 := by
      have : g < 1 := hg
      omega
    subst this
    exact ⟨42, z1, rfl, Or.inr (Or.inr (Or.inr (Or.inl rfl)))⟩
  refine ⟨C0f, rfl, rfl, C0f_ok, by decide, by decide, by decide, ⟨0, 1, ⟨⟨Nat.le_refl _, by decide, Nat.le_refl _, by decide⟩, z2, z3, hto, htab⟩, ⟨0, ⟨h7, by decide⟩, ⟨h8, by simp [bgn]⟩, h9, ⟨h10, by simp [bgn]⟩, h11, h12, fun i X hi => ?_, fun i n X hi => by simp [bgn] at hi⟩, by simp [bgn], by simp [bgn], by simp [bgn], fun a ha => by simp [bgn] at ha⟩, ⟨z4, z5, z6, z7, hto, htab, fun _ => ⟨fun c h1 h2 => (by have h2 : c < 256 + 0 := h2; omega), fun _ => 1, fun _ => 0, fun _ _ => rfl, fun c h1 h2 => (by have h2 : c < 256 + 0 := h2; omega), Nat.le_refl _, fun g _ => ⟨fun q => absurd q (show ¬ ((42 : Nat) = 61 ∨ (42 : Nat) = 35 ∨ (42 : Nat) = 77) by decide), fun q => absurd q (show ¬ (42 : Nat) = 65 by decide)⟩⟩⟩⟩
  have hi0 : i = 0 ∧ X = ([.inl 0], [], 6, fun _ => True) := by
    cases i with
    | zero => simp [bgn] at hi; exact ⟨rfl, hi.symm⟩
    | succ i => simp [bgn] at hi
  obtain ⟨rfl, rfl⟩ := hi0
  refine ⟨⟨[], [], fun _ => False, [0], k2, k3, ⟨k6, trivial⟩, ⟨Or.inl ⟨by decide, rfl⟩, trivial⟩, ?_, cFr_0 hto (Nat.le_refl _) (by decide) (fun j hj => b1 0 (by decide) j (by omega)), ⟨by simp, fun _ => by simp, Nat.le_refl _, (show (1 : Nat) + 0 ≤ 26 by decide), fun q => (show (0 : Nat) + (0 + 0) ≤ 1 by decide), fun g hg => by cases hg⟩, [], HsO.bgn, fun g _ => (show (0 : Nat) + (0 + 0) ≤ 1 by decide), fun c hc => (by cases hc), fun c hc => (by cases hc), fun c hc => (by cases hc), fun c hc => (by cases hc), fun q hq => (by cases hq)⟩, show 6 ≤ 60 by decide⟩
  show kbt (s 12 4) []
  rw [show s 12 4 = 0 from k4]
  exact ⟨fun g _ => by simp, List.nodup_nil, fun g hg => by cases hg⟩
theorem tx_new {tx : Nat → Int32} (h : tx 0 = 42) : gTx tx 1 (tb0, 1, 0, bgn 0) := by
  have hS : RStep 0 (tx 0) 103 ([], 0, 0, none) ([], 1, 0, none) := Or.inr (Or.inr ⟨by decide, by decide, by rw [h]; unfold gSg; decide, by rw [h]; rfl⟩)
  exact ⟨by decide, by decide, by decide, Or.inl ⟨([], 1, 0, none), hS, Or.inl ⟨rfl, rfl⟩⟩, ⟨([], 1, 0, none), [], hS, rfl, Or.inr (Or.inr ⟨rfl, 42, h, rfl, Or.inr (Or.inr (Or.inr ⟨Or.inl rfl, rfl⟩))⟩)⟩⟩
theorem MJ_new {s : rSg} (h : mdF s) : MJ s (tb0, 1, 0, bgn 0) none := by
  obtain ⟨h0, h39, h40, h48, h58, h21, h46, h47, h48b, h49, h50, h51, hd, hk, hf, hr, h12, h11, h10, l33, l35, g47, g9, t53, g0, g1, g2⟩ := h
  have hP : hpP s 75 := fun t a b => by omega
  have hh : hp s 75 1 2 := ⟨by decide, ⟨h10, h11, h12⟩, hP, fun g hg => by
    obtain rfl : g = 0 := by omega
    refine ⟨0, 0, 0, g0, g1, g2, fun q => ?_, fun _ => by decide⟩
    rw [g9] at q
    exact absurd q (by unfold two2; decide)⟩
  have n0 : nh s 0 = 0 := nh_none (by rw [g9]; decide) (by rw [g9]; unfold two2; decide)
  have hw : wX s 75 1 2 (42 * 0 + (0 + 0) % 42) (1, [0], 0, [], 6) := by
    refine ⟨bRow_open (by decide) (by decide) hP (fun j hj => ?_), hd, hk, hf, show 6 ≤ 60 by decide, ⟨by decide, by decide, l33, by decide, 0, l35, by decide, rfl⟩, rfl, ?_⟩
    · rw [show 64 * (42 * 0 + (0 + 0) % 42) + j = j by omega]; exact hr j hj
    · simp [nhs, n0]
  have hwa : wXa tb0 (Rb 1 1) s 75 1 2 (42 * 0 + (0 + 0) % 42) (1, [0], 0, [], 6) ([.inl 0], [], 6, fun _ => True) := by
    refine ⟨hw, ⟨⟨Or.inl ⟨0, ⟨rfl, by decide⟩, rfl⟩, trivial⟩, ⟨[], List.Perm.refl _, trivial⟩, rfl⟩, fun r => ⟨fun _ => ?_, fun _ => trivial⟩⟩
    obtain ⟨⟨hw1, rk, hok⟩, _⟩ := hw.1
    obtain ⟨th, q1, q2, _⟩ := vSol_ex hok (fun c => r (c / 2))
    refine ⟨th, q1, fun v hv => ?_⟩
    rw [q2 (2 * v) ?_]
    · rw [show 2 * v / 2 = v by omega]
    · have e0 : opn (2 * v) = v := by unfold opn; omega
      unfold mV
      rw [if_pos (by omega), e0, upC_same]
      unfold ldF
      rw [if_pos hv]
      show (if s 739 (64 * (42 * 0 + (0 + 0) % 42) + v) < 0 then none else _) = none
      rw [show 64 * (42 * 0 + (0 + 0) % 42) + v = v by omega, hr v hv]
      exact if_pos (by decide)
  refine ⟨75, 1, 2, 0, 0, ⟨hh, ⟨h21, by decide⟩, ⟨⟨h46, by decide⟩, ⟨h47, by simp [bgn]⟩, ⟨h48b, by simp [bgn]⟩, h49, h50, h51, fun i Y hi => ?_, fun i n Y hi => by simp [bgn] at hi⟩, fun g q hR => ?_⟩, ⟨by decide, by decide, by decide⟩, ⟨g47, rfl, by decide, by omega⟩, ⟨1, h40, tx_new t53⟩, ⟨Nat.zero_le _, rcd_bgn _, show 1 ≤ 40 by decide⟩, fun _ => h48, fun B z => (by cases z)⟩
  · cases i with
    | zero =>
      simp [bgn] at hi
      subst hi
      exact ⟨_, hwa⟩
    | succ i => simp [bgn] at hi
  · have : g = 0 := by
      have : g < 1 := hR.2
      omega
    subst this
    exact ⟨by decide, g9, Or.inr (Or.inr (Or.inr (Or.inl rfl)))⟩
theorem JI_new {s : rSg} (h : clF s) (m : mdF s) : JI 512 s := by
  refine ⟨(tb0, 1, 0, bgn 0), none, clI_new h, ⟨hQ_new h.1, fun _ => h.2.2.2.2.2.2.2.2, fun B z => (by cases z)⟩, MJ_new m, ⟨⟨0, by decide, h.2.2.2.2.2.1, m.2.1, fun i hi => by omega⟩, ⟨0, by decide, h.2.2.2.2.2.2.1, m.2.2.2.2.1, fun i hi => by omega⟩, ?_⟩, 0, ⟨h.2.2.2.1, fun j _ => ⟨0, Nat.le_refl _, h.2.2.2.2.1 j⟩⟩, by decide⟩
  funext j
  rw [h.2.2.2.2.2.2.2.1 j, m.1 j]
theorem JI.mono {k : Nat} {s : rSg} (h : JI (k + 1) s) : JI k s := by
  obtain ⟨A, im, h1, h2, h3, hs, l, h5, h6⟩ := h
  exact ⟨A, im, h1, h2, h3, hs, l, h5, Nat.lt_of_le_of_lt (Nat.add_le_add_right (Nat.add_le_add_left (Nat.mul_le_mul_right _ (Nat.le_succ k)) l) _) h6⟩
/-! the specs say one thing each -/
theorem sQue_uq (Q : Qx) (x : Int32) : uq (sQue Q x) := by
  unfold sQue
  repeat' split
  all_goals first | exact wIs_uq _ | exact wNo_uq _
theorem sCnt_uq (A : Ab) (f : Nat → Int32) (n m : Nat) (x : Int32) : uq (sCnt A f n m x) := by
  unfold sCnt
  repeat' split
  all_goals exact wIs_uq _
theorem sLots_uq (a b c : Int32) : uq (sLots a b c) := by
  unfold sLots
  repeat' split
  all_goals first | exact wIs_uq _ | exact wNo_uq _
theorem isT_uq {K : Kx} {v : Nat} {F : List Int32 → Int32} : uq (fun r o => ∃ tx, isT K v tx ∧ wIs (F tx) r o) := fun r o r2 o2 h1 h2 => by
  obtain ⟨tx, a, b⟩ := h1
  obtain ⟨ty, c, d⟩ := h2
  rw [isT_uniq a c] at b
  exact wIs_uq _ _ _ _ _ b d
theorem sTxt_uq (Q : Qx) (x y z : Int32) : uq (sTxt Q x y z) := wAn_uq (fun i n X => wNm_uq (fun v r o r2 o2 h1 h2 => by
  rcases h1 with ⟨a, b⟩ | ⟨a, b⟩ <;> rcases h2 with ⟨c, d⟩ | ⟨c, d⟩
  · exact wNo_uq _ _ _ _ _ b d
  · exact absurd c a
  · exact absurd a c
  · exact isT_uq (F := fun tx => txD tx z) _ _ _ _ b d))
theorem sEar_uq (Q : Qx) (x y : Int32) : uq (sEar Q x y) := wAn_uq (fun i n X => wNm_uq (fun v r o r2 o2 h1 h2 => by
  obtain ⟨j, a, b⟩ := h1
  obtain ⟨k, c, d⟩ := h2
  rw [fsA_uniq a c] at b
  exact wIs_uq _ _ _ _ _ b d))
theorem sDif_uq (Q : Qx) (x : Int32) : uq (sDif Q x) := wNm_uq (fun v r o r2 o2 h1 h2 => by
  obtain ⟨j, a, b⟩ := h1
  obtain ⟨k, c, d⟩ := h2
  rw [dif_uniq a c] at b
  exact wIs_uq _ _ _ _ _ b d)
theorem sNeed_uq (A : Ab) (x : Int32) : uq (sNeed A x) := wBd_uq (by decide) (by decide) (fun v r o r2 o2 h1 h2 => by
  obtain ⟨j, a, b⟩ := h1
  obtain ⟨k, c, d⟩ := h2
  rw [gos_uniq a c] at b
  exact wIs_uq _ _ _ _ _ b d)
theorem sLeft_uq (A : Ab) (x y : Int32) : uq (sLeft A x y) := wNm_uq (fun v => wBd_uq (by decide) (by decide) (fun a r o r2 o2 h1 h2 => by
  obtain ⟨j, a, b⟩ := h1
  obtain ⟨k, c, d⟩ := h2
  rw [gos_uniq a c] at b
  exact wIs_uq _ _ _ _ _ b d))
theorem sLeast_uq (A : Ab) (x : Int32) : uq (sLeast A x) := wNm_uq (fun v r o r2 o2 h1 h2 => by
  rcases h1 with ⟨a, a1, a2, a3, a4⟩ | ⟨a1, a4⟩ <;> rcases h2 with ⟨b, b1, b2, b3, b4⟩ | ⟨b1, b4⟩
  · have : a = b := by
      rcases Nat.lt_trichotomy a b with h | h | h
      · exact absurd a2 (b3 a h)
      · exact h
      · exact absurd b2 (a3 b h)
    subst this
    exact wIs_uq _ _ _ _ _ a4 b4
  · exact absurd a2 (b1 a a1)
  · exact absurd b2 (a1 b b1)
  · exact wIs_uq _ _ _ _ _ a4 b4)
theorem sTurn_uq (A : Ab) (x : Int32) : uq (sTurn A x) := fun r o r2 o2 h1 h2 => by
  rcases h1 with ⟨a, ⟨a1, Q1, a2, a3⟩ | ⟨a1, a2⟩⟩ | ⟨a, a1⟩ <;> rcases h2 with ⟨b, ⟨b1, Q2, b2, b3⟩ | ⟨b1, b2⟩⟩ | ⟨b, b1⟩
  · rw [gos_uniq a2 b2] at a3
    exact wIs_uq _ _ _ _ _ a3 b3
  · exact absurd a1 b1
  · exact absurd a b
  · exact absurd b1 a1
  · exact wNo_uq _ _ _ _ _ a2 b2
  · exact absurd a b
  · exact absurd b a
  · exact absurd b a
  · exact wNo_uq _ _ _ _ _ a1 b1
theorem sWhich_uq (A : Ab) (ns : List Int32) (x : Int32) : uq (sWhich A ns x) := wNm_uq (fun v r o r2 o2 h1 h2 => by
  obtain ⟨j, a, b⟩ := h1
  obtain ⟨k, c, d⟩ := h2
  rw [wb_uniq a c] at b
  exact wIs_uq _ _ _ _ _ b d)
theorem sShr_uq {Q : Qx} {x : Int32} {r r2 : Int64} {o o2 : Option Int32} (h1 : sShr Q x r o) (h2 : sShr Q x r2 o2) : r = r2 ∧ o = o2 := by
  rcases h1 with ⟨a, a1, ⟨a2, a3⟩ | ⟨a2, a3⟩⟩ | ⟨a, a1, a2⟩ <;> rcases h2 with ⟨b, b1, ⟨b2, b3⟩ | ⟨b2, b3⟩⟩ | ⟨b, b1, b2⟩
  · exact ⟨a3.trans b3.symm, a1.trans b1.symm⟩
  · exact absurd a2 b2
  · exact absurd a b
  · exact absurd b2 a2
  · exact ⟨a3.trans b3.symm, a1.trans b1.symm⟩
  · exact absurd a b
  · exact absurd b a
  · exact absurd b a
  · exact ⟨a2.trans b2.symm, a1.trans b1.symm⟩
/-! every call -/
section
variable {k : Nat} {s : rSg} (h : JI (k + 1) s)
theorem oX_answers (h : JI (k + 1) s) : opX s k 79 162 [] := by
  obtain ⟨A, im, h1, h2, h3, hs, l, h5, h6⟩ := h
  exact join (D := 0) (wIs_uq _) h1 h2 h3 hs h5 h6 (by decide) (by decide) (by decide) (cx_79 h1 h5 h2) (fun t _ ht => mx_162 ht)
theorem oX_length (h : JI (k + 1) s) (x y : Int32) : opX s k 80 163 [.inl x, .inl y] := by
  obtain ⟨A, im, h1, h2, h3, hs, l, h5, h6⟩ := h
  exact join (D := 0) (wAn_uq (fun i n X => wNm_uq (fun v => isT_uq (F := fun tx => nI tx.length)))) h1 h2 h3 hs h5 h6 (by decide) (by decide) (by decide) (cx_80 h1 h5 h2 x y) (fun t _ ht => mx_163 ht x y)
theorem oX_text (h : JI (k + 1) s) (x y z : Int32) : opX s k 83 172 [.inl x, .inl y, .inl z] := by
  obtain ⟨A, im, h1, h2, h3, hs, l, h5, h6⟩ := h
  exact join (D := 0) (sTxt_uq _ _ _ _) h1 h2 h3 hs h5 h6 (by decide) (by decide) (by decide) (cx_83 h1 h5 h2 x y z) (fun t _ ht => mx_172 ht x y z)
theorem oX_when (h : JI (k + 1) s) (x : Int32) : opX s k 84 173 [.inl x] := by
  obtain ⟨A, im, h1, h2, h3, hs, l, h5, h6⟩ := h
  exact join (D := 0) (wAn_uq (fun _ _ _ => wIs_uq _)) h1 h2 h3 hs h5 h6 (by decide) (by decide) (by decide) (cx_84 h1 h5 h2 x) (fun t _ ht => mx_173 ht x)
theorem oX_kept (h : JI (k + 1) s) (x : Int32) : opX s k 85 174 [.inl x] := by
  obtain ⟨A, im, h1, h2, h3, hs, l, h5, h6⟩ := h
  exact join (D := 0) (wAn_uq (fun _ _ _ => wIs_uq _)) h1 h2 h3 hs h5 h6 (by decide) (by decide) (by decide) (cx_85 h1 h5 h2 x) (fun t _ ht => mx_174 ht x)
theorem oX_queue (h : JI (k + 1) s) (x : Int32) : opX s k 86 175 [.inl x] := by
  obtain ⟨A, im, h1, h2, h3, hs, l, h5, h6⟩ := h
  exact join (D := 0) (sQue_uq _ _) h1 h2 h3 hs h5 h6 (by decide) (by decide) (by decide) (cx_86 h1 h5 h2 x) (fun t _ ht => mx_175 ht x)
theorem oX_done (h : JI (k + 1) s) : opX s k 87 176 [] := by
  obtain ⟨A, im, h1, h2, h3, hs, l, h5, h6⟩ := h
  exact join (D := 0) (wIs_uq _) h1 h2 h3 hs h5 h6 (by decide) (by decide) (by decide) (cx_87 h1 h5 h2) (fun t _ ht => mx_176 ht)
theorem oX_different (h : JI (k + 1) s) (x : Int32) : opX s k 88 177 [.inl x] := by
  obtain ⟨A, im, h1, h2, h3, hs, l, h5, h6⟩ := h
  exact join (D := 0) (sDif_uq _ _) h1 h2 h3 hs h5 h6 (by decide) (by decide) (by decide) (cx_88 h1 h5 h2 x) (fun t _ ht => mx_177 ht x)
theorem oX_earliest (h : JI (k + 1) s) (x y : Int32) : opX s k 92 180 [.inl x, .inl y] := by
  obtain ⟨A, im, h1, h2, h3, hs, l, h5, h6⟩ := h
  exact join (D := 0) (sEar_uq _ _ _) h1 h2 h3 hs h5 h6 (by decide) (by decide) (by decide) (cx_92 h1 h5 h2 x y) (fun t _ ht => mx_180 ht x y)
theorem oX_need (h : JI (k + 1) s) (x : Int32) : opX s k 95 182 [.inl x] := by
  obtain ⟨A, im, h1, h2, h3, hs, l, h5, h6⟩ := h
  exact join (D := 5304000) (sNeed_uq _ _) h1 h2 h3 hs h5 h6 (by decide) (by decide) (by decide) (cx_95 h1 h5 (l9_of h6) h2 x) (fun t _ ht => mx_182 ht x)
theorem oX_left (h : JI (k + 1) s) (x y : Int32) : opX s k 96 185 [.inl x, .inl y] := by
  obtain ⟨A, im, h1, h2, h3, hs, l, h5, h6⟩ := h
  exact join (D := 5304000) (sLeft_uq _ _ _) h1 h2 h3 hs h5 h6 (by decide) (by decide) (by decide) (cx_96 h1 h5 (l9_of h6) h2 x y) (fun t _ ht => mx_185 ht x y)
theorem oX_least (h : JI (k + 1) s) (x : Int32) : opX s k 98 189 [.inl x] := by
  obtain ⟨A, im, h1, h2, h3, hs, l, h5, h6⟩ := h
  exact join (D := 5304000) (sLeast_uq _ _) h1 h2 h3 hs h5 h6 (by decide) (by decide) (by decide) (cx_98 h1 h5 (l9_of h6) h2 x) (fun t _ ht => mx_189 ht x)
theorem oX_turned (h : JI (k + 1) s) (x : Int32) : opX s k 99 190 [.inl x] := by
  obtain ⟨A, im, h1, h2, h3, hs, l, h5, h6⟩ := h
  exact join (D := 5304000) (sTurn_uq _ _) h1 h2 h3 hs h5 h6 (by decide) (by decide) (by decide) (cx_99 h1 h5 (l9_of h6) h2 x) (fun t _ ht => mx_190 ht x)
theorem oX_which (h : JI (k + 1) s) (x : Int32) : opX s k 102 194 [.inl x] := by
  obtain ⟨A, im, h1, h2, h3, hs, l, h5, h6⟩ := h
  obtain ⟨ns, n1, n2⟩ := hs.ns
  exact join (D := 5304000) (sWhich_uq _ ns _) h1 h2 h3 hs h5 h6 (by decide) (by decide) (by decide) (cx_102 h1 h5 (l9_of h6) h2 n1 x) (fun t e ht => mx_194 ht ⟨by rw [e 725 (by omega)]; exact n2.1, n2.2.1, fun j y hj => by rw [e 759 (by omega)]; exact n2.2.2 j y hj⟩ x)
theorem oX_lots (h : JI (k + 1) s) (x y z : Int32) : opX s k 107 200 [.inl x, .inl y, .inl z] := by
  obtain ⟨A, im, h1, h2, h3, hs, l, h5, h6⟩ := h
  exact join (D := 5304000) (sLots_uq _ _ _) h1 h2 h3 hs h5 h6 (by decide) (by decide) (by decide) (cx_107 h1 h5 (l9_of h6) h2 x y z) (fun t _ ht => mx_200 ht x y z)
theorem oX_count (h : JI (k + 1) s) (x : Int32) : opX s k 112 206 [.inl x] := by
  obtain ⟨A, im, h1, h2, h3, hs, l, h5, h6⟩ := h
  obtain ⟨⟨n, n1, n2, n3, n4⟩, ⟨m, m1, m2, m3, m4⟩, hr⟩ := id hs
  refine join (W := sCnt A (s 691) n m x) (D := 0) (d1 := 2) (d2 := 3) (sCnt_uq _ _ _ _ _) h1 h2 h3 hs h5 h6 (by decide) (by decide) (by decide) (cx_112 h1 h5 h2 n2 m2 x) (fun t e ht => ?_)
  have := mx_206 ht (n := n) (m := m) (by rw [e 725 (by omega)]; exact n3) (by rw [e 725 (by omega)]; exact m3) x
  rw [e 726 (by omega), ← hr] at this
  exact this
theorem oX_meet (h : JI (k + 1) s) (x y : Int32) : opXU s k 93 181 [.inl x, .inl y] := by
  obtain ⟨A, im, h1, h2, h3, hs, l, h5, h6⟩ := h
  exact joinU (D := 5304000) sMt_o h1 h2 h3 hs h5 h6 (by decide) (by decide) (by decide) (cx_93 h1 h5 h2 x y) (fun t _ ht => mx_181 ht x y)
def opXL (s : rSg) (k yx ym : Nat) (as : List rv) : Prop := EvS rSkel 18 yx (.inr (.inr (some 0)) :: as) s (fun v t => ∃ r : Int64, v = some (.inr (.inl r)) ∧ EvS rSkel 18 ym (.inr (.inr (some 725)) :: as) t (fun v2 u => v2 = some (.inr (.inl r)) ∧ JI k u))
theorem oX_share (h : JI (k + 1) s) (x : Int32) : opXL s k 100 191 [.inl x] := by
  obtain ⟨A, im, h1, h2, h3, h4, l, h5, h6⟩ := h
  have hst : A.Q.2.2.1 ≤ 300 := by
    obtain ⟨_, _, _, _, _, _, _, _, _, q, _⟩ := h3
    exact q.1
  refine ((cx_100 h1 h5 h2 hst x).up (by decide)).imp ?_
  rintro _ t ⟨r, o, w, rfl, k1, k2, ⟨l2, l3, l4⟩, k4⟩
  refine ⟨r, rfl, ((mx_191 (h3.cong (fun q hq => k1 q (by omega))) x).up (by decide)).imp ?_⟩
  rintro v2 u ⟨r2, o2, w2, rfl, g1, g2, g3, g4, g5⟩
  obtain ⟨rfl, rfl⟩ := sShr_uq w w2
  refine ⟨rfl, A, im, k4.cong g2, (k1.C h2).cong g2, g1, h4.both k1 k2 g2 ⟨g3, g4⟩ g5, l2, cSn_fr l4 (by rw [g2 1 (by decide)]) (g2 5 (by decide)), ?_⟩
  rw [Nat.add_mul, Nat.one_mul] at h6
  omega
end
