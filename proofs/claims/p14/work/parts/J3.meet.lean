/-! MEET: both keep what they hold (their answers are not compared here) -/
def kMe (D : Nat) (s t : rSg) : Prop := (∀ q, q = 0 ∨ (5 < q ∧ q ≠ 692) → t q = s q) ∧ LK D s t
theorem kMe.rfl' {s : rSg} : kMe 0 s s := ⟨fun _ _ => rfl, LK.rfl'⟩
theorem kMe.trans {D E : Nat} {s t u : rSg} (h1 : kMe D s t) (h2 : kMe E t u) : kMe (D + E) s u := ⟨fun q hq => (h2.1 q hq).trans (h1.1 q hq), h1.2.trans h2.2⟩
theorem kMe.mono {D E : Nat} {s t : rSg} (h : kMe D s t) (hd : D ≤ E) : kMe E s t := ⟨h.1, h.2.mono hd⟩
theorem kMe.up {D : Nat} {s t : rSg} (h : kMe D s t) (j : Nat) (x : Int32) : kMe D s (up2 t 692 j x) := ⟨fun q hq => by rw [up2_nk _ _ _ (by omega)]; exact h.1 q hq, fun l hl => by
  obtain ⟨m, m1, m2⟩ := h.2 l hl
  exact ⟨m, m1, cSn_fr m2 (by rw [up2_nk _ _ _ (by decide)]) (up2_nk _ _ _ (by decide))⟩⟩
theorem kMe_94c {D k k2 : Nat} (hk : isSt k) (hk2 : isSt k2) {s0 : rSg} {P : Option rv → rSg → Prop} (hP : ∀ t, kMe D s0 t → P none t) : ∀ (m y : Nat) (s : rSg), y + m = 64 → kMe D s0 s → g_94_44 k k2 (nI y) s P := by
  intro m
  induction m with
  | zero =>
    intro y s hy hs
    obtain rfl : y = 64 := by omega
    exact wn_94_44 s k hk k2 hk2 _ ⟨fun _ => hP s hs, fun q => absurd (by decide) q⟩
  | succ m ih =>
    intro y s hy hs
    refine wn_94_44 s k hk k2 hk2 _ ⟨fun _ => hP s hs, fun _ => ⟨fun _ => hP s hs, fun _ => ⟨rIn_nI (by omega) (by decide), (s_78 s _).imp ?_⟩⟩⟩
    rintro _ s ⟨n1, rfl, rfl⟩
    rw [show nI y + 64 = nI (y + 64) from nI_add y 64, nI_1]
    exact ⟨_, rfl, rIn_nI (by omega) (by decide), ih (y + 1) _ (by omega) (hs.up _ _)⟩
theorem kMe_94b {D k k2 : Nat} (hk : isSt k) (hk2 : isSt k2) {s0 : rSg} {P : Option rv → rSg → Prop} (hP : ∀ t, kMe D s0 t → P none t) : ∀ (m y : Nat) (s : rSg), y + m = 64 → kMe D s0 s → g_94_10 k k2 (nI y) s P := by
  intro m
  induction m with
  | zero =>
    intro y s hy hs
    obtain rfl : y = 64 := by omega
    exact wn_94_10 s k hk k2 hk2 _ ⟨fun _ => kMe_94c hk hk2 hP 64 0 s rfl hs, fun q => absurd (by decide) q⟩
  | succ m ih =>
    intro y s hy hs
    refine wn_94_10 s k hk k2 hk2 _ ⟨fun _ => kMe_94c hk hk2 hP 64 0 s rfl hs, fun _ => ⟨fun _ => kMe_94c hk hk2 hP 64 0 s rfl hs, fun _ => ⟨rIn_nI (by omega) (by decide), rIn_nI (by omega) (by decide), ?_⟩⟩⟩
    rw [nI_1]
    exact ih (y + 1) _ (by omega) (hs.up _ _)
theorem kMe_94 {D k k2 : Nat} (hk : isSt k) (hk2 : isSt k2) {s0 s : rSg} (h : kMe D s0 s) : EvS rSkel 2 94 [.inr (.inr (some 0)), .inr (.inr (some k)), .inr (.inr (some k2))] s (fun v t => v = none ∧ kMe D s0 t) := by
  refine wn_94 s k hk k2 hk2 ((c_fill (Sk := rSkel) (kb := 692) (nb := 128) arr692 (by decide) s (-1)).imp ?_)
  rintro _ t ⟨rfl, t0, _⟩
  exact ⟨rfl, kMe_94b hk hk2 (fun t ht => ⟨rfl, ht⟩) 64 0 t rfl ((h.trans ⟨fun q hq => t0 q (by omega), LK.of (by rw [t0 1 (by decide)]) (t0 5 (by decide))⟩).mono (by omega))⟩
theorem kMe_93b {s0 : rSg} {P : Option rv → rSg → Prop} (hP : ∀ n t, kMe (6 * 129) s0 t → P (some (.inl n)) t) : ∀ (m y : Nat) (s : rSg), y + m = 6 → kMe (y * 129) s0 s → g_93_44 (nI y) s P := by
  intro m
  induction m with
  | zero =>
    intro y s hy hs
    obtain rfl : y = 6 := by omega
    exact w_93_44 s _ ⟨fun _ => hP _ s hs, fun q => absurd (by decide) q⟩
  | succ m ih =>
    intro y s hy hs
    refine w_93_44 s _ ⟨fun _ => hP _ s (hs.mono (by omega)), fun _ => (s_65 scr7 arr692 (by decide) s _ _).imp ?_⟩
    rintro _ t ⟨n1, rfl, _, tb, tl⟩
    have gt : kMe ((y + 1) * 129) s0 t := (hs.trans ⟨fun q hq => tb q (by unfold unB; omega), tl⟩).mono (by omega)
    rw [nI_1]
    exact ⟨_, rfl, fun _ => ih (y + 1) t (by omega) gt, fun _ => hP _ t (gt.mono (by omega))⟩
/-- what meet refuses -/
def sMt (Q : Qx) (x y r : Int32) (o : Option Int32) : Prop := (((∃ i, i < Q.2.1.length ∧ x = nI i) ∧ ∃ i, i < Q.2.1.length ∧ y = nI i) ∧ o = none) ∨ (¬ ((∃ i, i < Q.2.1.length ∧ x = nI i) ∧ ∃ i, i < Q.2.1.length ∧ y = nI i) ∧ wNo (-1) r o)
theorem sMt_o {Q : Qx} {x y : Int32} : ∀ r o r2 o2, sMt Q x y r o → sMt Q x y r2 o2 → o = o2 := by
  rintro r o r2 o2 (⟨a, b⟩ | ⟨a, b⟩) (⟨c, d⟩ | ⟨c, d⟩)
  · rw [b, d]
  · exact absurd a c
  · exact absurd c a
  · rw [b.2, d.2]
theorem cx_93 {s : rSg} {A : Ab} {im : Option Ab} (h : clI s) {l : Nat} (hl : cSn s l) (c : CJ s A im) (x y : Int32) : EvS rSkel 5 93 [.inr (.inr (some 0)), .inl x, .inl y] s (cP (sMt A.Q x y) l 5304000 s) := by
  have f := c.1.f
  have l30 := f.2.2.1.2
  have k0 : kc0 l 5304000 s s := ⟨kc.rfl', rfl, ⟨l, by omega, hl⟩, h⟩
  refine w_93 s x y (cx_81 f.2.2.1.1 f.2.2.1.2 x (fun i hi e => ⟨_, rfl, fun q => absurd q (by decide), fun _ => cx_81 f.2.2.1.1 f.2.2.1.2 y (fun j hj e2 => ⟨_, rfl, fun _ => ?_, fun q => absurd (by decide) q⟩) (fun hn => ⟨_, rfl, fun q => absurd rfl q, fun _ => cx_no k0 (by decide) (Or.inr ⟨fun z => z.2.elim (fun j q => hn j q.1 q.2), rfl, rfl⟩)⟩)⟩) (fun hn => ⟨_, rfl, fun _ => cx_no k0 (by decide) (Or.inr ⟨fun z => z.1.elim (fun j q => hn j q.1 q.2), rfl, rfl⟩), fun q => absurd rfl q⟩))
  have sp : ∀ r, sMt A.Q x y r none := fun r => Or.inl ⟨⟨⟨i, hi, e⟩, ⟨j, hj, e2⟩⟩, rfl⟩
  rw [e, e2] at sp ⊢
  refine cx_40 seaA6 s (by omega) (fun q1 => ⟨_, rfl, q1, cx_40 seaA6 s (by omega) (fun q2 => ⟨_, rfl, q2, (kMe_94 q1 q2 (kMe.rfl' (s := s))).imp ?_⟩)⟩)
  rintro _ t ⟨rfl, ht⟩
  refine ⟨rfl, kMe_93b (s0 := s) (fun n u hu => ?_) 6 0 t rfl (ht.mono (by omega))⟩
  obtain ⟨m, m1, m2⟩ := hu.2 l hl
  have k : kc0 l 5304000 s u := ⟨fun q hq => hu.1 q (by omega), hu.1 691 (by omega), ⟨m, by omega, m2⟩, h.1.ext (hu.1 6 (by omega)), h.2.1.ext (hu.1 230 (by omega)), h.2.2.ext (hu.1 454 (by omega))⟩
  exact k.is (sp n)
theorem mx_181 {s : rSg} {A : Ab} {im : Option Ab} (h : MJ s A im) (x y : Int32) : EvS rSkel 7 181 [.inr (.inr (some 725)), .inl x, .inl y] s (mP (sMt A.Q x y) A im s) := by
  obtain ⟨T, G, L, hd, g, hb⟩ := id h
  have f := h.f
  have l30 := f.2.1.2
  have b1 := hb.1.1.1
  have r5 := hb.2.2.2.2.1.1
  have r2 := hb.2.1
  have rs := hb.1.rs
  refine w_181 s x y (mx_164 f.2.1.1 f.2.1.2 x (fun i hi e => ⟨_, rfl, fun q => absurd q (by decide), fun _ => mx_164 f.2.1.1 f.2.1.2 y (fun j hj e2 => ⟨_, rfl, fun _ => ?_, fun q => absurd (by decide) q⟩) (fun hn => ⟨_, rfl, fun q => absurd rfl q, fun _ => mx_no (mk0.rfl' h) (by decide) (Or.inr ⟨fun z => z.2.elim (fun j q => hn j q.1 q.2), rfl, rfl⟩)⟩)⟩) (fun hn => ⟨_, rfl, fun _ => mx_no (mk0.rfl' h) (by decide) (Or.inr ⟨fun z => z.1.elim (fun j q => hn j q.1 q.2), rfl, rfl⟩), fun q => absurd rfl q⟩))
  have sp : ∀ r, sMt A.Q x y r none := fun r => Or.inl ⟨⟨⟨i, hi, e⟩, ⟨j, hj, e2⟩⟩, rfl⟩
  rw [e, e2] at sp ⊢
  refine (ms_167 rs.2.1.1 rs.2.1.2 (by omega)).imp ?_
  rintro _ t ⟨rfl, t6, t16, k⟩
  refine ⟨rfl, ms_181b (s0 := t) (A := j) (by omega) (fun u u1 u2 u3 => ?_) 64 0 t rfl (fun _ _ => rfl) (fun _ _ => rfl) (fun q hq => absurd hq (by omega))⟩
  have ku : mK [736] [16] s u := k.trans ⟨fun q g1 g2 => u1 q (fun e => g2 (by simp [e])), fun q _ => by rw [u1 725 (by decide)]⟩
  have hm : mSt u T := by
    refine mSt_two rs.1.2.2.1 (rs.2.2.2.2.2.2 i hi) (rs.2.2.2.2.2.2 j hj) (fun q _ => by rw [ku.1 727 (by decide) (by simp), ku.1 728 (by decide) (by simp)]; exact ⟨rfl, rfl⟩) (fun q hq => ?_) (fun q hq => ?_)
    · rw [u2 q hq, t6 q (by omega)]; exact if_pos hq
    · rw [u3 q hq, k.1 743 (by decide) (by simp), show 30 * 0 + j = j by omega]
  refine ms_181c (s0 := u) (by omega) (fun r v kv => ?_) 6 0 1 u 0 rfl hm (by rw [u1 725 (by decide)]; exact t16) (by omega) mfb.rfl'
  have kk : mK [736, 737, 738] [16, 17] s v := (ku.mono (by simp) (by simp)).trans (kv.K.mono (by simp) (by simp))
  exact (mk0.K h kk (by simp [kJ]) (by simp [jI]) (by simp) (by simp)).is (sp _)
