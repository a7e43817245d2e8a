/-! THE REFERENCE: states that wait, the state at hand -/
/-- to do (its place, its goals), kept (its place, the pairs), variables -/
abbrev stP : Type := Nat × List Nat × Nat × List (Nat × Nat) × Nat
def pOK (s : rSg) (T G L : Nat) (p : stP) : Prop := dol s G L p.1 p.2.1 ∧ kel s T L p.2.2.1 p.2.2.2.1 ∧ nhs s p.2.1 + p.2.2.2.1.length ≤ 12
theorem pOK.ext {s t : rSg} {T G L T2 G2 L2 : Nat} {p : stP} (h : pOK s T G L p) (hh : hp s T G L) (e : hx T G L s t) (hT : T ≤ T2) (hG : G ≤ G2) (hL : L ≤ L2) : pOK t T2 G2 L2 p :=
  ⟨dol_ext hG hL (fun j hj => ⟨(e.2.2 j hj).1, (e.2.2 j hj).2.2⟩) h.1, kel_ext hT hL e.2.2 h.2.1, by
    rw [nhs_ext hh.2.2.2 (by have := hh.1; omega) e.2.1 (dol_mem h.1)]
    exact h.2.2⟩
def wX (s : rSg) (T G L sl : Nat) (p : stP) : Prop := bRow s T (fun j => s 739 (64 * sl + j)) ∧ s 740 sl = nI p.1 ∧ s 741 sl = nI p.2.2.1 ∧ s 742 sl = nI p.2.2.2.2 ∧ p.2.2.2.2 ≤ 60 ∧ pOK s T G L p
def cX (s : rSg) (T G L : Nat) (p : stP) : Prop := cB s T ∧ s 725 18 = nI p.1 ∧ s 725 19 = nI p.2.2.1 ∧ s 725 20 = nI p.2.2.2.2 ∧ p.2.2.2.2 ≤ 63 ∧ pOK s T G L p
theorem wX.ext {s t : rSg} {T G L T2 G2 L2 sl : Nat} {p : stP} (h : wX s T G L sl p) (hh : hp s T G L) (ht : hp t T2 G2 L2) (e : hx T G L s t) (hT : T ≤ T2) (hG : G ≤ G2) (hL : L ≤ L2) (e0 : t 740 sl = s 740 sl ∧ t 741 sl = s 741 sl ∧ t 742 sl = s 742 sl) (e9 : ∀ j, j < 64 → t 739 (64 * sl + j) = s 739 (64 * sl + j)) : wX t T2 G2 L2 sl p :=
  ⟨bRow_ext h.1 hT (by have := ht.1; omega) ht.2.2.1 e.1 e9, by rw [e0.1]; exact h.2.1, by rw [e0.2.1]; exact h.2.2.1, by rw [e0.2.2]; exact h.2.2.2.1, h.2.2.2.2.1, h.2.2.2.2.2.ext hh e hT hG hL⟩
theorem cX.ext {s t : rSg} {T G L T2 G2 L2 : Nat} {p : stP} (h : cX s T G L p) (hh : hp s T G L) (ht : hp t T2 G2 L2) (e : hx T G L s t) (hT : T ≤ T2) (hG : G ≤ G2) (hL : L ≤ L2) (e6 : t 736 = s 736) (e0 : t 725 16 = s 725 16 ∧ t 725 18 = s 725 18 ∧ t 725 19 = s 725 19 ∧ t 725 20 = s 725 20) : cX t T2 G2 L2 p := by
  obtain ⟨⟨h1, ev, tr, h2, h3⟩, h4, h5, h6, h7, h8⟩ := h
  refine ⟨⟨mSt_grow h1 hT (by have := ht.1; omega) ht.2.2.1 e.1 (fun j _ => Or.inl (by rw [e6])), evR_same e6 ev, tr, by rw [e0.1]; exact h2, ?_⟩, by rw [e0.2.1]; exact h4, by rw [e0.2.2.1]; exact h5, by rw [e0.2.2.2]; exact h6, h7, h8.ext hh e hT hG hL⟩
  rw [opens_congr (fun j _ => by rw [e6])]
  exact h3
/-- a search: where its first slot lies, how many wait, how many answers -/
def sea (s : rSg) (z T G L h w a : Nat) : Prop := (s 746 z = nI h ∧ h < 42) ∧ (s 747 z = nI w ∧ w ≤ 40) ∧ (s 748 z = nI a ∧ a ≤ 30) ∧ (∀ i, i < w → ∃ p, wX s T G L (42 * z + (h + i) % 42) p) ∧ (∀ i, i < a → bRow s T (fun j => s 743 (64 * (30 * z + i) + j)))
/-- a search's own cells are the same -/
def sz (z : Nat) (s t : rSg) : Prop := (∀ j, j < 42 → t 740 (42 * z + j) = s 740 (42 * z + j) ∧ t 741 (42 * z + j) = s 741 (42 * z + j) ∧ t 742 (42 * z + j) = s 742 (42 * z + j)) ∧ (∀ j, j < 2688 → t 739 (2688 * z + j) = s 739 (2688 * z + j)) ∧ (∀ j, j < 1920 → t 743 (1920 * z + j) = s 743 (1920 * z + j)) ∧ t 746 z = s 746 z ∧ t 747 z = s 747 z ∧ t 748 z = s 748 z ∧ t 749 z = s 749 z
theorem sz.rfl' {z : Nat} {s : rSg} : sz z s s := ⟨fun _ _ => ⟨rfl, rfl, rfl⟩, fun _ _ => rfl, fun _ _ => rfl, rfl, rfl, rfl, rfl⟩
theorem sz.trans {z : Nat} {s t u : rSg} (h1 : sz z s t) (h2 : sz z t u) : sz z s u :=
  ⟨fun j hj => ⟨(h2.1 j hj).1.trans (h1.1 j hj).1, (h2.1 j hj).2.1.trans (h1.1 j hj).2.1, (h2.1 j hj).2.2.trans (h1.1 j hj).2.2⟩, fun j hj => (h2.2.1 j hj).trans (h1.2.1 j hj), fun j hj => (h2.2.2.1 j hj).trans (h1.2.2.1 j hj), h2.2.2.2.1.trans h1.2.2.2.1, h2.2.2.2.2.1.trans h1.2.2.2.2.1, h2.2.2.2.2.2.1.trans h1.2.2.2.2.2.1, h2.2.2.2.2.2.2.trans h1.2.2.2.2.2.2⟩
theorem sz.of {z : Nat} {s t : rSg} (h : ∀ k, 739 ≤ k → k ≤ 749 → t k = s k) : sz z s t :=
  ⟨fun j _ => by rw [h 740 (by decide) (by decide), h 741 (by decide) (by decide), h 742 (by decide) (by decide)]; exact ⟨rfl, rfl, rfl⟩, fun j _ => by rw [h 739 (by decide) (by decide)], fun j _ => by rw [h 743 (by decide) (by decide)], by rw [h 746 (by decide) (by decide)], by rw [h 747 (by decide) (by decide)], by rw [h 748 (by decide) (by decide)], by rw [h 749 (by decide) (by decide)]⟩
theorem mK.sz {ks js : List Nat} {s t : rSg} (h : mK ks js s t) (hk : ∀ k, 739 ≤ k → k ≤ 749 → k ∉ ks) {z : Nat} : sz z s t := sz.of (fun k h1 h2 => h.1 k (by omega) (hk k h1 h2))
theorem wX.sz {s t : rSg} {T G L T2 G2 L2 z i : Nat} {p : stP} (h : wX s T G L (42 * z + i) p) (hi : i < 42) (hh : hp s T G L) (ht : hp t T2 G2 L2) (e : hx T G L s t) (hT : T ≤ T2) (hG : G ≤ G2) (hL : L ≤ L2) (g : sz z s t) : wX t T2 G2 L2 (42 * z + i) p :=
  h.ext hh ht e hT hG hL (g.1 i hi) (fun j hj => by
    have := g.2.1 (64 * i + j) (by omega)
    rw [show 64 * (42 * z + i) + j = 2688 * z + (64 * i + j) by omega]
    exact this)
theorem sea.ext {s t : rSg} {z T G L T2 G2 L2 h w a : Nat} (hs : sea s z T G L h w a) (hh : hp s T G L) (ht : hp t T2 G2 L2) (e : hx T G L s t) (hT : T ≤ T2) (hG : G ≤ G2) (hL : L ≤ L2) (g : sz z s t) : sea t z T2 G2 L2 h w a := by
  refine ⟨⟨by rw [g.2.2.2.1]; exact hs.1.1, hs.1.2⟩, ⟨by rw [g.2.2.2.2.1]; exact hs.2.1.1, hs.2.1.2⟩, ⟨by rw [g.2.2.2.2.2.1]; exact hs.2.2.1.1, hs.2.2.1.2⟩, fun i hi => ?_, fun i hi => ?_⟩
  · obtain ⟨p, hp1⟩ := hs.2.2.2.1 i hi
    exact ⟨p, hp1.sz (Nat.mod_lt _ (by decide)) hh ht e hT hG hL g⟩
  · refine bRow_ext (hs.2.2.2.2 i hi) hT (by have := ht.1; omega) ht.2.2.1 e.1 (fun j hj => ?_)
    have := g.2.2.1 (64 * i + j) (by have := hs.2.2.1.2; omega)
    rw [show 64 * (30 * z + i) + j = 1920 * z + (64 * i + j) by omega]
    exact this
def kZ : List Nat := [727, 728, 729, 730, 731, 732, 733, 734, 735, 736, 737, 738, 739, 740, 741, 742, 743, 744, 745, 746, 747, 748, 749, 750, 751]
def jZ : List Nat := [10, 11, 12, 16, 17, 18, 19, 20]
/-- the frame of a search's step: the other search stays -/
def fz (z : Nat) (s t : rSg) : Prop := mK kZ jZ s t ∧ (∀ y, y < 2 → y ≠ z → sz y s t) ∧ t 749 z = s 749 z
theorem fz.rfl' {z : Nat} {s : rSg} : fz z s s := ⟨mK.rfl', fun _ _ _ => sz.rfl', rfl⟩
theorem fz.trans {z : Nat} {s t u : rSg} (h1 : fz z s t) (h2 : fz z t u) : fz z s u := ⟨h1.1.trans h2.1, fun y a b => (h1.2.1 y a b).trans (h2.2.1 y a b), h2.2.2.trans h1.2.2⟩
theorem fz.of {z : Nat} {s t : rSg} {ks js : List Nat} (h : mK ks js s t) (hk : ∀ k, k ∈ ks → k ∈ kZ) (hj : ∀ k, k ∈ js → k ∈ jZ) (h9 : ∀ k, 739 ≤ k → k ≤ 749 → k ∉ ks) : fz z s t := ⟨h.mono hk hj, fun _ _ _ => h.sz h9, by rw [h.1 749 (by decide) (h9 749 (by decide) (by decide))]⟩
/-- in a step: the search, and the state that was taken from it, which lies in its slot still -/
def SS (s : rSg) (z T G L h w a : Nat) (p : stP) : Prop := hp s T G L ∧ (s 725 21 = nI z ∧ z < 2) ∧ sea s z T G L h w a ∧ wX s T G L (42 * z + (h + 41) % 42) p
theorem SS.ext {s t : rSg} {z T G L T2 G2 L2 h w a : Nat} {p : stP} (hs : SS s z T G L h w a p) (ht : hp t T2 G2 L2) (e : hx T G L s t) (hT : T ≤ T2) (hG : G ≤ G2) (hL : L ≤ L2) (g : sz z s t) (e21 : t 725 21 = s 725 21) : SS t z T2 G2 L2 h w a p :=
  ⟨ht, ⟨by rw [e21]; exact hs.2.1.1, hs.2.1.2⟩, hs.2.2.1.ext hs.1 ht e hT hG hL g, hs.2.2.2.sz (Nat.mod_lt _ (by decide)) hs.1 ht e hT hG hL g⟩
/-- how a part of a step ends -/
def go2 (z h a : Nat) (p : stP) (s : rSg) (T G L Tm Gm Lm : Nat) (t : rSg) : Prop := ∃ T2 G2 L2 w2, SS t z T2 G2 L2 h w2 a p ∧ (T ≤ T2 ∧ T2 ≤ Tm) ∧ (G ≤ G2 ∧ G2 ≤ Gm) ∧ (L ≤ L2 ∧ L2 ≤ Lm) ∧ hx T G L s t ∧ fz z s t
theorem mod42 {h w : Nat} (hw : w ≤ 40) : (h + w) % 42 ≠ (h + 41) % 42 := by omega
theorem wait_row {s : rSg} {z f w sl j : Nat} (hj : j < 64) : mWaitS s z f w sl 739 (64 * sl + j) = s 736 j := by
  unfold mWaitS
  rw [up2_nk _ _ _ (by decide), up2_nk _ _ _ (by decide), up2_nk _ _ _ (by decide), up2_nk _ _ _ (by decide), upC_same]
  unfold va_cpy
  rw [if_pos (by omega)]
  congr 1
  omega
theorem wait_other {s : rSg} {z f w sl k : Nat} (h : k < 64 * sl ∨ 64 * sl + 64 ≤ k) : mWaitS s z f w sl 739 k = s 739 k := by
  unfold mWaitS
  rw [up2_nk _ _ _ (by decide), up2_nk _ _ _ (by decide), up2_nk _ _ _ (by decide), up2_nk _ _ _ (by decide), upC_same]
  unfold va_cpy
  rw [if_neg (by omega)]
theorem wait_K (s : rSg) (z f w sl : Nat) : mK [739, 740, 741, 742, 747] [] s (mWaitS s z f w sl) := by
  unfold mWaitS
  refine ((((mK.up (k := 740) (j := sl) ?_ (by simp) (by decide)).up (k := 741) (j := sl) (by simp) (by decide)).up (k := 742) (j := sl) (by simp) (by decide)).up (k := 747) (j := z) (by simp) (by decide))
  exact ⟨fun q g1 g2 => upC_ne _ _ (fun e => g2 (by simp [e])), fun j _ => by rw [upC_ne _ _ (by decide)]⟩
theorem wait_742 (s : rSg) (z f w sl : Nat) : mWaitS s z f w sl 740 = upd (s 740) sl (s 725 18) ∧ mWaitS s z f w sl 741 = upd (s 741) sl (s 725 19) ∧ mWaitS s z f w sl 742 = upd (s 742) sl (nI f) ∧ mWaitS s z f w sl 747 = upd (s 747) z (nI (w + 1)) := by
  unfold mWaitS
  refine ⟨?_, ?_, ?_, ?_⟩
  · funext j; simp [up2, upC]
  · funext j; simp [up2, upC]
  · funext j; simp [up2, upC]
  · funext j; simp [up2, upC]
/-- waits: the state goes behind all others, or is lost -/
theorem ms_124 {s : rSg} {z T G L h w a : Nat} {p q : stP} (hs : SS s z T G L h w a p) (hc : cX s T G L q) : EvS rSkel 2 124 [.inr (.inr (some 725))] s (fun v t => v = none ∧ go2 z h a p s T G L T G L t) := by
  obtain ⟨hh, ⟨h21, hz⟩, ⟨⟨a1, a2⟩, ⟨a3, a4⟩, ⟨a5, a6⟩, a7, a8⟩, hw0⟩ := id hs
  by_cases hl : 60 < q.2.2.2.2 ∨ 40 ≤ w
  · refine ((ev_m_waits_lost 0 s h21 hz a1 hc.2.2.2.1 (by have := hc.2.2.2.2.1; omega) a3 (by omega) hl).up (by decide)).imp ?_
    rintro _ _ ⟨rfl, rfl⟩
    have k : mK [750] [] s (up2 s 750 z (s 750 z + 1)) := mK.rfl'.up (by simp) (by decide)
    have e : hx T G L s (up2 s 750 z (s 750 z + 1)) := k.hx (fun k a b => by simp; omega)
    exact ⟨rfl, T, G, L, w, hs.ext (hh.keep e ⟨k.2 10 (by simp), k.2 11 (by simp), k.2 12 (by simp)⟩) e (Nat.le_refl _) (Nat.le_refl _) (Nat.le_refl _) (k.sz (fun k a b => by simp; omega)) (k.2 21 (by simp)), ⟨Nat.le_refl _, Nat.le_refl _⟩, ⟨Nat.le_refl _, Nat.le_refl _⟩, ⟨Nat.le_refl _, Nat.le_refl _⟩, e, fz.of k (by simp [kZ]) (by simp) (fun k a b => by simp; omega)⟩
  · have w9 : w < 40 := by omega
    refine (ev_m_waits_in 0 s h21 hz a1 hc.2.2.2.1 (by have := hc.2.2.2.2.1; omega) a3 (by omega) a2 (by omega) w9).imp ?_
    rintro _ _ ⟨rfl, rfl⟩
    generalize esl : 42 * z + (h + w) % 42 = sl
    have k := wait_K s z q.2.2.2.2 w sl
    obtain ⟨r0, r1, r2, r7⟩ := wait_742 s z q.2.2.2.2 w sl
    have rr : ∀ j, j < 64 → mWaitS s z q.2.2.2.2 w sl 739 (64 * sl + j) = s 736 j := fun j hj => wait_row hj
    have ro : ∀ k, k < 64 * sl ∨ 64 * sl + 64 ≤ k → mWaitS s z q.2.2.2.2 w sl 739 k = s 739 k := fun k hk => wait_other hk
    generalize mWaitS s z q.2.2.2.2 w sl = t at k r0 r1 r2 r7 rr ro
    have e : hx T G L s t := k.hx (fun k a b => by simp; omega)
    have ht : hp t T G L := hh.keep e ⟨k.2 10 (by simp), k.2 11 (by simp), k.2 12 (by simp)⟩
    have keep : ∀ i p, i < 42 → 42 * z + i ≠ sl → wX s T G L (42 * z + i) p → wX t T G L (42 * z + i) p := fun i p hi hne hp1 => by
      refine hp1.ext hh ht e (Nat.le_refl _) (Nat.le_refl _) (Nat.le_refl _) ⟨?_, ?_, ?_⟩ (fun j hj => ro _ ?_)
      · rw [r0]; exact if_neg hne
      · rw [r1]; exact if_neg hne
      · rw [r2]; exact if_neg hne
      · rcases Nat.lt_or_gt_of_ne hne with q | q
        · exact Or.inl (by omega)
        · exact Or.inr (by omega)
    have new : wX t T G L sl q := by
      refine ⟨bRow_ext (bRow_of hc.1.1 hh.2.2.1 hc.1.2.1) (Nat.le_refl _) (by have := hh.1; omega) ht.2.2.1 e.1 rr, ?_, ?_, ?_, by omega, hc.2.2.2.2.2.ext hh e (Nat.le_refl _) (Nat.le_refl _) (Nat.le_refl _)⟩
      · rw [r0, show upd (s 740) sl (s 725 18) sl = s 725 18 from if_pos rfl]; exact hc.2.1
      · rw [r1, show upd (s 741) sl (s 725 19) sl = s 725 19 from if_pos rfl]; exact hc.2.2.1
      · rw [r2]; exact if_pos rfl
    refine ⟨rfl, T, G, L, w + 1, ⟨ht, ⟨by rw [k.2 21 (by simp)]; exact h21, hz⟩, ⟨⟨by rw [k.1 746 (by decide) (by simp)]; exact a1, a2⟩, ⟨by rw [r7]; exact if_pos rfl, by omega⟩, ⟨by rw [k.1 748 (by decide) (by simp)]; exact a5, a6⟩, fun i hi => ?_, fun i hi => ?_⟩, ?_⟩, ⟨Nat.le_refl _, Nat.le_refl _⟩, ⟨Nat.le_refl _, Nat.le_refl _⟩, ⟨Nat.le_refl _, Nat.le_refl _⟩, e, ⟨k.mono (by simp [kZ]) (by simp), fun y hy hne => ?_, by rw [k.1 749 (by decide) (by simp)]⟩⟩
    · by_cases hiw : i = w
      · subst hiw
        rw [esl]
        exact ⟨q, new⟩
      · obtain ⟨p1, h1⟩ := a7 i (by omega)
        exact ⟨p1, keep _ p1 (Nat.mod_lt _ (by decide)) (by omega) h1⟩
    · have h1 := a8 i hi
      refine bRow_ext h1 (Nat.le_refl _) (by have := hh.1; omega) ht.2.2.1 e.1 (fun j _ => ?_)
      rw [k.1 743 (by decide) (by simp)]
    · exact keep _ p (Nat.mod_lt _ (by decide)) (by omega) hw0
    · have n0 : ∀ j, j < 42 → 42 * y + j ≠ sl := fun j hj => by omega
      refine ⟨fun j hj => ⟨by rw [r0]; exact if_neg (n0 j hj), by rw [r1]; exact if_neg (n0 j hj), by rw [r2]; exact if_neg (n0 j hj)⟩, fun j hj => ro _ ?_, fun j _ => by rw [k.1 743 (by decide) (by simp)], by rw [k.1 746 (by decide) (by simp)], by rw [r7]; exact if_neg hne, by rw [k.1 748 (by decide) (by simp)], by rw [k.1 749 (by decide) (by simp)]⟩
      omega
