/-! COUNT and SHARE -/
theorem gSg_not {c : Int32} (h : gSg c) : ¬ tSg c := by
  intro ht
  rcases h with h | h | h | h | h | h | h | h <;> (rw [h] at ht; exact absurd ht (by unfold tSg; decide))
/-- counts: the goals and the terms that were read -/
theorem mx_207b {s0 : rSg} {n nG nT : Nat} (hn : n ≤ 96) (h40 : s0 725 40 = nI n) {P : Option rv → rSg → Prop} (hP : ∀ t, mK [] [45, 46] s0 t → t 725 45 = nI nG → t 725 46 = nI nT → P none t) : ∀ (f i : Nat) (S : rdS) (t : rSg), i + f = n → RRun (s0 753) n f i S (.inr (nG, nT, none)) → mK [] [45, 46] s0 t → t 725 45 = nI S.2.1 → t 725 46 = nI S.2.2.1 → g_207_12 (nI i) t P := by
  intro f
  induction f with
  | zero =>
    intro i S t hi hR k e1 e2
    obtain ⟨l, g, p, bad⟩ := S
    have t40 : t 725 40 = nI n := by rw [k.2 40 (by simp), h40]
    cases l with
    | nil =>
      rcases hR with ⟨_, h⟩ | ⟨_, h⟩
      · cases h
        exact w_207_12 t _ ⟨fun _ => hP t k e1 e2, fun q => absurd (by rw [t40]; exact nI_le (by omega) (by omega)) q⟩
      · cases h
    | cons w l => cases hR
  | succ f ih =>
    intro i S t hi hR k e1 e2
    obtain ⟨l, g, p, bad⟩ := S
    have t40 : t 725 40 = nI n := by rw [k.2 40 (by simp), h40]
    cases l with
    | nil =>
      rcases hR with ⟨h, _⟩ | ⟨_, h⟩
      · omega
      · cases h
    | cons w l =>
      rcases hR with ⟨S2, hS, hR⟩ | ⟨_, h⟩
      · have lt : ¬ t 725 40 ≤ nI i := by
          rw [t40]
          intro q
          have := (nI_leI (by omega) (by omega)).mp q
          omega
        have c53 : t 753 (nI i).toNatClampNeg = s0 753 i := by rw [nI_clamp (by omega), k.1 753 (by decide) (by simp)]
        have nx : ∀ a b : Int32, b = nI S2.2.1 → a = nI S2.2.2.1 → g_207_12 (nI i + 1) (up2 (up2 t 725 46 a) 725 45 b) P := fun a b h1 h2 => by
          rw [nI_1]
          refine ih (i + 1) S2 _ (by omega) hR ((k.upF (by simp)).upF (by simp)) ?_ ?_
          · rw [up2_same]; exact h1
          · rw [up2_nj _ _ _ (by decide), up2_same]; exact h2
        have z0 : ∀ x : Int32, x + 0 = x := fun x => by simp
        have tm : tSg (s0 753 i) → S2.2.1 = g ∧ S2.2.2.1 = p + 1 := fun ht => by
          rcases hS with ⟨_, h, _⟩ | ⟨_, _, _, rfl⟩ | ⟨_, _, h, _⟩
          · rw [h] at ht; exact absurd ht (by unfold tSg; decide)
          · exact ⟨rfl, rfl⟩
          · exact absurd ht (gSg_not h)
        have gm : ¬ tSg (s0 753 i) → ¬ s0 753 i = 41 → S2.2.1 = g + 1 ∧ S2.2.2.1 = p := fun ht h41 => by
          rcases hS with ⟨_, h, _⟩ | ⟨_, _, h, _⟩ | ⟨_, _, _, rfl⟩
          · exact absurd h h41
          · exact absurd h ht
          · exact ⟨rfl, rfl⟩
        have cm : ¬ tSg (s0 753 i) → s0 753 i = 41 → S2.2.1 = g ∧ S2.2.2.1 = p := fun ht h41 => by
          rcases hS with ⟨_, _, rfl⟩ | ⟨_, _, h, _⟩ | ⟨_, _, h, _⟩
          · exact ⟨rfl, rfl⟩
          · exact absurd h ht
          · rw [h41] at h; exact absurd h (by unfold gSg; decide)
        have one : tSg (s0 753 i) → g_207_66 (nI i) (s0 753 i) 1 t P := fun ht => w_207_66 t _ _ _ ⟨fun q => absurd q (by decide), fun _ => ⟨fun _ => nx _ _ (by rw [(tm ht).1, z0, e1]) (by rw [(tm ht).2, e2, nI_1]), fun q => absurd (by decide) q⟩⟩
        have zer : ¬ tSg (s0 753 i) → g_207_66 (nI i) (s0 753 i) 0 t P := fun ht => w_207_66 t _ _ _ ⟨fun _ => ⟨fun q => absurd rfl q, fun _ => ⟨fun q => nx _ _ (by rw [(gm ht q).1, e1, nI_1]) (by rw [(gm ht q).2, z0, e2]), fun q => nx _ _ (by rw [(cm ht (Classical.not_not.mp q)).1, z0, e1]) (by rw [(cm ht (Classical.not_not.mp q)).2, z0, e2])⟩⟩, fun q => absurd rfl q⟩
        refine w_207_12 t _ ⟨fun q => absurd q lt, fun _ => ⟨rIn_nI (by omega) (by decide), ?_⟩⟩
        rw [c53]
        exact ms_119 t _ 97 102 (fun a => ⟨_, rfl, fun _ => one (Or.inl a), fun q => absurd (by decide) q⟩) (fun a => ⟨_, rfl, fun q => absurd rfl q, fun _ => ms_119 t _ 48 57 (fun b => ⟨_, rfl, fun _ => one (Or.inr (Or.inl b)), fun q => absurd (by decide) q⟩) (fun b => ⟨_, rfl, fun q => absurd rfl q, fun _ => ⟨fun c => one (Or.inr (Or.inr (Or.inl c))), fun c => ⟨fun d => zer (by rintro (h | h | h | h); exact a h; exact b h; exact c h; exact d h), fun d => one (Or.inr (Or.inr (Or.inr (Classical.not_not.mp d))))⟩⟩⟩)⟩)
      · cases h
theorem mx_206 {s : rSg} {A : Ab} {im : Option Ab} (h : MJ s A im) {n m : Nat} (hn : s 725 39 = nI n) (hm : s 725 58 = nI m) (x : Int32) : EvS rSkel 3 206 [.inr (.inr (some 725)), .inl x] s (mP (sCnt A (s 726) n m x) A im s) := by
  obtain ⟨T, G, L, hd, g, r1, r2, r3, ⟨n4, r4, r5⟩, _⟩ := id h
  refine w_206 s x (ms_119 s x 11 16 (fun e => ⟨_, rfl, fun q => absurd q (by decide), fun _ => ⟨?_, (mk0.rfl' h).is ?_⟩⟩) (fun e => ⟨_, rfl, fun _ => w_207 s ?_, fun q => absurd rfl q⟩))
  · obtain ⟨m, hm, rfl⟩ := nn_of (Int32.not_lt.mpr (Int32.le_trans (show (0 : Int32) ≤ 11 by decide) e.1))
    have m1 : 11 ≤ m := (nI_leI (a := 11) (by decide) hm).mp e.1
    have m2 : m ≤ 16 := (nI_leI hm (b := 16) (by decide)).mp e.2
    rw [show nI m - 10 = nI (m - 10) from pk_sub (a := m) (b := 10) (by omega)]
    exact rIn_nI (by omega) (by decide)
  · unfold sCnt
    rw [if_pos e]
    exact ⟨rfl, rfl⟩
  · have k0 : mK [] [45, 46] s (up2 (up2 s 725 45 0) 725 46 0) := (mK.rfl'.upF (by simp)).upF (by simp)
    refine mx_207b (s0 := up2 (up2 s 725 45 0) 725 46 0) (nG := A.nG) (nT := A.nT) r5.1 (by rw [up2_nj _ _ _ (by decide), up2_nj _ _ _ (by decide)]; exact r4) (fun t k t5 t6 => ?_) n4 0 ([103], 0, 0, none) _ (by omega) (by rw [up2_nk _ _ _ (by decide), up2_nk _ _ _ (by decide)]; exact r5.2.2.2.1) mK.rfl' (by rw [up2_nj _ _ _ (by decide), up2_same]; rfl) (by rw [up2_same]; rfl)
    have k2 := k0.trans k
    have o := mk0.K h k2 (by simp) (by simp [jI]) (by simp) (by simp)
    have f := o.1.f
    unfold sCnt
    rw [if_neg e]
    refine ⟨rfl, fun e => ?_, fun e => ?_, fun e => ?_, fun e => ?_, fun e => ?_, fun e => ?_, fun e => ?_, fun e => ?_, fun e => ?_⟩
    · rw [if_pos e, f.2.2.1]; exact o.is ⟨rfl, rfl⟩
    · rw [if_neg (by rw [e]; decide), if_pos e, f.2.1.1]; exact o.is ⟨rfl, rfl⟩
    · rw [if_neg (by rw [e]; decide), if_neg (by rw [e]; decide), if_pos e, t5]; exact o.is ⟨rfl, rfl⟩
    · rw [if_neg (by rw [e]; decide), if_neg (by rw [e]; decide), if_neg (by rw [e]; decide), if_pos e, t6]; exact o.is ⟨rfl, rfl⟩
    · rw [if_neg (by rw [e]; decide), if_neg (by rw [e]; decide), if_neg (by rw [e]; decide), if_neg (by rw [e]; decide), if_pos e, f.1.1]; exact o.is ⟨rfl, rfl⟩
    · rw [if_neg (by rw [e]; decide), if_neg (by rw [e]; decide), if_neg (by rw [e]; decide), if_neg (by rw [e]; decide), if_neg (by rw [e]; decide), if_pos e, f.2.2.2.1]; exact o.is ⟨rfl, rfl⟩
    · rw [if_neg (by rw [e]; decide), if_neg (by rw [e]; decide), if_neg (by rw [e]; decide), if_neg (by rw [e]; decide), if_neg (by rw [e]; decide), if_neg (by rw [e]; decide), if_pos e, k2.2 58 (by simp), hm]; exact o.is ⟨rfl, rfl⟩
    · rw [if_neg (by rw [e]; decide), if_neg (by rw [e]; decide), if_neg (by rw [e]; decide), if_neg (by rw [e]; decide), if_neg (by rw [e]; decide), if_neg (by rw [e]; decide), if_neg (by rw [e]; decide), if_pos e, k2.2 39 (by simp), hn]; exact o.is ⟨rfl, rfl⟩
    · rw [if_neg e.1, if_neg e.2.1, if_neg e.2.2.1, if_neg e.2.2.2.1, if_neg e.2.2.2.2.1, if_neg e.2.2.2.2.2.1, if_neg e.2.2.2.2.2.2.1, if_neg e.2.2.2.2.2.2.2]
      exact o.is ⟨rfl, rfl⟩
/-! share -/
def sShr (Q : Qx) (x : Int32) (r : Int64) (o : Option Int32) : Prop := ((x = 0 ∨ x = 1) ∧ o = none ∧ ((Q.2.1.length = 0 ∧ r = x.toInt64) ∨ (Q.2.1.length ≠ 0 ∧ r = (nI ((if x = 0 then Q.2.1.length else Q.2.2.1) / Nat.gcd Q.2.1.length Q.2.2.1)).toInt64))) ∨ (¬ (x = 0 ∨ x = 1) ∧ o = some (-2) ∧ r = 4000000000000000000 - (-2 : Int32).toInt64)
theorem gcd_mod (a b : Nat) : Nat.gcd b (a % b) = Nat.gcd a b := by
  rw [Nat.gcd_comm b (a % b), ← Nat.gcd_rec b a, Nat.gcd_comm]
theorem l_nI {a : Nat} (h : a < 2 ^ 31) : (nI a).toInt64.toInt = (a : Int) := by
  rw [Int32.toInt_toInt64, nI_toInt h]
theorem l_div {a d : Nat} (ha : a < 2 ^ 31) (hd0 : 0 < d) {y : Int64} (hy : y.toInt = (d : Int)) : (nI a).toInt64 / y = (nI (a / d)).toInt64 := by
  apply Int64.toInt_inj.mp
  have h1 : a / d ≤ a := Nat.div_le_self a d
  rw [lg_ldiv_nonneg (by rw [l_nI ha]; omega) (by omega), l_nI ha, hy, l_nI (by omega)]
  exact (Int.natCast_ediv a d).symm
theorem mx_193 {s : rSg} {P : Option rv → rSg → Prop} : ∀ (n a b : Nat) (x y : Int64), b < n → x.toInt = (a : Int) → a < 2 ^ 31 → y.toInt = (b : Int) → b < 2 ^ 31 → (∀ r : Int64, r.toInt = (Nat.gcd a b : Int) → P (some (.inr (.inl r))) s) → g_193_6 x y s P := by
  intro n
  induction n with
  | zero => intro a b x y h; omega
  | succ n ih =>
    intro a b x y hb hx ha hy hb9 hP
    have z0 : (0 : Int64).toInt = 0 := rfl
    refine w_193_6 s x y ⟨fun h => ?_, fun h => ?_⟩
    · have e2 := (lg_cmp_eq y 0).mp h
      rw [e2, z0] at hy
      have : b = 0 := by omega
      subst this
      exact hP x (by rw [hx, Nat.gcd_zero_right])
    · have hne : ¬ y = 0 := fun e => h ((lg_cmp_eq y 0).mpr e)
      have hy0 : 0 < y.toInt := by
        have : y.toInt ≠ 0 := fun e => hne (Int64.toInt_inj.mp (by rw [e, z0]))
        omega
      have er := l_rem (x := x) (y := y) (by omega) (by omega) hy0 (by omega)
      have hb0 : 0 < b := by omega
      have em : (x - x / y * y).toInt = ((a % b : Nat) : Int) := by rw [er, hx, hy]; exact (Int.natCast_emod a b).symm
      have ml := Nat.mod_lt a hb0
      exact ⟨hne, ih b (a % b) y _ (by omega) hy hb9 em (by omega) (fun r hr => hP r (by rw [hr, gcd_mod]))⟩
theorem cx_101b {s : rSg} {P : Option rv → rSg → Prop} : ∀ (n a b k : Nat), b < n → a < 1000 → b < 1000 → b + k ≤ 63 → P (some (.inl (nI (Nat.gcd a b)))) s → g_101_7 (nI a) (nI b) (nI k) s P := by
  intro n
  induction n with
  | zero => intro a b k h; omega
  | succ n ih =>
    intro a b k hb ha hb9 hk hP
    refine w_101_7 s _ _ _ ⟨fun q => ?_, fun _ => ⟨fun q => ?_, fun q => ?_⟩⟩
    · have := (nI_leI (a := 64) (by decide) (by omega)).mp q; omega
    · have : b = 0 := by have := (nI_leI (b := 0) (by omega) (by decide)).mp q; omega
      subst this
      rw [Nat.gcd_zero_right] at hP
      exact hP
    · have hb0 : 0 < b := Nat.pos_of_ne_zero (fun e => q (by rw [e]; decide))
      have ml := Nat.mod_lt a hb0
      rw [show irem (nI a) (nI b) = nI (a % b) from pk_rem (by omega) hb0 (by omega), nI_1]
      exact ⟨fun e => by have := (nI_eq (b := 0) (by omega) (by decide)).mp e; omega, ih b (a % b) (k + 1) (by omega) hb9 (by omega) (by omega) (by rw [gcd_mod]; exact hP)⟩
theorem cx_101 {s : rSg} {P : Option rv → rSg → Prop} {a b : Nat} (ha : a ≤ 30) (hb : b ≤ 300) (hP : P (some (.inl (nI (Nat.gcd a b)))) s) : EvS rSkel 1 101 [.inl (nI a), .inl (nI b)] s P := by
  refine w_101 s _ _ (w_101_7 s _ _ _ ⟨fun q => absurd q (by decide), fun _ => ⟨fun q => ?_, fun q => ?_⟩⟩)
  · have : b = 0 := by have := (nI_leI (b := 0) (by omega) (by decide)).mp q; omega
    subst this
    rw [Nat.gcd_zero_right] at hP
    exact hP
  · have hb0 : 0 < b := Nat.pos_of_ne_zero (fun e => q (by rw [e]; decide))
    have ml := Nat.mod_lt a hb0
    have ml2 := Nat.mod_le a b
    rw [show irem (nI a) (nI b) = nI (a % b) from pk_rem (by omega) hb0 (by omega)]
    exact ⟨fun e => by have := (nI_eq (b := 0) (by omega) (by decide)).mp e; omega, cx_101b (a % b + 1) b (a % b) 1 (by omega) (by omega) (by omega) (by omega) (by rw [gcd_mod]; exact hP)⟩
def cPL (W : Int64 → Option Int32 → Prop) (l D : Nat) (s : rSg) (v : Option rv) (t : rSg) : Prop := ∃ r o, W r o ∧ v = some (.inr (.inl r)) ∧ kc s t ∧ t 691 = rfC o (s 691) ∧ (∃ m, m ≤ l + D ∧ cSn t m) ∧ clI t
def mPL (W : Int64 → Option Int32 → Prop) (A : Ab) (im : Option Ab) (s : rSg) (v : Option rv) (t : rSg) : Prop := ∃ r o, W r o ∧ v = some (.inr (.inl r)) ∧ MJ t A im ∧ mC s t ∧ (t 752 = s 752 ∧ t 759 = s 759) ∧ (t 725 39 = s 725 39 ∧ t 725 58 = s 725 58) ∧ t 726 = rfC o (s 726)
theorem cx_100 {s : rSg} {A : Ab} {im : Option Ab} (h : clI s) {l : Nat} (hl : cSn s l) (c : CJ s A im) (hst : A.Q.2.2.1 ≤ 300) (x : Int32) : EvS rSkel 2 100 [.inr (.inr (some 0)), .inl x] s (cPL (sShr A.Q x) l 0 s) := by
  have f := c.1.f
  have l30 := f.2.2.1.2
  have ok : ∀ r, sShr A.Q x r none → cPL (sShr A.Q x) l 0 s (some (.inr (.inl r))) s := fun r w => ⟨r, none, w, rfl, kc.rfl', rfl, ⟨l, by omega, hl⟩, h⟩
  have main : x = 0 ∨ x = 1 → g_100_21 x s (cPL (sShr A.Q x) l 0 s) := fun hx => by
    refine w_100_21 s x ⟨fun q => ?_, fun q => ?_⟩
    · rw [f.2.2.1.1] at q
      have hl : A.Q.2.1.length ≠ 0 := fun e => q (by rw [e]; rfl)
      rw [f.2.2.1.1, f.2.1]
      have g0 : 0 < Nat.gcd A.Q.2.1.length A.Q.2.2.1 := Nat.gcd_pos_of_pos_left _ (by omega)
      have g1 : Nat.gcd A.Q.2.1.length A.Q.2.2.1 ≤ 30 := Nat.le_trans (Nat.le_of_dvd (by omega) (Nat.gcd_dvd_left _ _)) l30
      have one : (1 : Int32) ≤ nI (Nat.gcd A.Q.2.1.length A.Q.2.2.1) := nI_le (a := 1) g0 (by omega)
      have ne : ¬ nI (Nat.gcd A.Q.2.1.length A.Q.2.2.1) = 0 := fun e => by have := (nI_eq (b := 0) (by omega) (by decide)).mp e; omega
      refine cx_101 l30 hst ⟨_, rfl, fun q2 => ⟨fun _ => ⟨ne, ?_⟩, fun z => absurd one z⟩, fun q2 => ⟨fun _ => ⟨ne, ?_⟩, fun z => absurd one z⟩⟩
      · rw [f.2.1, show nI A.Q.2.2.1 / nI (Nat.gcd A.Q.2.1.length A.Q.2.2.1) = _ from pk_div (by omega) g0 (by omega)]
        exact ok _ (Or.inl ⟨hx, rfl, Or.inr ⟨hl, by rw [if_neg q2]⟩⟩)
      · rw [f.2.2.1.1, show nI A.Q.2.1.length / nI (Nat.gcd A.Q.2.1.length A.Q.2.2.1) = _ from pk_div (by omega) g0 (by omega)]
        exact ok _ (Or.inl ⟨hx, rfl, Or.inr ⟨hl, by rw [if_pos (Classical.not_not.mp q2)]⟩⟩)
    · have q := Classical.not_not.mp q
      rw [f.2.2.1.1] at q
      exact ok _ (Or.inl ⟨hx, rfl, Or.inl ⟨(nI_eq (b := 0) (by omega) (by decide)).mp q, rfl⟩⟩)
  refine w_100 s x ⟨fun e => main (Or.inl e), fun e => ⟨fun e2 => main (Or.inr e2), fun e2 => ?_⟩⟩
  refine (cx_no (W := fun r o => r = -2 ∧ o = some (-2)) (kc0.rfl' h hl) (by decide) ⟨rfl, rfl⟩).imp ?_
  rintro v u ⟨n, rfl, r, o, ⟨rfl, rfl⟩, hv, k1, k2, k3, k4⟩
  cases hv
  exact ⟨_, rfl, _, _, Or.inr ⟨fun z => z.elim e e2, rfl, rfl⟩, rfl, k1, k2, k3, k4⟩
theorem mx_191 {s : rSg} {A : Ab} {im : Option Ab} (h : MJ s A im) (x : Int32) : EvS rSkel 2 191 [.inr (.inr (some 725)), .inl x] s (mPL (sShr A.Q x) A im s) := by
  have f := h.f
  have l30 := f.2.1.2
  have hst : A.Q.2.2.1 ≤ 300 := by
    obtain ⟨_, _, _, _, _, _, _, _, _, q, _⟩ := h
    exact q.1
  have ok : ∀ r, sShr A.Q x r none → mPL (sShr A.Q x) A im s (some (.inr (.inl r))) s := fun r w => ⟨r, none, w, rfl, h, mC.rfl', ⟨rfl, rfl⟩, ⟨rfl, rfl⟩, rfl⟩
  refine w_191 s x (ms_119 s x 0 1 (fun e => ⟨_, rfl, fun _ => ?_, fun q => absurd (by decide) q⟩) (fun e => ⟨_, rfl, fun q => absurd rfl q, fun _ => ?_⟩))
  · have hx : x = 0 ∨ x = 1 := by
      obtain ⟨m, hm, rfl⟩ := nn_of (Int32.not_lt.mpr e.1)
      have m2 : m ≤ 1 := (nI_leI hm (b := 1) (by decide)).mp e.2
      have : m = 0 ∨ m = 1 := by omega
      rcases this with rfl | rfl
      · exact Or.inl rfl
      · exact Or.inr rfl
    refine ⟨fun q => ?_, fun q => ?_⟩
    · rw [f.2.2.1] at q
      have hs0 : A.Q.2.2.1 ≠ 0 := fun e => q (by rw [e]; rfl)
      rw [f.2.1.1, f.2.2.1]
      have g0 : 0 < Nat.gcd A.Q.2.1.length A.Q.2.2.1 := Nat.gcd_pos_of_pos_right _ (by omega)
      refine w_193 s _ _ (mx_193 301 A.Q.2.1.length A.Q.2.2.1 _ _ (by omega) (l_nI (by omega)) (by omega) (l_nI (by omega)) (by omega) (fun r hr => ?_))
      have ne : ¬ r = 0 := fun z => by
        rw [z, show (0 : Int64).toInt = 0 from rfl] at hr
        omega
      refine ⟨_, rfl, fun q2 => ⟨ne, ?_⟩, fun q2 => ⟨ne, ?_⟩⟩
      · rw [f.2.2.1, l_div (by omega) g0 hr]
        by_cases z : A.Q.2.1.length = 0
        · refine ok _ (Or.inl ⟨hx, rfl, Or.inl ⟨z, ?_⟩⟩)
          rw [z, Nat.gcd_zero_left, Nat.div_self (by omega), hx.resolve_left q2]
          rfl
        · exact ok _ (Or.inl ⟨hx, rfl, Or.inr ⟨z, by rw [if_neg q2]⟩⟩)
      · rw [f.2.1.1, l_div (by omega) g0 hr]
        have q2 := Classical.not_not.mp q2
        by_cases z : A.Q.2.1.length = 0
        · refine ok _ (Or.inl ⟨hx, rfl, Or.inl ⟨z, ?_⟩⟩)
          rw [z, Nat.zero_div, q2]
          rfl
        · exact ok _ (Or.inl ⟨hx, rfl, Or.inr ⟨z, by rw [if_pos q2]⟩⟩)
    · have q := Classical.not_not.mp q
      rw [f.2.2.1] at q
      have hs0 : A.Q.2.2.1 = 0 := (nI_eq (b := 0) (by omega) (by decide)).mp q
      refine ok _ (Or.inl ⟨hx, rfl, Or.inl ⟨?_, rfl⟩⟩)
      obtain ⟨_, _, _, _, _, _, _, _, _, st, _⟩ := h
      have hr := st.2.1
      unfold rcd at hr
      rw [hs0] at hr
      have hr : A.Q = bgn 0 := hr
      rw [hr]
      rfl
  · have hx : ¬ (x = 0 ∨ x = 1) := by
      rintro (z | z)
      · exact e (by rw [z]; decide)
      · exact e (by rw [z]; decide)
    refine w_192 s _ ⟨by decide, by decide, _, rfl, _, some (-2), Or.inr ⟨hx, rfl, rfl⟩, rfl, h.K (mK.rfl'.up (by simp [kJ]) (by decide)), fun q hq => up2_nk _ _ _ (by omega), ?_, ?_, ?_⟩
    · rw [up2_nk _ _ _ (by decide), up2_nk _ _ _ (by decide)]; exact ⟨rfl, rfl⟩
    · rw [up2_nk _ _ _ (by decide)]; exact ⟨rfl, rfl⟩
    · rw [rfC_up]
