/-! THE CLASS's READER, with what it writes: slots -/
/-- what is due: its sign, its owner, its place there; where that lies in the script -/
abbrev Slt : Type := Int32 × Int32 × Int32 × Option (Nat × Nat)
def csl (s : rSg) : List Slt → Prop
  | [] => True
  | x :: r => s 679 r.length = kdI x.1 ∧ s 680 r.length = x.2.1 ∧ s 681 r.length = x.2.2.1 ∧ csl s r
theorem csl_ext {s t : rSg} : ∀ {l : List Slt}, (∀ j, j < l.length → t 679 j = s 679 j ∧ t 680 j = s 680 j ∧ t 681 j = s 681 j) → csl s l → csl t l
  | [], _, _ => trivial
  | x :: r, h, ⟨h1, h2, h3, h4⟩ => ⟨by rw [(h r.length (by simp)).1]; exact h1, by rw [(h r.length (by simp)).2.1]; exact h2, by rw [(h r.length (by simp)).2.2]; exact h3, csl_ext (fun j hj => h j (by simp; omega)) h4⟩
def cro (s : rSg) (sl : List Slt) : Prop := s 678 4 = nI sl.length ∧ csl s sl
def crd (s : rSg) (sl : List Slt) (ng nt np : Nat) : Prop := cro s sl ∧ s 678 5 = nI ng ∧ s 678 6 = nI nt ∧ s 678 7 = -1 ∧ s 231 3 = nI ng ∧ s 231 4 = nI np
/-- script and counters stay -/
def sc3 (s t : rSg) : Prop := t 231 = s 231 ∧ t 232 = s 232 ∧ t 233 = s 233 ∧ t 234 = s 234 ∧ rd s t ∧ ∀ j, j ≠ 4 → t 678 j = s 678 j
theorem sc3.rfl' {s : rSg} : sc3 s s := ⟨rfl, rfl, rfl, rfl, rd.rfl', fun _ _ => rfl⟩
theorem sc3.trans {s t u : rSg} (h1 : sc3 s t) (h2 : sc3 t u) : sc3 s u := ⟨h2.1.trans h1.1, h2.2.1.trans h1.2.1, h2.2.2.1.trans h1.2.2.1, h2.2.2.2.1.trans h1.2.2.2.1, h1.2.2.2.2.1.trans h2.2.2.2.2.1, fun j hj => (h2.2.2.2.2.2 j hj).trans (h1.2.2.2.2.2 j hj)⟩
theorem ct_7 {s : rSg} {sl : List Slt} (hs : cro s sl) (hl : sl.length < 196) (x : Slt) : EvS rSkel 1 7 [.inr (.inr (some 678)), .inl (kdI x.1), .inl x.2.1, .inl x.2.2.1] s (fun v t => v = none ∧ cro t (x :: sl) ∧ sc3 s t) := by
  refine w_7 s _ _ _ ?_
  rw [hs.1, nI_clamp (by omega), nI_1]
  refine ⟨fun q => absurd q (nI_pos (by omega)), fun _ => ⟨fun q => absurd ((nI_leI (a := 196) (by decide) (by omega)).mp q) (by omega), fun _ => ?_⟩⟩
  have r := rIn_nI (t := sl.length) (n := 196) hl (by decide)
  refine ⟨r, r, r, rfl, ⟨up2_same _ _ _ _, ?_, ?_, ?_, csl_ext (fun j hj => ⟨?_, ?_, ?_⟩) hs.2⟩, ?_, ?_, ?_, ?_, fun q hq => ?_, fun j hj => ?_⟩
  · rw [up2_nk _ _ _ (by decide), up2_nk _ _ _ (by decide), up2_nk _ _ _ (by decide), up2_same]
  · rw [up2_nk _ _ _ (by decide), up2_nk _ _ _ (by decide), up2_same]
  · rw [up2_nk _ _ _ (by decide), up2_same]
  · rw [up2_nk _ _ _ (by decide), up2_nk _ _ _ (by decide), up2_nk _ _ _ (by decide), up2_nj _ _ _ (by omega)]
  · rw [up2_nk _ _ _ (by decide), up2_nk _ _ _ (by decide), up2_nj _ _ _ (by omega), up2_nk _ _ _ (by decide)]
  · rw [up2_nk _ _ _ (by decide), up2_nj _ _ _ (by omega), up2_nk _ _ _ (by decide), up2_nk _ _ _ (by decide)]
  · rw [up2_nk _ _ _ (by decide), up2_nk _ _ _ (by decide), up2_nk _ _ _ (by decide), up2_nk _ _ _ (by decide)]
  · rw [up2_nk _ _ _ (by decide), up2_nk _ _ _ (by decide), up2_nk _ _ _ (by decide), up2_nk _ _ _ (by decide)]
  · rw [up2_nk _ _ _ (by decide), up2_nk _ _ _ (by decide), up2_nk _ _ _ (by decide), up2_nk _ _ _ (by decide)]
  · rw [up2_nk _ _ _ (by decide), up2_nk _ _ _ (by decide), up2_nk _ _ _ (by decide), up2_nk _ _ _ (by decide)]
  · rw [up2_nk _ _ _ (by omega), up2_nk _ _ _ (by omega), up2_nk _ _ _ (by omega), up2_nk _ _ _ (by omega)]
  · rw [up2_nj _ _ _ hj, up2_nk _ _ _ (by decide), up2_nk _ _ _ (by decide), up2_nk _ _ _ (by decide)]
/-- the slots of a new goal from a place on -/
def gsl (w : Int32) (g : Nat) : Nat → Nat → List Slt
  | 0, _ => []
  | n + 1, m => (w, nI g, nI m, some (233, 3 * g + m)) :: gsl w g n (m + 1)
theorem ct_9c {s0 : rSg} (w : Int32) {g : Nat} {sl : List Slt} {P : Option rv → rSg → Prop} : ∀ (k n : Nat) (s : rSg), sl.length + n + k < 196 → cro s (gsl w g n k ++ sl) → sc3 s0 s → (gsl w g n k).length = n → (∀ t, cro t (gsl w g (n + k) 0 ++ sl) → sc3 s0 t → P (some (.inl 1)) t) → g_9_104 (nI g) (kdI w) (nI k - 1) s P := by
  intro k
  induction k with
  | zero =>
    intro n s hk hs hc _ hP
    exact w_9_104 s _ _ _ ⟨fun _ => hP s hs hc, fun q => absurd (by decide) q⟩
  | succ k ih =>
    intro n s hk hs hc hlen hP
    rw [show nI (k + 1) - 1 = nI k from nI_pred k]
    refine w_9_104 s _ _ _ ⟨fun q => absurd q (nI_pos (by omega)), fun _ => (ct_7 hs (by rw [List.length_append, hlen]; omega) (w, nI g, nI k, some (233, 3 * g + k))).imp ?_⟩
    rintro _ t ⟨rfl, ht, kt⟩
    rw [show nI k + (-1) = nI k - 1 from (Int32.sub_eq_add_neg _ _).symm]
    refine ⟨rfl, ih (n + 1) t (by omega) ht (hc.trans kt) (by simp only [gsl, List.length_cons, hlen]) (fun u hu ku => hP u ?_ ku)⟩
    rw [show n + (k + 1) = n + 1 + k by omega]
    exact hu
/-- what stands where -/
def slA (ng np : Nat) (x : Slt) : Prop := (x.2.1 = -1 ∧ x.2.2.2 = none) ∨ (∃ o p, o < ng ∧ p < 3 ∧ x.2.1 = nI o ∧ x.2.2.1 = nI p ∧ x.2.2.2 = some (233, 3 * o + p)) ∨ (∃ q p, x.1 ≠ 103 ∧ q < np ∧ p < 2 ∧ x.2.1 = nI (256 + q) ∧ x.2.2.1 = nI p ∧ x.2.2.2 = some (234, 2 * q + p))
def pu (s : rSg) (ad : Option (Nat × Nat)) (x : Int32) : rSg := match ad with
  | none => s
  | some (k, j) => up2 s k j x
theorem ce_24 {s : Nat} (hs : isScr s) (sg : rSg) {q p : Nat} (hq : q < 640) (hp : p < 2) (x : Int32) : EvS rSkel 1 24 [.inr (.inr (some s)), .inl (nI (256 + q)), .inl (nI p), .inl x] sg (fun r t => r = none ∧ t = up2 sg (s + 3) (2 * q + p) x) := by
  refine w_24 sg s hs _ _ _ ?_
  rw [show (2 : Int32) * (nI (256 + q) - 256) + nI p = nI (2 * q + p) by rw [show nI (256 + q) - 256 = nI q from (pk_sub (a := 256 + q) (b := 256) (by omega)).trans (by rw [show 256 + q - 256 = q by omega]), show (2 : Int32) = nI 2 from rfl, pk_mul, nI_add]]
  refine ⟨fun q => absurd q (nI_pos (by omega)), fun _ => ⟨fun q => absurd ((nI_leI (a := 2) (by decide) (by omega)).mp q) (by omega), fun _ => ⟨fun q => absurd q (nI_pos (by omega)), fun _ => ⟨fun q => absurd ((nI_leI (a := 1280) (by decide) (by omega)).mp q) (by omega), fun _ => ⟨rIn_nI (by omega) (by decide), rfl, ?_⟩⟩⟩⟩⟩
  rw [nI_clamp (by omega)]
theorem ct_22 {ng np : Nat} (hg : ng ≤ 24) {x : Slt} (hx : slA ng np x) (hw : x.1 = 103) (s : rSg) (e : Int32) : EvS rSkel 1 22 [.inr (.inr (some 231)), .inl x.2.1, .inl x.2.2.1, .inl e] s (fun v t => v = none ∧ t = pu s x.2.2.2 e) := by
  rcases hx with ⟨h1, h2⟩ | ⟨o, p, h1, h2, h3, h4, h5⟩ | ⟨q, p, h1, _⟩
  · rw [h1, h2]
    exact w_22 s 231 scr231 _ _ _ ⟨fun _ => ⟨rfl, rfl⟩, fun q => absurd (by decide) q⟩
  · rw [h3, h4, h5]
    exact ce_22 scr231 s (by omega) h2 e
  · exact absurd hw h1
theorem ct_put {ng np : Nat} (hg : ng ≤ 24) (hnp : np ≤ 41) {x : Slt} (hx : slA ng np x) (s : rSg) (e : Int32) {P : Option rv → rSg → Prop} (hP : P (some (.inl 1)) (pu s x.2.2.2 e)) : EvS rSkel 1 74 [.inl x.2.1] s (fun v t => ∃ n, v = some (.inl n) ∧ (n = 0 → EvS rSkel 1 22 [.inr (.inr (some 231)), .inl x.2.1, .inl x.2.2.1, .inl e] t (fun v t => v = none ∧ P (some (.inl 1)) t)) ∧ (¬ (n = 0) → EvS rSkel 1 24 [.inr (.inr (some 231)), .inl x.2.1, .inl x.2.2.1, .inl e] t (fun v t => v = none ∧ P (some (.inl 1)) t))) := by
  rcases hx with ⟨h1, h2⟩ | ⟨o, p, h1, h2, h3, h4, h5⟩ | ⟨q, p, _, h1, h2, h3, h4, h5⟩
  · rw [h1]
    rw [h2] at hP
    refine w_74 s _ ⟨fun _ => ⟨_, rfl, fun _ => w_22 s 231 scr231 _ _ _ ⟨fun _ => ⟨rfl, hP⟩, fun q => absurd (by decide) q⟩, fun q => absurd rfl q⟩, fun q => absurd (by decide) q⟩
  · rw [h3, h4]
    rw [h5] at hP
    refine w_74 s _ ⟨fun _ => ⟨_, rfl, fun _ => (ce_22 scr231 s (by omega) h2 e).imp ?_, fun q => absurd rfl q⟩, fun q => absurd ((nI_ltI (b := 256) (by omega) (by decide)).mpr (by omega)) q⟩
    rintro _ t ⟨rfl, rfl⟩
    exact ⟨rfl, hP⟩
  · rw [h3, h4]
    rw [h5] at hP
    refine w_74 s _ ⟨fun z => absurd ((nI_ltI (b := 256) (by omega) (by decide)).mp z) (by omega), fun _ => ⟨_, rfl, fun z => absurd z (by decide), fun _ => (ce_24 scr231 s (by omega) h2 e).imp ?_⟩⟩
    rintro _ t ⟨rfl, rfl⟩
    exact ⟨rfl, hP⟩
/-- a leaf's code -/
def lfC (c : Int32) (e : Nat) : Prop := (∃ v, v < 6 ∧ c = nI (97 + v) ∧ e = v) ∨ (∃ a, a < 10 ∧ c = nI (48 + a) ∧ e = 128 + a) ∨ (c = 110 ∧ e = 138)
theorem lfC_lt {c : Int32} {e : Nat} (h : lfC c e) : e < 256 ∧ c ≠ 40 := by
  rcases h with ⟨v, h1, rfl, rfl⟩ | ⟨a, h1, rfl, rfl⟩ | ⟨rfl, rfl⟩
  · exact ⟨by omega, fun q => absurd ((nI_eq (b := 40) (by omega) (by decide)).mp q) (by omega)⟩
  · exact ⟨by omega, fun q => absurd ((nI_eq (b := 40) (by omega) (by decide)).mp q) (by omega)⟩
  · exact ⟨by decide, by decide⟩
theorem ct_12 (s : rSg) {c : Int32} {e : Nat} (h : lfC c e) : EvS rSkel 1 12 [.inl c] s (fun v t => v = some (.inl (nI e)) ∧ t = s) := by
  rcases h with ⟨v, h1, rfl, rfl⟩ | ⟨a, h1, rfl, rfl⟩ | ⟨rfl, rfl⟩
  · refine w_12 s _ ⟨fun q => absurd ((nI_ltI (b := 97) (by omega) (by decide)).mp q) (by omega), fun _ => ⟨fun q => absurd ((nI_leI (a := 103) (by decide) (by omega)).mp q) (by omega), fun _ => ⟨?_, rfl⟩⟩⟩
    rw [show nI (97 + e) - 97 = nI e from (pk_sub (a := 97 + e) (b := 97) (by omega)).trans (by rw [show 97 + e - 97 = e by omega])]
  · refine w_12 s _ ⟨fun _ => w_12_17 s _ ⟨fun q => absurd ((nI_ltI (b := 48) (by omega) (by decide)).mp q) (by omega), fun _ => ⟨fun q => absurd ((nI_leI (a := 58) (by decide) (by omega)).mp q) (by omega), fun _ => ⟨?_, rfl⟩⟩⟩, fun q => absurd ((nI_ltI (b := 97) (by omega) (by decide)).mpr (by omega)) q⟩
    rw [show (128 : Int32) + nI (48 + a) - 48 = nI (128 + a) from by rw [show (128 : Int32) = nI 128 from rfl, nI_add]; exact (pk_sub (a := 128 + (48 + a)) (b := 48) (by omega)).trans (by rw [show 128 + (48 + a) - 48 = 128 + a by omega])]
  · exact w_12 s _ ⟨fun q => absurd q (by decide), fun _ => ⟨fun _ => w_12_17 s _ ⟨fun q => absurd q (by decide), fun _ => ⟨fun _ => ⟨fun q => absurd rfl q, fun _ => ⟨rfl, rfl⟩⟩, fun q => absurd (by decide) q⟩⟩, fun q => absurd (by decide) q⟩⟩
theorem tSg_codes {c : Int32} (h : tSg c) : (∃ e, lfC c e) ∨ c = 40 := by
  rcases tSg_cases h with ⟨g, hg⟩ | q
  · rcases hg with ⟨v, h1, h2, _⟩ | ⟨a, h1, h2, _⟩ | ⟨h2, _⟩
    · exact Or.inl ⟨v, Or.inl ⟨v, h1, h2, rfl⟩⟩
    · exact Or.inl ⟨128 + a, Or.inr (Or.inl ⟨a, h1, h2, rfl⟩)⟩
    · exact Or.inl ⟨138, Or.inr (Or.inr ⟨h2, rfl⟩)⟩
  · exact Or.inr q
