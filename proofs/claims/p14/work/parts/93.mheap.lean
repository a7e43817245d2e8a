/-! THE REFERENCE's HEAPS: pairs, goals, lists; what stands below a height stays -/
def hpP (s : rSg) (T : Nat) : Prop := ∀ t, 75 ≤ t → t < T → ∃ a b, s 727 t = nI a ∧ s 728 t = nI b ∧ a < t ∧ b < t
def two2 (c : Int32) : Prop := c = 38 ∨ c = 124
def hpG (s : rSg) (T G : Nat) : Prop := ∀ g, g < G → ∃ a b d, s 730 g = nI a ∧ s 731 g = nI b ∧ s 732 g = nI d ∧ (two2 (s 729 g) → a < g ∧ b < g) ∧ (¬ two2 (s 729 g) → a < T ∧ b < T ∧ d < T)
def hp (s : rSg) (T G L : Nat) : Prop := (75 ≤ T ∧ T ≤ 1400 ∧ G ≤ 1000 ∧ 1 ≤ L ∧ L ≤ 18000) ∧ (s 725 10 = nI T ∧ s 725 11 = nI G ∧ s 725 12 = nI L) ∧ hpP s T ∧ hpG s T G
/-- below these heights nothing has changed -/
def hx (T G L : Nat) (s t : rSg) : Prop := (∀ j, j < T → t 727 j = s 727 j ∧ t 728 j = s 728 j) ∧ (∀ j, j < G → t 729 j = s 729 j ∧ t 730 j = s 730 j ∧ t 731 j = s 731 j ∧ t 732 j = s 732 j) ∧ (∀ j, j < L → t 733 j = s 733 j ∧ t 734 j = s 734 j ∧ t 735 j = s 735 j)
theorem hx.rfl' {T G L : Nat} {s : rSg} : hx T G L s s := ⟨fun _ _ => ⟨rfl, rfl⟩, fun _ _ => ⟨rfl, rfl, rfl, rfl⟩, fun _ _ => ⟨rfl, rfl, rfl⟩⟩
theorem hx.trans {T G L T2 G2 L2 : Nat} {s t u : rSg} (h1 : hx T G L s t) (h2 : hx T2 G2 L2 t u) (hT : T ≤ T2) (hG : G ≤ G2) (hL : L ≤ L2) : hx T G L s u := by
  refine ⟨fun j hj => ?_, fun j hj => ?_, fun j hj => ?_⟩
  · have a := h1.1 j hj
    have b := h2.1 j (by omega)
    exact ⟨b.1.trans a.1, b.2.trans a.2⟩
  · have a := h1.2.1 j hj
    have b := h2.2.1 j (by omega)
    exact ⟨b.1.trans a.1, b.2.1.trans a.2.1, b.2.2.1.trans a.2.2.1, b.2.2.2.trans a.2.2.2⟩
  · have a := h1.2.2 j hj
    have b := h2.2.2 j (by omega)
    exact ⟨b.1.trans a.1, b.2.1.trans a.2.1, b.2.2.trans a.2.2⟩
theorem hx.of {T G L : Nat} {s t : rSg} (h : ∀ k, 727 ≤ k → k ≤ 735 → t k = s k) : hx T G L s t := by
  refine ⟨fun j _ => ?_, fun j _ => ?_, fun j _ => ?_⟩
  · rw [h 727 (by decide) (by decide), h 728 (by decide) (by decide)]; exact ⟨rfl, rfl⟩
  · rw [h 729 (by decide) (by decide), h 730 (by decide) (by decide), h 731 (by decide) (by decide), h 732 (by decide) (by decide)]; exact ⟨rfl, rfl, rfl, rfl⟩
  · rw [h 733 (by decide) (by decide), h 734 (by decide) (by decide), h 735 (by decide) (by decide)]; exact ⟨rfl, rfl, rfl⟩
theorem hx.mono {T G L T2 G2 L2 : Nat} {s t : rSg} (h : hx T2 G2 L2 s t) (hT : T ≤ T2) (hG : G ≤ G2) (hL : L ≤ L2) : hx T G L s t := hx.rfl'.trans h hT hG hL
theorem hpP.ext {s t : rSg} {T : Nat} (h : hpP s T) (e : ∀ j, j < T → t 727 j = s 727 j ∧ t 728 j = s 728 j) : hpP t T := fun q h1 h2 => by
  obtain ⟨a, b, r⟩ := h q h1 h2
  have := e q h2
  exact ⟨a, b, by rw [this.1]; exact r.1, by rw [this.2]; exact r.2.1, r.2.2⟩
theorem hpG.ext {s t : rSg} {T G T2 : Nat} (h : hpG s T G) (e : ∀ j, j < G → t 729 j = s 729 j ∧ t 730 j = s 730 j ∧ t 731 j = s 731 j ∧ t 732 j = s 732 j) (hT : T ≤ T2) : hpG t T2 G := fun g hg => by
  obtain ⟨a, b, d, r⟩ := h g hg
  have q := e g hg
  rw [q.1, q.2.1, q.2.2.1, q.2.2.2]
  refine ⟨a, b, d, r.1, r.2.1, r.2.2.1, r.2.2.2.1, fun h2 => ?_⟩
  have := r.2.2.2.2 h2
  omega
theorem hp.keep {s t : rSg} {T G L : Nat} (h : hp s T G L) (e : hx T G L s t) (e0 : t 725 10 = s 725 10 ∧ t 725 11 = s 725 11 ∧ t 725 12 = s 725 12) : hp t T G L :=
  ⟨h.1, ⟨by rw [e0.1]; exact h.2.1.1, by rw [e0.2.1]; exact h.2.1.2.1, by rw [e0.2.2]; exact h.2.1.2.2⟩, h.2.2.1.ext e.1, h.2.2.2.ext e.2.1 (Nat.le_refl _)⟩
/-! lists: of goals to do, of kept ones -/
def dol (s : rSg) (G L : Nat) : Nat → List Nat → Prop
  | l, [] => l = 0
  | l, g :: gs => 0 < l ∧ l < L ∧ s 733 l = nI g ∧ g < G ∧ ∃ r, s 735 l = nI r ∧ r < l ∧ dol s G L r gs
def kel (s : rSg) (T L : Nat) : Nat → List (Nat × Nat) → Prop
  | l, [] => l = 0
  | l, p :: ks => 0 < l ∧ l < L ∧ s 733 l = nI p.1 ∧ s 734 l = nI p.2 ∧ p.1 < T ∧ p.2 < T ∧ ∃ r, s 735 l = nI r ∧ r < l ∧ kel s T L r ks
theorem dol_ext {s t : rSg} {G L G2 L2 : Nat} (hG : G ≤ G2) (hL : L ≤ L2) (e : ∀ j, j < L → t 733 j = s 733 j ∧ t 735 j = s 735 j) : ∀ {gs : List Nat} {l : Nat}, dol s G L l gs → dol t G2 L2 l gs
  | [], _, h => h
  | g :: gs, l, ⟨h1, h2, h3, h4, r, h5, h6, h7⟩ => by
    have q := e l h2
    exact ⟨h1, by omega, by rw [q.1]; exact h3, by omega, r, by rw [q.2]; exact h5, h6, dol_ext hG hL e h7⟩
theorem kel_ext {s t : rSg} {T L T2 L2 : Nat} (hT : T ≤ T2) (hL : L ≤ L2) (e : ∀ j, j < L → t 733 j = s 733 j ∧ t 734 j = s 734 j ∧ t 735 j = s 735 j) : ∀ {ks : List (Nat × Nat)} {l : Nat}, kel s T L l ks → kel t T2 L2 l ks
  | [], _, h => h
  | p :: ks, l, ⟨h1, h2, h3, h4, h5, h6, r, h7, h8, h9⟩ => by
    have q := e l h2
    exact ⟨h1, by omega, by rw [q.1]; exact h3, by rw [q.2.1]; exact h4, by omega, by omega, r, by rw [q.2.2]; exact h7, h8, kel_ext hT hL e h9⟩
theorem dol_lt {s : rSg} {G L : Nat} (hL : 0 < L) : ∀ {gs : List Nat} {l : Nat}, dol s G L l gs → l < L
  | [], _, h => by rw [show _ = 0 from h]; exact hL
  | _ :: _, _, h => h.2.1
theorem kel_lt {s : rSg} {T L : Nat} (hL : 0 < L) : ∀ {ks : List (Nat × Nat)} {l : Nat}, kel s T L l ks → l < L
  | [], _, h => by rw [show _ = 0 from h]; exact hL
  | _ :: _, _, h => h.2.1
/-! how many '#' a goal has -/
def nhF (s : rSg) : Nat → Nat → Nat
  | 0, _ => 0
  | n + 1, g => if s 729 g = 35 then 1 else if s 729 g = 38 ∨ s 729 g = 124 then nhF s n (s 730 g).toNatClampNeg + nhF s n (s 731 g).toNatClampNeg else 0
def nh (s : rSg) (g : Nat) : Nat := nhF s (g + 1) g
theorem nhF_stab {s : rSg} {T G : Nat} (h : hpG s T G) (hG : G < 2 ^ 31) : ∀ (n m g : Nat), g < G → g < n → g < m → nhF s n g = nhF s m g := by
  intro n
  induction n with
  | zero => intro m g _ q; omega
  | succ n ih =>
    intro m g hg h1 h2
    obtain ⟨m, rfl⟩ : ∃ k, m = k + 1 := ⟨m - 1, by omega⟩
    simp only [nhF]
    by_cases e : s 729 g = 35
    · rw [if_pos e, if_pos e]
    · rw [if_neg e, if_neg e]
      by_cases e2 : s 729 g = 38 ∨ s 729 g = 124
      · rw [if_pos e2, if_pos e2]
        obtain ⟨a, b, d, r1, r2, _, r4, _⟩ := h g hg
        have := r4 e2
        rw [r1, r2, nI_clamp (by omega), nI_clamp (by omega), ih m a (by omega) (by omega) (by omega), ih m b (by omega) (by omega) (by omega)]
      · rw [if_neg e2, if_neg e2]
theorem nhF_ext {s t : rSg} {T G : Nat} (h : hpG s T G) (hG : G < 2 ^ 31) (e : ∀ j, j < G → t 729 j = s 729 j ∧ t 730 j = s 730 j ∧ t 731 j = s 731 j ∧ t 732 j = s 732 j) : ∀ (n g : Nat), g < G → nhF t n g = nhF s n g := by
  intro n
  induction n with
  | zero => intro g _; rfl
  | succ n ih =>
    intro g hg
    have q := e g hg
    simp only [nhF, q.1, q.2.1, q.2.2.1]
    by_cases e1 : s 729 g = 35
    · rw [if_pos e1, if_pos e1]
    · rw [if_neg e1, if_neg e1]
      by_cases e2 : s 729 g = 38 ∨ s 729 g = 124
      · rw [if_pos e2, if_pos e2]
        obtain ⟨a, b, d, r1, r2, _, r4, _⟩ := h g hg
        have := r4 e2
        rw [r1, r2, nI_clamp (by omega), nI_clamp (by omega), ih a (by omega), ih b (by omega)]
      · rw [if_neg e2, if_neg e2]
theorem nh_two {s : rSg} {T G : Nat} (h : hpG s T G) (hG : G < 2 ^ 31) {g a b : Nat} (hg : g < G) (ht : two2 (s 729 g)) (ha : s 730 g = nI a) (hb : s 731 g = nI b) (la : a < g) (lb : b < g) : nh s g = nh s a + nh s b := by
  have e1 : ¬ s 729 g = 35 := by rcases ht with q | q <;> rw [q] <;> decide
  unfold nh
  rw [show nhF s (g + 1) g = nhF s g (s 730 g).toNatClampNeg + nhF s g (s 731 g).toNatClampNeg by simp only [nhF]; rw [if_neg e1, if_pos (show s 729 g = 38 ∨ s 729 g = 124 from ht)], ha, hb, nI_clamp (by omega), nI_clamp (by omega), nhF_stab h hG g (a + 1) a (by omega) la (by omega), nhF_stab h hG g (b + 1) b (by omega) lb (by omega)]
theorem nh_hash {s : rSg} {g : Nat} (h : s 729 g = 35) : nh s g = 1 := by
  unfold nh
  simp only [nhF]
  rw [if_pos h]
theorem nh_none {s : rSg} {g : Nat} (h1 : ¬ s 729 g = 35) (h2 : ¬ two2 (s 729 g)) : nh s g = 0 := by
  unfold nh
  simp only [nhF]
  rw [if_neg h1, if_neg (show ¬ (s 729 g = 38 ∨ s 729 g = 124) from h2)]
def nhs (s : rSg) (gs : List Nat) : Nat := (gs.map (nh s)).sum
theorem nhs_cons (s : rSg) (g : Nat) (gs : List Nat) : nhs s (g :: gs) = nh s g + nhs s gs := by simp [nhs]
theorem dol_mem {s : rSg} {G L : Nat} : ∀ {gs : List Nat} {l : Nat}, dol s G L l gs → ∀ g ∈ gs, g < G
  | [], _, _, g, hg => by cases hg
  | x :: gs, l, ⟨_, _, _, h4, r, _, _, h7⟩, g, hg => by
    rcases List.mem_cons.mp hg with rfl | hg
    · exact h4
    · exact dol_mem h7 g hg
theorem nh_ext {s t : rSg} {T G : Nat} (h : hpG s T G) (hG : G < 2 ^ 31) (e : ∀ j, j < G → t 729 j = s 729 j ∧ t 730 j = s 730 j ∧ t 731 j = s 731 j ∧ t 732 j = s 732 j) {g : Nat} (hg : g < G) : nh t g = nh s g := by
  unfold nh
  exact nhF_ext h hG e (g + 1) g hg
theorem nhs_congr {s t : rSg} : ∀ {gs : List Nat}, (∀ g ∈ gs, nh t g = nh s g) → nhs t gs = nhs s gs := by
  intro gs h
  unfold nhs
  rw [List.map_congr_left h]
theorem nhs_ext {s t : rSg} {T G : Nat} (h : hpG s T G) (hG : G < 2 ^ 31) (e : ∀ j, j < G → t 729 j = s 729 j ∧ t 730 j = s 730 j ∧ t 731 j = s 731 j ∧ t 732 j = s 732 j) {gs : List Nat} (hg : ∀ g ∈ gs, g < G) : nhs t gs = nhs s gs := nhs_congr (fun g hm => nh_ext h hG e (hg g hm))
/-! bindings that are kept in a row -/
def ldF (f : Nat → Int32) : Nat → Int32 := fun j => if j < 64 then f j else -9
def evF (f : Nat → Int32) : Prop := ∀ j, j < 64 → f j = -9 ∨ ∃ c, f j = nI (2 * c) ∧ c < 100000
def bRow (s : rSg) (T : Nat) (f : Nat → Int32) : Prop := mSt (upC s 736 (ldF f)) T ∧ evF f
theorem rk_max (rk : Nat → Nat) : ∀ n, ∃ M, ∀ c, c < n → rk c ≤ M
  | 0 => ⟨0, fun c h => by omega⟩
  | n + 1 => by
    obtain ⟨M, h⟩ := rk_max rk n
    refine ⟨M + rk n, fun c hc => ?_⟩
    by_cases e : c = n
    · subst e; omega
    · have := h c (by omega); omega
/-- the same bindings, fewer or as many, in a higher heap -/
theorem mSt_grow {s t : rSg} {T T2 : Nat} (h : mSt s T) (hT : T ≤ T2) (hT2 : T2 ≤ 6000) (hP : hpP t T2) (e : ∀ j, j < T → t 727 j = s 727 j ∧ t 728 j = s 728 j) (eb : ∀ j, j < 128 → t 736 j = s 736 j ∨ t 736 j = -9) : mSt t T2 := by
  obtain ⟨⟨w1, w2, w3, w4⟩, rk, hok⟩ := h
  have w4' : ∀ i, i < 128 → t 736 i = -9 ∨ ∃ c, t 736 i = nI c ∧ c < 2 * T := fun i hi => by
    rcases eb i hi with q | q
    · rw [q]; exact w4 i hi
    · exact Or.inl q
  refine ⟨⟨by omega, hT2, fun q h1 h2 => ?_, fun i hi => ?_⟩, ?_⟩
  · obtain ⟨a, b, r1, r2, r3, r4⟩ := hP q h1 h2
    exact ⟨a, b, r1, r2, by omega, by omega⟩
  · rcases w4' i hi with q | ⟨c, q, hc⟩
    · exact Or.inl q
    · exact Or.inr ⟨c, q, by omega⟩
  · obtain ⟨M, hM⟩ := rk_max rk (2 * T)
    refine ⟨fun c => if c < 2 * T then rk c else M + 1 + c, fun c hc => ?_⟩
    have hc : c < 2 * T2 := hc
    by_cases h1 : c / 2 < 64
    · have c2 : c < 2 * T := by omega
      have hvar : mV t c = none ∨ ∃ x, x < 2 * T ∧ mV t c = some (.inl x) ∧ mV s c = some (.inl x) := by
        unfold mV
        rw [if_pos h1, if_pos h1]
        rcases eb _ (opn_lt h1) with q | q
        · rw [q]
          rcases w4 _ (opn_lt h1) with g | ⟨x, g, hx⟩
          · rw [g, if_pos (by decide)]; exact Or.inl rfl
          · rw [g, if_neg (nI_pos (by omega)), nI_clamp (by omega)]; exact Or.inr ⟨x, hx, rfl, rfl⟩
        · rw [q, if_pos (by decide)]; exact Or.inl rfl
      rcases hvar with q | ⟨x, hx, q, q2⟩
      · rw [q]; exact ⟨fun _ z => (by cases z), fun _ z => (by cases z), fun _ _ z => (by cases z)⟩
      · rw [q]
        refine ⟨fun y z => ?_, fun _ z => (by cases z), fun _ _ z => (by cases z)⟩
        cases z
        have := (hok c c2).1 x q2
        refine ⟨show x < 2 * T2 by omega, ?_⟩
        simp only
        rw [if_pos hx, if_pos c2]
        exact this.2
    · by_cases h2 : c / 2 < 75
      · rw [mV_atom (by omega) h2]
        exact ⟨fun _ z => (by cases z), fun n z => (by cases z; omega), fun _ _ z => (by cases z)⟩
      · obtain ⟨a, b, r1, r2, r3, r4⟩ := hP (c / 2) (by omega) (by omega)
        have ev : mV t c = some (.inr (.inr (2 * a + c % 2, 2 * b + c % 2))) := by
          unfold mV
          rw [if_neg h1, if_neg h2, r1, r2, nI_clamp (by omega), nI_clamp (by omega)]
        rw [ev]
        refine ⟨fun _ z => (by cases z), fun _ z => (by cases z), fun x y z => ?_⟩
        cases z
        simp only
        by_cases c2 : c < 2 * T
        · have ev2 : mV s c = some (.inr (.inr (2 * a + c % 2, 2 * b + c % 2))) := by
            have := e (c / 2) (by omega)
            unfold mV
            rw [if_neg h1, if_neg h2, ← this.1, ← this.2, r1, r2, nI_clamp (by omega), nI_clamp (by omega)]
          have := (hok c c2).2.2 _ _ ev2
          have q1 : 2 * a + c % 2 < 2 * T := by omega
          have q2 : 2 * b + c % 2 < 2 * T := by omega
          rw [if_pos q1, if_pos q2, if_pos c2]
          exact ⟨⟨show _ < 2 * T2 by omega, this.1.2⟩, ⟨show _ < 2 * T2 by omega, this.2.2⟩⟩
        · rw [if_neg c2]
          refine ⟨⟨show _ < 2 * T2 by omega, ?_⟩, ⟨show _ < 2 * T2 by omega, ?_⟩⟩
          · split
            · next q => have := hM _ q; omega
            · omega
          · split
            · next q => have := hM _ q; omega
            · omega
theorem bRow_of {s : rSg} {T : Nat} (h : mSt s T) (hP : hpP s T) (he : evR s) : bRow s T (s 736) := by
  refine ⟨mSt_grow h (Nat.le_refl _) h.1.2.1 (hP.ext (fun j _ => ?_)) (fun j _ => ?_) (fun j hj => ?_), fun j hj => he j (by omega)⟩
  · rw [upC_ne _ _ (by decide), upC_ne _ _ (by decide)]; exact ⟨rfl, rfl⟩
  · rw [upC_ne _ _ (by decide), upC_ne _ _ (by decide)]; exact ⟨rfl, rfl⟩
  · rw [upC_same]
    unfold ldF
    split
    · exact Or.inl rfl
    · exact Or.inr rfl
theorem bRow_ext {s t : rSg} {T T2 : Nat} {f f2 : Nat → Int32} (h : bRow s T f) (hT : T ≤ T2) (hT2 : T2 ≤ 6000) (hP : hpP t T2) (e : ∀ j, j < T → t 727 j = s 727 j ∧ t 728 j = s 728 j) (ef : ∀ j, j < 64 → f2 j = f j) : bRow t T2 f2 := by
  refine ⟨mSt_grow h.1 hT hT2 (hP.ext (fun j _ => ?_)) (fun j hj => ?_) (fun j hj => ?_), fun j hj => by rw [ef j hj]; exact h.2 j hj⟩
  · rw [upC_ne _ _ (by decide), upC_ne _ _ (by decide)]; exact ⟨rfl, rfl⟩
  · rw [upC_ne _ _ (by decide), upC_ne _ _ (by decide), upC_ne _ _ (by decide), upC_ne _ _ (by decide)]; exact e j hj
  · rw [upC_same, upC_same]
    unfold ldF
    by_cases q : j < 64
    · rw [if_pos q, if_pos q, ef j q]; exact Or.inl rfl
    · rw [if_neg q, if_neg q]; exact Or.inl rfl
theorem bRow_load {s t : rSg} {T : Nat} {f : Nat → Int32} (h : bRow s T f) (hP : hpP t T) (e : ∀ j, j < T → t 727 j = s 727 j ∧ t 728 j = s 728 j) (ef : ∀ j, j < 128 → t 736 j = ldF f j) : mSt t T := by
  refine mSt_grow h.1 (Nat.le_refl _) h.1.1.2.1 hP (fun j hj => ?_) (fun j hj => ?_)
  · rw [upC_ne _ _ (by decide), upC_ne _ _ (by decide)]; exact e j hj
  · rw [upC_same]; exact Or.inl (ef j hj)
theorem bRow_ev {s t : rSg} {T : Nat} {f : Nat → Int32} (h : bRow s T f) (ef : ∀ j, j < 128 → t 736 j = ldF f j) : evR t := fun j hj => by
  rw [ef j hj]
  unfold ldF
  split
  · next q => exact h.2 j q
  · exact Or.inl rfl
