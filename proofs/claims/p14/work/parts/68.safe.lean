/-! SAFETY OF THE CLASS: its methods end whatever the numbers in its cells are; which cells stay; how often it looked -/
theorem nn_of {x : Int32} (h : ¬ x < 0) : ∃ n : Nat, n < 2 ^ 31 ∧ x = nI n := by
  have h0 : 0 ≤ x.toInt := by
    have h2 : ¬ x.toInt < (0 : Int32).toInt := fun q => h (Int32.lt_iff_toInt_lt.mpr q)
    have h3 : (0 : Int32).toInt = 0 := rfl
    omega
  have h1 := x.toInt_lt
  refine ⟨x.toInt.toNat, by omega, ?_⟩
  apply Int32.toInt_inj.mp
  show x.toInt = (Int32.ofNat x.toInt.toNat).toInt
  rw [Int32.toInt_ofNat_of_lt (by omega)]
  omega
theorem rIn_of {x : Int32} {n : Nat} (hn : n < 2 ^ 31) (h0 : ¬ x < 0) (h1 : ¬ nI n ≤ x) : rIn x n = true := by
  obtain ⟨k, hk, rfl⟩ := nn_of h0
  have : ¬ n ≤ k := fun q => h1 ((nI_leI hn hk).mpr q)
  exact rIn_nI (by omega) hn
theorem nn_lt {x : Int32} {n : Nat} (hn : n < 2 ^ 31) (h0 : ¬ x < 0) (h1 : ¬ nI n ≤ x) : ∃ k, k < n ∧ x = nI k := by
  obtain ⟨k, hk, rfl⟩ := nn_of h0
  have : ¬ n ≤ k := fun q => h1 ((nI_leI hn hk).mpr q)
  exact ⟨k, by omega, rfl⟩
/-- the cells with B stay -/
def bt (B : Nat → Prop) (s t : rSg) : Prop := ∀ q, B q → t q = s q
theorem bt.rfl' {B : Nat → Prop} {s : rSg} : bt B s s := fun _ _ => rfl
theorem bt.trans {B : Nat → Prop} {a b c : rSg} (h1 : bt B a b) (h2 : bt B b c) : bt B a c := fun q hq => (h2 q hq).trans (h1 q hq)
theorem bt.mono {B C : Nat → Prop} {s t : rSg} (h : bt B s t) (hs : ∀ q, C q → B q) : bt C s t := fun q hq => h q (hs q hq)
theorem bt.up {B : Nat → Prop} {s t : rSg} {k j : Nat} {x : Int32} (h : bt B s t) (hk : ¬ B k) : bt B s (up2 t k j x) := fun q hq => by
  have hne : q ≠ k := fun e => hk (e ▸ hq)
  rw [up2_nk _ _ _ hne]
  exact h q hq
theorem bt.upC {B : Nat → Prop} {s t : rSg} {k : Nat} {f : Nat → Int32} (h : bt B s t) (hk : ¬ B k) : bt B s (upC t k f) := fun q hq => by
  have hne : q ≠ k := fun e => hk (e ▸ hq)
  rw [upC_ne _ _ hne]
  exact h q hq
/-- it looked at most D times more -/
def LK (D : Nat) (s t : rSg) : Prop := ∀ l, cSn s l → ∃ m, m ≤ l + D ∧ cSn t m
theorem LK.rfl' {s : rSg} : LK 0 s s := fun l h => ⟨l, Nat.le_refl _, h⟩
theorem LK.mono {D E : Nat} {s t : rSg} (h : LK D s t) (hd : D ≤ E) : LK E s t := fun l hl => by
  obtain ⟨m, h1, h2⟩ := h l hl
  exact ⟨m, by omega, h2⟩
theorem LK.trans {D E : Nat} {s t u : rSg} (h : LK D s t) (g : LK E t u) : LK (D + E) s u := fun l hl => by
  obtain ⟨m, h1, h2⟩ := h l hl
  obtain ⟨n, h3, h4⟩ := g m h2
  exact ⟨n, by omega, h4⟩
theorem LK.of {s t : rSg} (h1 : t 1 4 = s 1 4) (h5 : t 5 = s 5) : LK 0 s t := fun l hl => ⟨l, Nat.le_refl _, h1.trans hl.1, fun j hj => by rw [h5]; exact hl.2 j hj⟩
theorem LK.bt {B : Nat → Prop} {s t : rSg} (h : bt B s t) (b1 : B 1) (b5 : B 5) : LK 0 s t := LK.of (by rw [h 1 b1]) (h 5 b5)
theorem clampI (x : Int32) {m : Nat} (hm : m < 2 ^ 31) : ∃ v, v ≤ m ∧ imin (imax x 0) (nI m) = nI v := by
  by_cases h : x < 0
  · refine ⟨0, Nat.zero_le _, ?_⟩
    have e : imax x 0 = nI 0 := by unfold imax; rw [if_pos h]; rfl
    rw [e]
    unfold imin
    by_cases q : nI m < nI 0
    · exact absurd ((nI_ltI hm (by decide)).mp q) (by omega)
    · rw [if_neg q]
  · obtain ⟨n, hn, rfl⟩ := nn_of h
    have e : imax (nI n) 0 = nI n := by unfold imax; rw [if_neg h]
    rw [e]
    unfold imin
    by_cases q : nI m < nI n
    · exact ⟨m, Nat.le_refl _, if_pos q⟩
    · refine ⟨n, ?_, if_neg q⟩
      have : ¬ m < n := fun g => q ((nI_ltI hm hn).mpr g)
      omega
/-! states -/
abbrev stB (k : Nat) : Nat → Prop := fun q => q < k ∨ k + 2 < q
theorem s_51 {k : Nat} (hk : isSt k) (s : rSg) : EvS rSkel 2 51 [.inr (.inr (some k))] s (fun v t => v = none ∧ bt (stB k) s t) := by
  refine (c_reset (Sk := rSkel) hk s).imp ?_
  rintro _ t ⟨rfl, h, _⟩
  exact ⟨rfl, fun q hq => h q (by omega) (by omega)⟩
theorem s_52 {k : Nat} (hk : isSt k) (s : rSg) (x : Int32) : EvS rSkel 1 52 [.inr (.inr (some k)), .inl x] s (fun v t => v = none ∧ bt (stB k) s t) :=
  w_52 s k hk x ⟨fun _ => ⟨rfl, bt.rfl'⟩, fun h0 => ⟨fun _ => ⟨rfl, bt.rfl'⟩, fun h1 => ⟨rIn_of (n := 32) (by decide) h0 h1, rfl, (bt.rfl'.up (by omega)).up (by omega)⟩⟩⟩
theorem s_53 {k k2 : Nat} (hk : isSt k) (hk2 : isSt k2) (hkk : k + 2 < k2 ∨ k2 + 2 < k) (s : rSg) : EvS rSkel 1 53 [.inr (.inr (some k)), .inr (.inr (some k2))] s (fun v t => v = none ∧ bt (stB k) s t) := by
  obtain ⟨a, ha, ea⟩ := clampI (s k2 2) (m := 64) (by decide)
  obtain ⟨c, hc, ec⟩ := clampI (s k2 3) (m := 32) (by decide)
  have ea : imin (imax (s k2 2) 0) 64 = nI a := ea
  have ec : imin (imax (s k2 3) 0) 32 = nI c := ec
  refine w_53 s k hk k2 hk2 hkk ?_
  rw [ea, ec, nI_clamp (by omega), nI_clamp (by omega), cl0]
  exact ⟨⟨by decide, by decide, nI_pos (by omega), by omega, by omega⟩, ⟨by decide, by decide, nI_pos (by omega), by omega, by omega⟩, rfl, ((((bt.rfl'.up (by omega)).up (by omega)).up (by omega)).upC (by omega)).upC (by omega)⟩
theorem s_54 {k : Nat} (hk : isSt k) (s : rSg) : EvS rSkel 1 54 [.inr (.inr (some k))] s (fun v t => ∃ n, v = some (.inl n) ∧ bt (stB k) s t) := by
  refine w_54 s k hk ⟨fun _ => ⟨_, rfl, bt.rfl'⟩, fun h0 => ⟨fun h1 => ?_, fun _ => ⟨_, rfl, bt.rfl'⟩⟩⟩
  refine ⟨?_, _, rfl, bt.rfl'.up (by omega)⟩
  have hp : ¬ s k 3 < 0 := fun q => h0 (Int32.lt_iff_toInt_lt.mpr (by have := Int32.lt_iff_toInt_lt.mp q; have e0 : (0 : Int32).toInt = 0 := rfl; have e1 : (1 : Int32).toInt = 1 := rfl; omega))
  obtain ⟨n, hn, e⟩ := nn_of hp
  rw [e] at h0 h1 ⊢
  have n0 : n ≠ 0 := fun q => h0 (by rw [q]; decide)
  have n1 : n ≤ 32 := (nI_leI hn (b := 32) (by decide)).mp h1
  obtain ⟨j, rfl⟩ : ∃ j, n = j + 1 := ⟨n - 1, by omega⟩
  rw [show nI (j + 1) - 1 = nI j from nI_pred j]
  exact rIn_nI (by omega) (by decide)
theorem s_55 {k : Nat} (hk : isSt k) (s : rSg) (x : Int32) : EvS rSkel 1 55 [.inr (.inr (some k)), .inl x] s (fun v t => v = none ∧ bt (stB k) s t) :=
  w_55 s k hk x ⟨fun _ => ⟨rfl, bt.rfl'⟩, fun _ => ⟨fun _ => ⟨rfl, bt.rfl'⟩, fun _ => ⟨rfl, bt.rfl'.up (by omega)⟩⟩⟩
theorem s_56 {k : Nat} (hk : isSt k) (s : rSg) : EvS rSkel 1 56 [.inr (.inr (some k))] s (fun v t => ∃ n, v = some (.inl n) ∧ bt (stB k) s t) :=
  w_56 s k hk ⟨fun _ => ⟨_, rfl, bt.rfl'⟩, fun h0 => ⟨fun h1 => ⟨rIn_of (n := 64) (by decide) h0 (Int32.not_le.mpr h1), _, rfl, (bt.rfl'.up (by omega)).up (by omega)⟩, fun _ => ⟨_, rfl, bt.rfl'⟩⟩⟩
/-! the script -/
abbrev scB (k : Nat) : Nat → Prop := fun q => q < k ∨ k + 3 < q
theorem s_20 {k : Nat} (hk : isScr k) (s : rSg) : EvS rSkel 1 20 [.inr (.inr (some k))] s (fun v t => v = none ∧ bt (scB k) s t) := w_20 s k hk ⟨rfl, (bt.rfl'.up (by omega)).up (by omega)⟩
theorem s_21 {k : Nat} (hk : isScr k) (s : rSg) (x : Int32) : EvS rSkel 1 21 [.inr (.inr (some k)), .inl x] s (fun v t => ∃ n, v = some (.inl n) ∧ bt (scB k) s t) :=
  w_21 s k hk x ⟨fun _ => ⟨_, rfl, bt.rfl'⟩, fun h0 => ⟨fun h1 => ⟨rIn_of (n := 326) (by decide) h0 (Int32.not_le.mpr h1), _, rfl, (bt.rfl'.up (by omega)).up (by omega)⟩, fun _ => ⟨_, rfl, bt.rfl'⟩⟩⟩
theorem r3 {x y : Int32} (h0 : ¬ x < 0) (h1 : ¬ nI 326 ≤ x) (g0 : ¬ y < 0) (g1 : ¬ nI 3 ≤ y) : rIn (3 * x + y) 978 = true := by
  obtain ⟨a, ha, rfl⟩ := nn_lt (by decide) h0 h1
  obtain ⟨c, hc, rfl⟩ := nn_lt (by decide) g0 g1
  rw [show (3 : Int32) * nI a + nI c = nI (3 * a + c) by rw [show (3 : Int32) = nI 3 from rfl, pk_mul, nI_add]]
  exact rIn_nI (by omega) (by decide)
theorem s_22 {k : Nat} (hk : isScr k) (s : rSg) (x y z : Int32) : EvS rSkel 1 22 [.inr (.inr (some k)), .inl x, .inl y, .inl z] s (fun v t => v = none ∧ bt (scB k) s t) :=
  w_22 s k hk x y z ⟨fun _ => ⟨rfl, bt.rfl'⟩, fun h0 => ⟨fun _ => ⟨rfl, bt.rfl'⟩, fun h1 => ⟨fun _ => ⟨rfl, bt.rfl'⟩, fun h2 => ⟨fun _ => ⟨rfl, bt.rfl'⟩, fun h3 => ⟨r3 h0 h1 h2 h3, rfl, bt.rfl'.up (by omega)⟩⟩⟩⟩⟩
theorem s_23 {k : Nat} (hk : isScr k) (s : rSg) (x y : Int32) : EvS rSkel 1 23 [.inr (.inr (some k)), .inl x, .inl y] s (fun v t => ∃ n, v = some (.inl n) ∧ bt (scB k) s t) := by
  refine w_23 s k hk x y ⟨fun _ => ⟨_, rfl, bt.rfl'⟩, fun h0 => ⟨fun h1 => ?_, fun _ => ⟨_, rfl, bt.rfl'⟩⟩⟩
  obtain ⟨a, ha, e⟩ := nn_lt (n := 640) (by decide) h0 (Int32.not_le.mpr h1)
  refine ⟨?_, ?_, _, rfl, ((bt.rfl'.up (by omega)).up (by omega)).up (by omega)⟩
  · rw [e, show (2 : Int32) * nI a = nI (2 * a) by rw [show (2 : Int32) = nI 2 from rfl, pk_mul]]
    exact rIn_nI (by omega) (by decide)
  · rw [e, show (2 : Int32) * nI a = nI (2 * a) by rw [show (2 : Int32) = nI 2 from rfl, pk_mul], nI_1]
    exact rIn_nI (by omega) (by decide)
theorem s_24 {k : Nat} (hk : isScr k) (s : rSg) (x y z : Int32) : EvS rSkel 1 24 [.inr (.inr (some k)), .inl x, .inl y, .inl z] s (fun v t => v = none ∧ bt (scB k) s t) :=
  w_24 s k hk x y z ⟨fun _ => ⟨rfl, bt.rfl'⟩, fun _ => ⟨fun _ => ⟨rfl, bt.rfl'⟩, fun _ => ⟨fun _ => ⟨rfl, bt.rfl'⟩, fun h2 => ⟨fun _ => ⟨rfl, bt.rfl'⟩, fun h3 => ⟨rIn_of (n := 1280) (by decide) h2 h3, rfl, bt.rfl'.up (by omega)⟩⟩⟩⟩⟩
theorem s_25 {k : Nat} (hk : isScr k) (s : rSg) (x y : Int32) : EvS rSkel 1 25 [.inr (.inr (some k)), .inl x, .inl y] s (fun v t => v = none ∧ bt (scB k) s t) := w_25 s k hk x y ⟨rfl, (((bt.rfl'.up (by omega)).up (by omega)).up (by omega)).up (by omega)⟩
theorem s_27 {k k2 : Nat} (hk : isScr k) (hk2 : isScr k2) (hkk : k + 3 < k2 ∨ k2 + 3 < k) (s : rSg) (x y : Int32) : EvS rSkel 1 27 [.inr (.inr (some k)), .inr (.inr (some k2)), .inl x, .inl y] s (fun v t => v = none ∧ bt (scB k) s t) := by
  obtain ⟨a, ha, ea⟩ := clampI x (m := 326) (by decide)
  obtain ⟨c, hc, ec⟩ := clampI y (m := 640) (by decide)
  have ea : imin (imax x 0) 326 = nI a := ea
  have ec : imin (imax y 0) 640 = nI c := ec
  refine w_27 s k hk k2 hk2 hkk x y ?_
  rw [ea, ec, show (3 : Int32) * nI a = nI (3 * a) by rw [show (3 : Int32) = nI 3 from rfl, pk_mul], show (2 : Int32) * nI c = nI (2 * c) by rw [show (2 : Int32) = nI 2 from rfl, pk_mul], nI_clamp (by omega), nI_clamp (by omega), nI_clamp (by omega), cl0]
  exact ⟨⟨by decide, by decide, nI_pos (by omega), by omega, by omega⟩, ⟨by decide, by decide, nI_pos (by omega), by omega, by omega⟩, ⟨by decide, by decide, nI_pos (by omega), by omega, by omega⟩, rfl, ((((((((bt.rfl'.up (by omega)).up (by omega)).upC (by omega)).upC (by omega)).upC (by omega)).up (by omega)).up (by omega)).up (by omega)).up (by omega)⟩
theorem s_26 {k k2 : Nat} (hk : isScr k) (hk2 : isScr k2) (hkk : k + 3 < k2 ∨ k2 + 3 < k) (s : rSg) : EvS rSkel 2 26 [.inr (.inr (some k)), .inr (.inr (some k2))] s (fun v t => v = none ∧ bt (scB k) s t) := by
  refine w_26 s k hk k2 hk2 hkk ((s_27 hk hk2 hkk s _ _).imp ?_)
  rintro _ t ⟨rfl, h⟩
  exact ⟨rfl, rfl, h⟩
theorem s_31 {k k2 : Nat} (hk : isScr k) (hk2 : isScr k2) (hkk : k + 3 < k2 ∨ k2 + 3 < k) (s : rSg) : EvS rSkel 2 31 [.inr (.inr (some k)), .inr (.inr (some k2))] s (fun v t => v = none ∧ bt (scB k) s t) := by
  refine w_31 s k hk k2 hk2 hkk ((s_27 hk hk2 hkk s _ _).imp ?_)
  rintro _ t ⟨rfl, h⟩
  exact ⟨rfl, rfl, h⟩
theorem s_28 {k : Nat} (hk : isScr k) (s : rSg) (x y : Int32) : EvS rSkel 1 28 [.inr (.inr (some k)), .inl x, .inl y] s (fun v t => ∃ n, v = some (.inl n) ∧ t = s) :=
  w_28 s k hk x y ⟨fun _ => ⟨_, rfl, rfl⟩, fun h0 => ⟨fun _ => ⟨_, rfl, rfl⟩, fun h1 => ⟨fun _ => ⟨_, rfl, rfl⟩, fun h2 => ⟨fun _ => ⟨_, rfl, rfl⟩, fun h3 => ⟨r3 h0 h1 h2 h3, _, rfl, rfl⟩⟩⟩⟩⟩
theorem s_29 {k : Nat} (hk : isScr k) (s : rSg) (x : Int32) : EvS rSkel 1 29 [.inr (.inr (some k)), .inl x] s (fun v t => ∃ n, v = some (.inl n) ∧ t = s) :=
  w_29 s k hk x ⟨fun _ => ⟨_, rfl, rfl⟩, fun h0 => ⟨fun _ => ⟨_, rfl, rfl⟩, fun h1 => ⟨rIn_of (n := 326) (by decide) h0 h1, _, rfl, rfl⟩⟩⟩
theorem s_78 (s : rSg) (x : Int32) : EvS rSkel 1 78 [.inl x] s (fun v t => ∃ n, v = some (.inl n) ∧ t = s) := w_78 s x ⟨fun _ => ⟨fun _ => ⟨_, rfl, rfl⟩, fun _ => ⟨fun _ => ⟨_, rfl, rfl⟩, fun _ => ⟨_, rfl, rfl⟩⟩⟩, fun _ => ⟨_, rfl, rfl⟩⟩
theorem s_30b {k : Nat} (hk : isScr k) (s : rSg) (y2 y3 z0 z1 z2 : Int32) : g_30_28 k y2 y3 z0 z1 z2 s (fun v t => ∃ n, v = some (.inl n) ∧ t = s) := by
  refine w_30_28 s k hk y2 y3 z0 z1 z2 ⟨fun _ => ⟨_, rfl, rfl⟩, fun _ => ⟨fun _ => ⟨_, rfl, rfl⟩, fun _ => ⟨fun _ => ⟨_, rfl, rfl⟩, fun h0 => ⟨fun h1 => ?_, fun _ => ⟨_, rfl, rfl⟩⟩⟩⟩⟩
  have hr := rIn_of (n := 1280) (by decide) h0 (Int32.not_le.mpr h1)
  refine ⟨fun _ => ⟨hr, _, rfl, rfl⟩, fun _ => ⟨hr, (s_78 s _).imp ?_⟩⟩
  rintro _ _ ⟨n, rfl, rfl⟩
  exact ⟨_, rfl, _, rfl, rfl⟩
theorem s_30 {k : Nat} (hk : isScr k) (s : rSg) (x y : Int32) : EvS rSkel 2 30 [.inr (.inr (some k)), .inl x, .inl y] s (fun v t => ∃ n, v = some (.inl n) ∧ t = s) := w_30 s k hk x y ⟨fun _ => s_30b hk s _ _ _ _ _, fun _ => s_30b hk s _ _ _ _ _⟩
theorem s_74 (s : rSg) (x : Int32) : EvS rSkel 1 74 [.inl x] s (fun v t => ∃ n, v = some (.inl n) ∧ t = s) := w_74 s x ⟨fun _ => ⟨_, rfl, rfl⟩, fun _ => ⟨_, rfl, rfl⟩⟩
theorem s_77 (s : rSg) (x : Int32) : EvS rSkel 1 77 [.inl x] s (fun v t => ∃ n, v = some (.inl n) ∧ t = s) := w_77 s x ⟨fun _ => ⟨_, rfl, rfl⟩, fun _ => ⟨fun _ => ⟨_, rfl, rfl⟩, fun _ => ⟨_, rfl, rfl⟩⟩⟩
theorem s_76b {kb nb : Nat} (hkb : isArr kb nb) (hnb : nb < 2 ^ 31) {s : rSg} {P : Option rv → rSg → Prop} (hP : ∀ n, P (some (.inl n)) s) : ∀ (m y : Nat) (x : Int32), y + m = 128 → g_76_4 kb nb x (nI y) s P := by
  intro m
  induction m with
  | zero =>
    intro y x hy
    obtain rfl : y = 128 := by omega
    exact w_76_4 s kb nb hkb x (nI 128) ⟨fun _ => hP _, fun q => absurd (by decide) q⟩
  | succ m ih =>
    intro y x hy
    refine w_76_4 s kb nb hkb x (nI y) ⟨fun _ => hP _, fun _ => ⟨fun _ => hP _, fun h0 => ⟨fun _ => hP _, fun _ => ⟨fun _ => hP _, fun h1 => ?_⟩⟩⟩⟩
    have hr := rIn_of hnb h0 h1
    refine ⟨hr, fun _ => ⟨hr, ?_⟩, fun _ => hP _⟩
    rw [nI_1]
    exact ih (y + 1) _ (by omega)
theorem s_76 {kb nb : Nat} (hkb : isArr kb nb) (hnb : nb < 2 ^ 31) (s : rSg) (x : Int32) : EvS rSkel 1 76 [.inr (.inr (some kb)), .inl x] s (fun v t => ∃ n, v = some (.inl n) ∧ t = s) := w_76 s kb nb hkb x (s_76b hkb hnb (fun n => ⟨n, rfl, rfl⟩) 128 0 x rfl)
