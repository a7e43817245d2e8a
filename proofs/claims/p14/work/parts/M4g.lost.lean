/-! LOST UNFOLDS: a letter told once, in one name of its level alone -/
theorem sub_len : ∀ (S L : List Nat), S.Nodup → (∀ y ∈ S, y ∈ L) → S.length ≤ L.length
  | [], _, _, _ => Nat.zero_le _
  | x :: S, L, hn, hs => by
    rw [List.nodup_cons] at hn
    have hx := hs x List.mem_cons_self
    have h1 := sub_len S (L.erase x) hn.2 (fun y hy => (List.mem_erase_of_ne (fun q => hn.1 (by rw [← q]; exact hy))).mpr (hs y (List.mem_cons_of_mem _ hy)))
    rw [List.length_erase_of_mem hx] at h1
    have : 0 < L.length := List.length_pos_of_mem hx
    simp only [List.length_cons]
    omega
theorem map_nodup {f : Nat → Nat} : ∀ {S : List Nat}, S.Nodup → (∀ x ∈ S, ∀ y ∈ S, f x = f y → x = y) → (S.map f).Nodup
  | [], _, _ => List.nodup_nil
  | x :: S, hS, hf => by
    rw [List.map_cons, List.nodup_cons]
    rw [List.nodup_cons] at hS
    refine ⟨fun q => ?_, map_nodup hS.2 (fun a ha b hb => hf a (List.mem_cons_of_mem _ ha) b (List.mem_cons_of_mem _ hb))⟩
    obtain ⟨y, hy, e⟩ := List.mem_map.mp q
    have := hf y (List.mem_cons_of_mem _ hy) x List.mem_cons_self e
    exact hS.1 (this ▸ hy)
theorem lnk_map {E : List (Nat × Nat)} (f : Nat → Nat) : ∀ {n x y : Nat}, lnk E n x y → lnk (E.map (fun e => (f e.1, f e.2))) n (f x) (f y)
  | 0, x, y, h => by
    have h : x = y := h
    rw [h]
    rfl
  | n + 1, x, y, ⟨u, g1, g2⟩ => by
    refine ⟨f u, lnk_map f g1, ?_⟩
    rcases g2 with g2 | g2
    · exact Or.inl (List.mem_map.mpr ⟨_, g2, rfl⟩)
    · exact Or.inr (List.mem_map.mpr ⟨_, g2, rfl⟩)
/-- when there are as many as there can be, there are no others -/
theorem lnk_full {E : List (Nat × Nat)} {A S : List Nat} (f : Nat → Nat) (hS : S.Nodup) (hf : ∀ x ∈ S, ∀ y ∈ S, f x = f y → x = y) (hl : ∀ x ∈ S, ∃ a ∈ A, Lnk E a x) (hm : A.length + (E.map (fun e => (f e.1, f e.2))).countP (fun e => decide (e.1 ≠ e.2)) ≤ S.length) {x : Nat} (hx : ∃ a ∈ A, Lnk E a x) : ∃ s ∈ S, f x = f s := by
  obtain ⟨L, h1, h2, h3⟩ := clo_ex (A.map f) (E.map (fun e => (f e.1, f e.2)))
  rw [List.length_map] at h3
  have hin : ∀ z, (∃ a ∈ A, Lnk E a z) → f z ∈ L := by
    rintro z ⟨a, ha, n, hn⟩
    exact lnk_clo h2 (h1 _ (List.mem_map.mpr ⟨a, ha, rfl⟩)) (lnk_map f hn)
  refine Classical.byContradiction (fun hno => ?_)
  have hnd : (f x :: S.map f).Nodup := by
    rw [List.nodup_cons]
    refine ⟨fun q => ?_, map_nodup hS hf⟩
    obtain ⟨s, hs, e⟩ := List.mem_map.mp q
    exact hno ⟨s, hs, e.symm⟩
  have := sub_len _ L hnd (fun y hy => by
    rcases List.mem_cons.mp hy with rfl | hy
    · exact hin x hx
    · obtain ⟨s, hs, rfl⟩ := List.mem_map.mp hy
      exact hin s (hl s hs))
  simp only [List.length_cons, List.length_map] at this
  omega
def dC (d x : Nat) : Nat := if x = d then 1 else 0
theorem cnL_out {nm : Nat → Bool} {d : Nat} : ∀ n, Rk nm n < lev nm d → cnL (dC d) n = 0 := by
  refine v_ind (fun n h _ => cnL_low h) (fun x y _ h2 h => ?_)
  rw [Rk_nd] at h
  rw [cnL_nd, h2 (by omega)]
  unfold dC
  rw [if_neg (fun q => by rw [q] at h; omega)]
theorem lnk_cross {Un : List Uf} {nA g : Nat} {Y : Nat → Nat} {f : Nat → Nat} (hY : hUY Un nA Y) {k : Nat} : ∀ {n x y : Nat}, lnk (Eg Un g) n x y → cnL f x ≤ k → k < cnL f y → ∃ u ∈ Un, uG u = g ∧ cnL f (uL u) ≤ k ∧ k < cnL f (uH u)
  | 0, x, y, h, h1, h2 => by
    have h : x = y := h
    rw [h] at h1
    omega
  | n + 1, x, y, ⟨z, g1, g2⟩, h1, h2 => by
    by_cases hz : k < cnL f z
    · exact lnk_cross hY g1 h1 hz
    · rcases g2 with g2 | g2
      · obtain ⟨u, hu, e0, e1, e2⟩ := Eg_mem.mp g2
        exact ⟨u, hu, e0, by rw [e1]; omega, by rw [e2]; exact h2⟩
      · obtain ⟨u, hu, e0, e1, e2⟩ := Eg_mem.mp g2
        have := (hY u hu).2 f
        rw [e1, e2] at this
        omega
/-- the last letter above a level -/
theorem last_up {nm : Nat → Bool} {i : Nat} : ∀ n, i < Rk nm n → ∃ m x y, sfx m n (nd x y) ∧ i < lev nm x ∧ Rk nm y ≤ i := by
  refine v_ind (fun n h q => ?_) (fun x y _ h2 q => ?_)
  · rw [Rk_low h] at q; omega
  · by_cases hy : i < Rk nm y
    · obtain ⟨m, a, b, h1, h3, h4⟩ := h2 hy
      exact ⟨m + 1, a, b, ⟨x, y, rfl, h1⟩, h3, h4⟩
    · rw [Rk_nd] at q
      exact ⟨0, x, y, rfl, by omega, by omega⟩
/-- how an unfold lies: both values, all of its goal's -/
def hUX (Un : List Uf) (X Y Z : Nat → Nat) : Prop := ∀ u ∈ Un, (∃ x t v k m, uL u = nd x t ∧ uH u = nd x v ∧ catV k t (Y (uA u)) v ∧ sfx m (X (uA u)) (uL u)) ∧ (∃ n, catV n (X (uA u)) (Y (uA u)) (Z (uA u))) ∧ (∀ m s, sfx m (X (uA u)) s → 11 < s → ∃ v ∈ Un, uB v = uB u ∧ uA v = uA u ∧ uL v = s) ∧ ∀ v ∈ Un, uB v = uB u → uA v = uA u ∧ (uL v = uL u → uG v = uG u)
/-- the letters told in a goal's lists, and what ends them -/
def hTd (nm : Nat → Bool) (Un : List Uf) (P : List Nat) (X Y Z : Nat → Nat) : Prop := ∀ u ∈ Un, ∀ d, 11 < d → ∃ tx ty tz nx ny nz, cnL (dC d) (X (uA u)) = tx + cnL (dC d) nx ∧ cnL (dC d) (Y (uA u)) = ty + cnL (dC d) ny ∧ cnL (dC d) (Z (uA u)) = tz + cnL (dC d) nz ∧ tx + ty + tz ≤ P.count d ∧ (nx ≤ 11 ∨ (nm nx = true ∧ Rk nm nx ≤ Rk nm (X (uA u)))) ∧ (ny ≤ 11 ∨ (nm ny = true ∧ Rk nm ny ≤ Rk nm (Y (uA u)))) ∧ (nz ≤ 11 ∨ (nm nz = true ∧ Rk nm nz ≤ Rk nm (Z (uA u))))
theorem hUX_Y {Un : List Uf} {X Y Z : Nat → Nat} {nA : Nat} (h : hUX Un X Y Z) (hA : ∀ u ∈ Un, uA u < nA) : hUY Un nA Y := fun u hu => ⟨hA u hu, fun f => by
  obtain ⟨⟨x, t, v, k, m, e1, e2, hc, _⟩, _⟩ := h u hu
  rw [e1, e2, cnL_nd, cnL_nd, catV_cn f hc]
  omega⟩
theorem lost_ex {nm sg : Nat → Bool} {Un : List Uf} {P : List Nat} {X Y Z : Nat → Nat} {It : Nat → List Nat} {Vx : Nat → Nat → Bool} {g d i y nA : Nat} (hX : hUX Un X Y Z) (hA : ∀ u ∈ Un, uA u < nA) (hT : hTd nm Un P X Y Z)
    (hV : ∀ w, Vx g w = true → (∃ t, w = nd d t) ∧ ∃ a ∈ It g, Lnk (Eg Un g) a w) (hE : ∀ u ∈ Un, uG u = g → Vx g (uL u) = true ∧ Vx g (uH u) = true)
    (hd : 11 < d) (hl : lev nm d = i) (hi : 1 ≤ i) (hP : P.count d ≤ 1) (hR : Rk nm y = i) (hy : ∀ v, nm v = true → Rk nm v ≤ i → 1 ≤ cnL (dC d) v → v = y)
    (hfull : (It g).length + nG nm Un g ≤ (spn sg y).countP (Vx g)) {w u : Nat} (hw : w ∈ spn sg y) (hu : u ∈ spn sg y) (vw : Vx g w = true) (vu : Vx g u = true) (hlk : Lnk (Eg Un g) w u) {k : Nat} (k1 : cnL (dC d) w ≤ k) (k2 : k < cnL (dC d) u) :
    ∃ v ∈ Un, uG v = g ∧ cnL (dC d) (uL v) = k ∧ Rk nm (Y (uA v)) = i ∧ ∃ z ∈ Un, uB z = uB v ∧ 11 < dn1 (uL z) ∧ fC nm (uL z) = fC nm (uH z) := by
  have hY := hUX_Y hX hA
  have cd : ∀ t, cnL (dC d) (nd d t) = 1 + cnL (dC d) t := fun t => by
    rw [cnL_nd]
    unfold dC
    rw [if_pos rfl]
  have inS : ∀ s, s ∈ spn sg y → Rk nm s ≤ i ∧ cnL (dC d) s ≤ cnL (dC d) y := fun s hs => by
    obtain ⟨m, hm⟩ := spn_sfx y s hs
    have := sfx_Rk (nm := nm) hm
    exact ⟨by omega, sfx_cn hm⟩
  -- all vertices lie low
  have low : ∀ z, Vx g z = true → Rk nm z ≤ i ∧ cnL (dC d) z ≤ cnL (dC d) y := by
    intro z vz
    obtain ⟨s, hs, e⟩ := lnk_full (E := Eg Un g) (A := It g) (S := (spn sg y).filter (Vx g)) (fC nm) ((spn_nodup y).filter _) (fun a ha b hb e => fC_inj (List.mem_filter.mp ha).1 (List.mem_filter.mp hb).1 e) (fun a ha => (hV a (List.mem_filter.mp ha).2).2) (by rw [nG_eq, ← List.countP_eq_length_filter]; exact hfull) (hV z vz).2
    rw [List.mem_filter] at hs
    obtain ⟨t, rfl⟩ := (hV z vz).1
    obtain ⟨t2, e2⟩ := (hV s hs.2).1
    have q := inS s hs.1
    rw [e2] at e q
    rcases fC_eq e with e3 | ⟨_, e4, e5⟩
    · rw [e3]; exact q
    · rw [Rk_nd, cd, cnL_out t e4]
      rw [cd] at q
      exact ⟨by omega, by omega⟩
  obtain ⟨n, hlk⟩ := hlk
  obtain ⟨v, hv, vg, c1, c2⟩ := lnk_cross hY hlk k1 k2
  obtain ⟨⟨x, t, t2, m, m2, e1, e2, hc, hs⟩, ⟨n2, hcat⟩, hall, huq⟩ := hX v hv
  obtain ⟨tx, ty, tz, nx, ny, nz, qx, qy, qz, qs, rx, ry, rz⟩ := hT v hv d hd
  have hvs := hE v hv vg
  have lo1 := low _ hvs.1
  have lo2 := low _ hvs.2
  have ex : x = d := by
    obtain ⟨t3, e3⟩ := (hV _ hvs.1).1
    rw [e1] at e3
    exact (nd_inj e3).1
  subst ex
  have cH := (hY v hv).2 (dC x)
  have cL1 : 1 ≤ cnL (dC x) (uL v) := by rw [e1, cd]; omega
  have RY : Rk nm (Y (uA v)) ≤ i := by
    have := catV_Rk nm hc
    rw [e2, Rk_nd] at lo2
    omega
  -- a tail with this letter, on this level, is y
  have isy : ∀ {r n : Nat}, (n ≤ 11 ∨ (nm n = true ∧ Rk nm n ≤ Rk nm r)) → Rk nm r ≤ i → 1 ≤ cnL (dC x) n → n = y := fun {r n} h1 h2 h3 => by
    rcases h1 with h1 | ⟨h1, h4⟩
    · rw [cnL_low h1] at h3; omega
    · exact hy n h1 (by omega) h3
  have ny0 : cnL (dC x) ny = 0 := by
    by_cases q : 1 ≤ cnL (dC x) ny
    · have := isy ry RY q
      rw [this] at qy
      omega
    · omega
  have hty : ty = 1 := by omega
  have RYi : Rk nm (Y (uA v)) = i := by
    by_cases q : Rk nm (Y (uA v)) < i
    · have := cnL_out (nm := nm) (d := x) (Y (uA v)) (by rw [hl]; exact q)
      omega
    · omega
  have RX : i < Rk nm (X (uA v)) := by
    refine Classical.byContradiction (fun q => ?_)
    have hXi : Rk nm (X (uA v)) ≤ i := by omega
    have := sfx_cn (f := dC x) hs
    have hx0 : nx = y := isy rx hXi (by omega)
    have hcZ := catV_cn (dC x) hcat
    have hRZ := catV_Rk nm hcat
    have hz0 : nz = y := isy rz (by omega) (by omega)
    rw [hx0] at qx
    rw [hz0] at qz
    omega
  obtain ⟨m3, a, b, s1, s2, s3⟩ := last_up (X (uA v)) RX
  have hbig := nd_big a b
  obtain ⟨z, hz, z1, z2, z3⟩ := hall m3 _ s1 hbig
  obtain ⟨⟨x4, t4, t5, m4, _, f1, f2, hc4, _⟩, _⟩ := hX z hz
  rw [z3] at f1
  obtain ⟨g1, g2⟩ := nd_inj f1
  refine ⟨v, hv, vg, by omega, RYi, z, hz, z1, ?_, ?_⟩
  · rw [z3, dn1_nd]
    exact Classical.byContradiction (fun q => by rw [lev_low (by omega)] at s2; omega)
  · rw [z3, f2, ← g1, fC_top (by omega), fC_top]
    have := catV_Rk nm hc4
    rw [z2, ← g2] at this
    omega
/-- the unfold of a goal's copy at a count is one -/
theorem lost_one {Un : List Uf} {X Y Z : Nat → Nat} (hX : hUX Un X Y Z) {d k : Nat} {u v : Uf} (hu : u ∈ Un) (hv : v ∈ Un) (hb : uB u = uB v) (du : ∃ t, uL u = nd d t) (dv : ∃ t, uL v = nd d t) (ku : cnL (dC d) (uL u) = k) (kv : cnL (dC d) (uL v) = k) : uG u = uG v := by
  obtain ⟨⟨_, _, _, _, m1, _, _, _, s1⟩, _⟩ := hX u hu
  obtain ⟨⟨_, _, _, _, m2, _, _, _, s2⟩, _, _, huq⟩ := hX v hv
  obtain ⟨ha, hq⟩ := huq u hu hb
  rw [ha] at s1
  refine hq ?_
  have two : ∀ {m k n a b : Nat}, sfx m n a → sfx k n b → m ≤ k → ∃ j, sfx j a b := by
    intro m
    induction m with
    | zero =>
      intro k n a b h1 h2 _
      have h1 : n = a := h1
      exact ⟨k, by rw [← h1]; exact h2⟩
    | succ m ih =>
      intro k n a b h1 h2 hle
      match k, h2, hle with
      | k + 1, h2, hle =>
        obtain ⟨x, y, e, h1⟩ := h1
        obtain ⟨x2, y2, e2, h2⟩ := h2
        rw [e] at e2
        rw [← (nd_inj e2).2] at h2
        exact ih h1 h2 (by omega)
  have eq : ∀ {j a b : Nat}, sfx j a b → (∃ t, a = nd d t) → cnL (dC d) a = k → cnL (dC d) b = k → a = b := by
    intro j a b h ⟨t, e⟩ h1 h2
    match j, h with
    | 0, h => exact h
    | j + 1, ⟨x, y, e2, h⟩ =>
      exfalso
      rw [e] at e2
      have e3 := (nd_inj e2).2
      have := sfx_cn (f := dC d) h
      rw [e, cnL_nd] at h1
      unfold dC at h1 h2 this
      rw [if_pos rfl] at h1
      rw [← e3] at this
      omega
  by_cases hle : m1 ≤ m2
  · obtain ⟨j, hj⟩ := two s1 s2 hle
    exact eq hj du ku kv
  · obtain ⟨j, hj⟩ := two s2 s1 (by omega)
    exact (eq hj dv kv ku).symm
