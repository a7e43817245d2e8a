/-! WHAT A STATE HAS UNFOLDED: blocks (base, kind, goal, the block before, the first one) -/
abbrev Bk : Type := Nat × Nat × Nat × Nat × Nat
def bkB (q : Bk) : Nat := q.1
def bkK (q : Bk) : Nat := q.2.1
def bkG (q : Bk) : Nat := q.2.2.1
def bkP (q : Bk) : Nat := q.2.2.2.1
def bkR (q : Bk) : Nat := q.2.2.2.2
/-- kinds: 0 'A', 1 'M' that goes on, 2 'M' that has found -/
def bkS (q : Bk) : Nat := if bkK q = 0 then 3 else if bkK q = 1 then 2 else 1
def cov : List Bk → Nat → Prop
  | [], n => n = 6
  | q :: L, n => n = bkB q + bkS q ∧ cov L (bkB q)
theorem bkS_pos (q : Bk) : 1 ≤ bkS q := by
  unfold bkS
  by_cases h : bkK q = 0
  · rw [if_pos h]; omega
  · rw [if_neg h]
    by_cases h1 : bkK q = 1
    · rw [if_pos h1]; omega
    · rw [if_neg h1]; omega
theorem cov_in : ∀ {L : List Bk} {n : Nat}, cov L n → 6 ≤ n ∧ ∀ q ∈ L, 6 ≤ bkB q ∧ bkB q + bkS q ≤ n
  | [], n, h => by
    have h : n = 6 := h
    exact ⟨by omega, fun q hq => by cases hq⟩
  | q :: L, n, ⟨h, g⟩ => by
    obtain ⟨g1, g2⟩ := cov_in g
    have := bkS_pos q
    refine ⟨by omega, fun p hp => ?_⟩
    rcases List.mem_cons.mp hp with rfl | hp
    · exact ⟨g1, by omega⟩
    · have := g2 p hp
      exact ⟨this.1, by omega⟩
/-- what a block's unfold says of the solutions -/
def bkE (tb : Tb) (q : Bk) (r : Nat → Nat) : Prop :=
  (bkK q = 0 → (bkP q = 0 → tb1 tb (bkG q) r = nd (r (bkB q)) (r (bkB q + 1)) ∧ tb3 tb (bkG q) r = nd (r (bkB q)) (r (bkB q + 2))) ∧ (bkP q ≠ 0 → r (bkP q + 1) = nd (r (bkB q)) (r (bkB q + 1)) ∧ r (bkP q + 2) = nd (r (bkB q)) (r (bkB q + 2)))) ∧
  (bkK q = 1 → (bkP q = 0 → tb2 tb (bkG q) r = nd (r (bkB q)) (r (bkB q + 1))) ∧ (bkP q ≠ 0 → r (bkP q + 1) = nd (r (bkB q)) (r (bkB q + 1)))) ∧
  (bkK q = 2 → (bkP q = 0 → tb2 tb (bkG q) r = nd (tb1 tb (bkG q) r) (r (bkB q))) ∧ (bkP q ≠ 0 → r (bkP q + 1) = nd (tb1 tb (bkG q) r) (r (bkB q))))
/-- how a block stands among the others -/
def bkC (tb : Tb) (L : List Bk) (q : Bk) : Prop := (bkK q = 0 ∧ (tb (bkG q)).1 = 65 ∨ (bkK q = 1 ∨ bkK q = 2) ∧ (tb (bkG q)).1 = 77) ∧ (bkP q = 0 → bkR q = bkB q) ∧ (bkP q ≠ 0 → ∃ p ∈ L, bkB p = bkP q ∧ bkG p = bkG q ∧ bkR p = bkR q ∧ bkK p = (if bkK q = 0 then 0 else 1) ∧ bkB p < bkB q)
/-- the goals to do that go on with a block -/
def tdO (tb : Tb) (L : List Bk) : List It → List Nat → Prop
  | [], bs => bs = []
  | .inl _ :: td, bs => tdO tb L td bs
  | .inr (true, x, y, z) :: td, bs => ∃ b bt, bs = b :: bt ∧ (∃ q ∈ L, bkK q = 0 ∧ bkB q = b ∧ x = vr (b + 1) ∧ y = tb2 tb (bkG q) ∧ z = vr (b + 2)) ∧ tdO tb L td bt
  | .inr (false, x, y, _) :: td, bs => ∃ b bt, bs = b :: bt ∧ (∃ q ∈ L, bkK q = 1 ∧ bkB q = b ∧ x = tb1 tb (bkG q) ∧ y = vr (b + 1)) ∧ tdO tb L td bt
def HsO (tb : Tb) (td : List It) (nv : Nat) (K : Kx) (L : List Bk) : Prop := cov L nv ∧ (∀ q ∈ L, bkC tb L q) ∧ (∀ r, K r → ∀ q ∈ L, bkE tb q r) ∧ (∀ p ∈ L, ∀ q ∈ L, bkP p = bkP q → bkP p ≠ 0 → p = q) ∧
  ∃ bs, tdO tb L td bs ∧ bs.Nodup ∧ (∀ b ∈ bs, ∀ q ∈ L, bkP q ≠ b) ∧ (∀ q ∈ L, bkK q = 0 → (∃ p ∈ L, bkP p = bkB q) ∨ (∀ r, K r → r (bkB q + 1) = 10 ∧ tb2 tb (bkG q) r = r (bkB q + 2)) ∨ bkB q ∈ bs) ∧ ∀ q ∈ L, bkK q = 1 → (∃ p ∈ L, bkP p = bkB q) ∨ bkB q ∈ bs
theorem tdO_mono {tb : Tb} {L L2 : List Bk} (hL : ∀ q ∈ L, q ∈ L2) : ∀ {td : List It} {bs : List Nat}, tdO tb L td bs → tdO tb L2 td bs
  | [], _, h => h
  | .inl _ :: td, bs, h => tdO_mono (td := td) hL h
  | .inr (true, x, y, z) :: td, bs, ⟨b, bt, e, ⟨q, hq, g⟩, h⟩ => ⟨b, bt, e, ⟨q, hL q hq, g⟩, tdO_mono hL h⟩
  | .inr (false, x, y, z) :: td, bs, ⟨b, bt, e, ⟨q, hq, g⟩, h⟩ => ⟨b, bt, e, ⟨q, hL q hq, g⟩, tdO_mono hL h⟩
theorem tdO_in {tb : Tb} {L : List Bk} : ∀ {td : List It} {bs : List Nat}, tdO tb L td bs → ∀ b ∈ bs, ∃ q ∈ L, bkB q = b
  | [], bs, h, b, hb => by
    have h : bs = [] := h
    rw [h] at hb
    cases hb
  | .inl _ :: td, bs, h, b, hb => tdO_in (td := td) h b hb
  | .inr (true, x, y, z) :: td, bs, ⟨c, bt, e, ⟨q, hq, g⟩, h⟩, b, hb => by
    rw [e] at hb
    rcases List.mem_cons.mp hb with rfl | hb
    · exact ⟨q, hq, g.2.1⟩
    · exact tdO_in h b hb
  | .inr (false, x, y, z) :: td, bs, ⟨c, bt, e, ⟨q, hq, g⟩, h⟩, b, hb => by
    rw [e] at hb
    rcases List.mem_cons.mp hb with rfl | hb
    · exact ⟨q, hq, g.2.1⟩
    · exact tdO_in h b hb
/-- fewer solutions; goals told in place of one another -/
theorem HsO.sub {tb : Tb} {td : List It} {nv : Nat} {K K2 : Kx} {L : List Bk} (h : HsO tb td nv K L) (hK : ∀ r, K2 r → K r) : HsO tb td nv K2 L := by
  obtain ⟨h1, h2, h3, h4, bs, h5, h6, h7, h8, h9⟩ := h
  refine ⟨h1, h2, fun r hr => h3 r (hK r hr), h4, bs, h5, h6, h7, fun q hq hk => ?_, h9⟩
  rcases h8 q hq hk with e | e | e
  · exact Or.inl e
  · exact Or.inr (Or.inl (fun r hr => e r (hK r hr)))
  · exact Or.inr (Or.inr e)
theorem HsO.pop {tb : Tb} {td : List It} {g nv : Nat} {K : Kx} {L : List Bk} (h : HsO tb (.inl g :: td) nv K L) : HsO tb td nv K L := h
theorem HsO.push {tb : Tb} {td : List It} {nv : Nat} {K : Kx} {L : List Bk} (g : Nat) (h : HsO tb td nv K L) : HsO tb (.inl g :: td) nv K L := h
/-- a new block, first of its goal -/
theorem HsO.new {tb : Tb} {td : List It} {nv : Nat} {K K2 : Kx} {L : List Bk} (h : HsO tb td nv K L) (hK : ∀ r, K2 r → K r) {k g : Nat} (hk : (k = 0 ∧ (tb g).1 = 65) ∨ ((k = 1 ∨ k = 2) ∧ (tb g).1 = 77)) {td2 : List It}
    (htd : (k = 2 ∧ td2 = td) ∨ (k = 0 ∧ td2 = .inr (true, vr (nv + 1), tb2 tb g, vr (nv + 2)) :: td) ∨ (k = 1 ∧ ∃ w, td2 = .inr (false, tb1 tb g, vr (nv + 1), w) :: td)) (hE : ∀ r, K2 r → bkE tb (nv, k, g, 0, nv) r) : HsO tb td2 (nv + bkS (nv, k, g, 0, nv)) K2 ((nv, k, g, 0, nv) :: L) := by
  obtain ⟨h1, h2, h3, h4, bs, h5, h6, h7, h8, h9⟩ := h
  obtain ⟨c1, c2⟩ := cov_in h1
  have sub : ∀ q ∈ L, q ∈ (nv, k, g, 0, nv) :: L := fun q hq => List.mem_cons_of_mem _ hq
  have nin : nv ∉ bs := fun hb => by
    obtain ⟨q, hq, e⟩ := tdO_in h5 nv hb
    have := c2 q hq
    have := bkS_pos q
    omega
  have n6 : ∀ b ∈ bs, b ≠ 0 := fun b hb e => by
    obtain ⟨q, hq, e2⟩ := tdO_in h5 b hb
    have := c2 q hq
    omega
  have old : ∀ q ∈ L, bkC tb ((nv, k, g, 0, nv) :: L) q := fun q hq => by
    obtain ⟨a, b, c⟩ := h2 q hq
    refine ⟨a, b, fun z => ?_⟩
    obtain ⟨p, hp, z2⟩ := c z
    exact ⟨p, sub p hp, z2⟩
  have pz : ∀ q ∈ L, bkP q ≠ nv := fun q hq e => by
    obtain ⟨p, hp, e2, _⟩ := (h2 q hq).2.2 (by omega)
    have := c2 p hp
    have := bkS_pos p
    omega
  have tds : ∃ bs2, tdO tb ((nv, k, g, 0, nv) :: L) td2 bs2 ∧ bs2.Nodup ∧ (∀ b ∈ bs2, b ∈ bs ∨ b = nv) ∧ (∀ b ∈ bs, b ∈ bs2) ∧ (k ≠ 2 → nv ∈ bs2) := by
    rcases htd with ⟨k2, rfl⟩ | ⟨k0, rfl⟩ | ⟨k1, w, rfl⟩
    · exact ⟨bs, tdO_mono sub h5, h6, fun b hb => Or.inl hb, fun b hb => hb, fun z => absurd k2 z⟩
    · refine ⟨nv :: bs, ⟨nv, bs, rfl, ⟨_, List.mem_cons_self, k0, rfl, rfl, rfl, rfl⟩, tdO_mono sub h5⟩, List.nodup_cons.mpr ⟨nin, h6⟩, fun b hb => ?_, fun b hb => List.mem_cons_of_mem _ hb, fun _ => List.mem_cons_self⟩
      rcases List.mem_cons.mp hb with rfl | hb
      · exact Or.inr rfl
      · exact Or.inl hb
    · refine ⟨nv :: bs, ⟨nv, bs, rfl, ⟨_, List.mem_cons_self, k1, rfl, rfl, rfl⟩, tdO_mono sub h5⟩, List.nodup_cons.mpr ⟨nin, h6⟩, fun b hb => ?_, fun b hb => List.mem_cons_of_mem _ hb, fun _ => List.mem_cons_self⟩
      rcases List.mem_cons.mp hb with rfl | hb
      · exact Or.inr rfl
      · exact Or.inl hb
  obtain ⟨bs2, t1, t2, t3, t4, t5⟩ := tds
  refine ⟨⟨rfl, h1⟩, fun q hq => ?_, fun r hr q hq => ?_, fun p hp q hq e e0 => ?_, bs2, t1, t2, fun b hb q hq => ?_, fun q hq hk0 => ?_, fun q hq hk1 => ?_⟩
  · rcases List.mem_cons.mp hq with rfl | hq
    · exact ⟨hk, fun _ => rfl, fun z => absurd rfl z⟩
    · exact old q hq
  · rcases List.mem_cons.mp hq with rfl | hq
    · exact hE r hr
    · exact h3 r (hK r hr) q hq
  · rcases List.mem_cons.mp hp with rfl | hp
    · exact absurd rfl e0
    · rcases List.mem_cons.mp hq with rfl | hq
      · exact absurd e e0
      · exact h4 p hp q hq e e0
  · rcases List.mem_cons.mp hq with rfl | hq
    · rcases t3 b hb with z | z
      · exact (n6 b z).symm
      · show 0 ≠ b
        omega
    · rcases t3 b hb with z | z
      · exact h7 b z q hq
      · rw [z]; exact pz q hq
  · rcases List.mem_cons.mp hq with rfl | hq
    · exact Or.inr (Or.inr (t5 (by have hk0 : k = 0 := hk0; omega)))
    · rcases h8 q hq hk0 with ⟨p, hp, e⟩ | e | e
      · exact Or.inl ⟨p, sub p hp, e⟩
      · exact Or.inr (Or.inl (fun r hr => e r (hK r hr)))
      · exact Or.inr (Or.inr (t4 _ e))
  · rcases List.mem_cons.mp hq with rfl | hq
    · exact Or.inr (t5 (by have hk1 : k = 1 := hk1; omega))
    · rcases h9 q hq hk1 with ⟨p, hp, e⟩ | e
      · exact Or.inl ⟨p, sub p hp, e⟩
      · exact Or.inr (t4 _ e)
theorem cov_uniq : ∀ {L : List Bk} {n : Nat}, cov L n → ∀ p ∈ L, ∀ q ∈ L, bkB p = bkB q → p = q
  | [], _, _, p, hp, _, _, _ => by cases hp
  | x :: L, n, ⟨h, g⟩, p, hp, q, hq, e => by
    obtain ⟨_, g2⟩ := cov_in g
    rcases List.mem_cons.mp hp with e1 | hp1
    · rcases List.mem_cons.mp hq with e2 | hq2
      · exact e1.trans e2.symm
      · have := g2 q hq2
        have := bkS_pos q
        rw [e1] at e
        omega
    · rcases List.mem_cons.mp hq with e2 | hq2
      · have := g2 p hp1
        have := bkS_pos p
        rw [e2] at e
        omega
      · exact cov_uniq g p hp1 q hq2 e
/-- an 'A' that ends -/
theorem HsO.fin {tb : Tb} {td : List It} {x y z : Tf} {nv : Nat} {K K2 : Kx} {L : List Bk} (h : HsO tb (.inr (true, x, y, z) :: td) nv K L) (hK : ∀ r, K2 r → K r ∧ x r = 10 ∧ y r = z r) : HsO tb td nv K2 L := by
  obtain ⟨h1, h2, h3, h4, bs, ⟨b, bt, rfl, ⟨p, hp, p1, p2, p3, p4, p5⟩, h5⟩, h6, h7, h8, h9⟩ := h
  rw [List.nodup_cons] at h6
  refine ⟨h1, h2, fun r hr => h3 r (hK r hr).1, h4, bt, h5, h6.2, fun c hc => h7 c (List.mem_cons_of_mem _ hc), fun q hq hk => ?_, fun q hq hk => ?_⟩
  · rcases h8 q hq hk with e | e | e
    · exact Or.inl e
    · exact Or.inr (Or.inl (fun r hr => e r (hK r hr).1))
    · rcases List.mem_cons.mp e with e | e
      · have : q = p := cov_uniq h1 q hq p hp (by rw [e, p2])
        refine Or.inr (Or.inl (fun r hr => ?_))
        obtain ⟨_, k1, k2⟩ := hK r hr
        rw [p3] at k1
        rw [p4, p5] at k2
        rw [this, p2]
        exact ⟨k1, k2⟩
      · exact Or.inr (Or.inr e)
  · rcases h9 q hq hk with e | e
    · exact Or.inl e
    · rcases List.mem_cons.mp e with e | e
      · have : q = p := cov_uniq h1 q hq p hp (by rw [e, p2])
        rw [this, p1] at hk
        cases hk
      · exact Or.inr e
/-- a block that goes on -/
theorem HsO.nxt {tb : Tb} {td td0 : List It} {nv b k : Nat} {K K2 : Kx} {L : List Bk} {p : Bk} {bt : List Nat} (h : HsO tb td0 nv K L) (ht : tdO tb L td0 (b :: bt)) (ht2 : tdO tb L td bt) (hp : p ∈ L) (p2 : bkB p = b) (hk : (k = 0 ∧ bkK p = 0) ∨ ((k = 1 ∨ k = 2) ∧ bkK p = 1)) (hK : ∀ r, K2 r → K r) {td2 : List It}
    (htd : (k = 2 ∧ td2 = td) ∨ (k = 0 ∧ td2 = .inr (true, vr (nv + 1), tb2 tb (bkG p), vr (nv + 2)) :: td) ∨ (k = 1 ∧ ∃ w, td2 = .inr (false, tb1 tb (bkG p), vr (nv + 1), w) :: td)) (hE : ∀ r, K2 r → bkE tb (nv, k, bkG p, b, bkR p) r) : HsO tb td2 (nv + bkS (nv, k, bkG p, b, bkR p)) K2 ((nv, k, bkG p, b, bkR p) :: L) := by
  obtain ⟨h1, h2, h3, h4, bs, h5, h6, h7, h8, h9⟩ := h
  have tu : ∀ {td : List It} {a c : List Nat}, tdO tb L td a → tdO tb L td c → a = c := by
    intro td
    induction td with
    | nil => intro a c g1 g2; exact (show a = [] from g1).trans (show c = [] from g2).symm
    | cons it td ih =>
      intro a c g1 g2
      match it, g1, g2 with
      | .inl _, g1, g2 => exact ih g1 g2
      | .inr (true, x, y, z), ⟨a1, a2, e1, ⟨q1, _, _, _, ex, _⟩, g1⟩, ⟨c1, c2, e2, ⟨q2, _, _, _, ex2, _⟩, g2⟩ =>
        have : a1 = c1 := by
          rw [ex] at ex2
          have := congrFun ex2 id
          simp only [vr, id] at this
          omega
        rw [e1, e2, this, ih g1 g2]
      | .inr (false, x, y, z), ⟨a1, a2, e1, ⟨q1, _, _, _, _, ex⟩, g1⟩, ⟨c1, c2, e2, ⟨q2, _, _, _, _, ex2⟩, g2⟩ =>
        have : a1 = c1 := by
          rw [ex] at ex2
          have := congrFun ex2 id
          simp only [vr, id] at this
          omega
        rw [e1, e2, this, ih g1 g2]
  obtain rfl := tu h5 ht
  rw [List.nodup_cons] at h6
  obtain ⟨c1, c2⟩ := cov_in h1
  have cp := c2 p hp
  have sp := bkS_pos p
  have b0 : b ≠ 0 := by omega
  have sub : ∀ q ∈ L, q ∈ (nv, k, bkG p, b, bkR p) :: L := fun q hq => List.mem_cons_of_mem _ hq
  have inb : ∀ c ∈ bt, c ≠ nv := fun c hc e => by
    obtain ⟨q, hq, e2⟩ := tdO_in h5 c (List.mem_cons_of_mem _ hc)
    have := c2 q hq
    have := bkS_pos q
    omega
  have old : ∀ q ∈ L, bkC tb ((nv, k, bkG p, b, bkR p) :: L) q := fun q hq => by
    obtain ⟨a, b, c⟩ := h2 q hq
    refine ⟨a, b, fun z => ?_⟩
    obtain ⟨p, hp, z2⟩ := c z
    exact ⟨p, sub p hp, z2⟩
  have pz : ∀ q ∈ L, bkP q ≠ nv := fun q hq e => by
    obtain ⟨p, hp, e2, _⟩ := (h2 q hq).2.2 (by omega)
    have := c2 p hp
    have := bkS_pos p
    omega
  have tds : ∃ bs2, tdO tb ((nv, k, bkG p, b, bkR p) :: L) td2 bs2 ∧ bs2.Nodup ∧ (∀ c ∈ bs2, c ∈ bt ∨ c = nv) ∧ (∀ c ∈ bt, c ∈ bs2) ∧ (k ≠ 2 → nv ∈ bs2) := by
    have nin : nv ∉ bt := fun hb => inb nv hb rfl
    rcases htd with ⟨k2, rfl⟩ | ⟨k0, rfl⟩ | ⟨k1, w, rfl⟩
    · exact ⟨bt, tdO_mono sub ht2, h6.2, fun b hb => Or.inl hb, fun b hb => hb, fun z => absurd k2 z⟩
    · refine ⟨nv :: bt, ⟨nv, bt, rfl, ⟨_, List.mem_cons_self, k0, rfl, rfl, rfl, rfl⟩, tdO_mono sub ht2⟩, List.nodup_cons.mpr ⟨nin, h6.2⟩, fun b hb => ?_, fun b hb => List.mem_cons_of_mem _ hb, fun _ => List.mem_cons_self⟩
      rcases List.mem_cons.mp hb with rfl | hb
      · exact Or.inr rfl
      · exact Or.inl hb
    · refine ⟨nv :: bt, ⟨nv, bt, rfl, ⟨_, List.mem_cons_self, k1, rfl, rfl, rfl⟩, tdO_mono sub ht2⟩, List.nodup_cons.mpr ⟨nin, h6.2⟩, fun b hb => ?_, fun b hb => List.mem_cons_of_mem _ hb, fun _ => List.mem_cons_self⟩
      rcases List.mem_cons.mp hb with rfl | hb
      · exact Or.inr rfl
      · exact Or.inl hb
  obtain ⟨bs2, t1, t2, t3, t4, t5⟩ := tds
  have hkp := (h2 p hp).1
  refine ⟨⟨rfl, h1⟩, fun q hq => ?_, fun r hr q hq => ?_, fun u hu q hq e e0 => ?_, bs2, t1, t2, fun c hc q hq => ?_, fun q hq hk0 => ?_, fun q hq hk1 => ?_⟩
  · rcases List.mem_cons.mp hq with rfl | hq
    · refine ⟨?_, fun z => absurd z b0, fun _ => ⟨p, sub p hp, p2, rfl, rfl, ?_, by show bkB p < nv; omega⟩⟩
      · rcases hk with ⟨k0, e⟩ | ⟨k1, e⟩
        · refine Or.inl ⟨k0, ?_⟩
          rcases hkp with z | z
          · exact z.2
          · omega
        · refine Or.inr ⟨k1, ?_⟩
          rcases hkp with z | z
          · omega
          · exact z.2
      · show bkK p = if k = 0 then 0 else 1
        rcases hk with ⟨k0, e⟩ | ⟨k1, e⟩
        · rw [if_pos k0, e]
        · rw [if_neg (by omega), e]
    · exact old q hq
  · rcases List.mem_cons.mp hq with rfl | hq
    · exact hE r hr
    · exact h3 r (hK r hr) q hq
  · rcases List.mem_cons.mp hu with rfl | hu
    · rcases List.mem_cons.mp hq with rfl | hq
      · rfl
      · exact absurd e.symm (h7 b List.mem_cons_self q hq)
    · rcases List.mem_cons.mp hq with rfl | hq
      · exact absurd e (h7 b List.mem_cons_self u hu)
      · exact h4 u hu q hq e e0
  · rcases List.mem_cons.mp hq with rfl | hq
    · rcases t3 c hc with z | z
      · intro e
        have e : b = c := e
        rw [e] at h6
        exact h6.1 z
      · show b ≠ c
        omega
    · rcases t3 c hc with z | z
      · exact h7 c (List.mem_cons_of_mem _ z) q hq
      · rw [z]; exact pz q hq
  · rcases List.mem_cons.mp hq with rfl | hq
    · exact Or.inr (Or.inr (t5 (by have hk0 : k = 0 := hk0; omega)))
    · rcases h8 q hq hk0 with ⟨u, hu, e⟩ | e | e
      · exact Or.inl ⟨u, sub u hu, e⟩
      · exact Or.inr (Or.inl (fun r hr => e r (hK r hr)))
      · rcases List.mem_cons.mp e with e | e
        · exact Or.inl ⟨_, List.mem_cons_self, e.symm⟩
        · exact Or.inr (Or.inr (t4 _ e))
  · rcases List.mem_cons.mp hq with rfl | hq
    · exact Or.inr (t5 (by have hk1 : k = 1 := hk1; omega))
    · rcases h9 q hq hk1 with ⟨u, hu, e⟩ | e
      · exact Or.inl ⟨u, sub u hu, e⟩
      · rcases List.mem_cons.mp e with e | e
        · exact Or.inl ⟨_, List.mem_cons_self, e.symm⟩
        · exact Or.inr (t4 _ e)
/-- the start -/
theorem HsO.bgn {tb : Tb} {g : Nat} : HsO tb [.inl g] 6 (fun _ => True) [] := ⟨rfl, fun q hq => (by cases hq), fun _ _ q hq => (by cases hq), fun p hp => (by cases hp), [], rfl, List.nodup_nil, fun b hb => (by cases hb), fun q hq => (by cases hq), fun q hq => (by cases hq)⟩
