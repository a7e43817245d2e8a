/-! GRAPHS: what is linked to some items is at most the items and the edges -/
def pI (L : List Nat) (e : Nat × Nat) : Bool := decide (e.1 ∈ L ∧ e.2 ∈ L ∧ e.1 ≠ e.2)
theorem countP_ltA {a : Type} {p q : a → Bool} {c : a} : ∀ {l : List a}, (∀ x ∈ l, p x = true → q x = true) → c ∈ l → q c = true → p c = false → l.countP p + 1 ≤ l.countP q
  | [], _, h, _, _ => by cases h
  | x :: l, hp, hc, h1, h2 => by
    simp only [List.countP_cons]
    rcases List.mem_cons.mp hc with rfl | hc
    · rw [h1, h2, if_pos rfl, if_neg (by decide)]
      have := List.countP_mono_left (l := l) (fun y hy => hp y (List.mem_cons_of_mem _ hy))
      omega
    · have ih := countP_ltA (fun y hy => hp y (List.mem_cons_of_mem _ hy)) hc h1 h2
      have := hp x List.mem_cons_self
      cases h : p x with
      | true => rw [this h]; omega
      | false =>
        rw [if_neg (by decide)]
        omega
theorem clo_aux (E : List (Nat × Nat)) (k : Nat) : ∀ (n : Nat) (L : List Nat), E.length ≤ E.countP (pI L) + n → L.length ≤ k + E.countP (pI L) → ∃ L2 : List Nat, (∀ x ∈ L, x ∈ L2) ∧ (∀ e ∈ E, (e.1 ∈ L2 ↔ e.2 ∈ L2)) ∧ L2.length ≤ k + E.countP (pI L2) := by
  intro n
  induction n with
  | zero =>
    intro L h1 h2
    refine ⟨L, fun x hx => hx, fun e he => ?_, h2⟩
    have hall : ∀ e ∈ E, pI L e = true := List.countP_eq_length.mp (Nat.le_antisymm List.countP_le_length (by omega))
    have := hall e he
    simp only [pI, decide_eq_true_eq] at this
    exact ⟨fun _ => this.2.1, fun _ => this.1⟩
  | succ n ih =>
    intro L h1 h2
    by_cases h : ∃ e ∈ E, ¬ (e.1 ∈ L ↔ e.2 ∈ L)
    · obtain ⟨e, he, hx⟩ := h
      have hz : ∃ z, e.1 ∈ z :: L ∧ e.2 ∈ z :: L := by
        by_cases q : e.1 ∈ L
        · exact ⟨e.2, List.mem_cons_of_mem _ q, List.mem_cons_self⟩
        · exact ⟨e.1, List.mem_cons_self, List.mem_cons_of_mem _ (Classical.byContradiction (fun q2 => hx ⟨fun z => absurd z q, fun z => absurd z q2⟩))⟩
      obtain ⟨z, z1, z2⟩ := hz
      have hne : e.1 ≠ e.2 := fun q => hx (by rw [q])
      have hlt := countP_ltA (p := pI L) (q := pI (z :: L)) (c := e) (l := E) (fun x _ hp => by
        simp only [pI, decide_eq_true_eq] at hp ⊢
        exact ⟨List.mem_cons_of_mem _ hp.1, List.mem_cons_of_mem _ hp.2.1, hp.2.2⟩) he (by simp only [pI, decide_eq_true_eq]; exact ⟨z1, z2, hne⟩) (by
        simp only [pI, decide_eq_false_iff_not]
        exact fun q => hx ⟨fun _ => q.2.1, fun _ => q.1⟩)
      obtain ⟨L2, g1, g2, g3⟩ := ih (z :: L) (by omega) (by simp only [List.length_cons]; omega)
      exact ⟨L2, fun x hx => g1 x (List.mem_cons_of_mem _ hx), g2, g3⟩
    · exact ⟨L, fun x hx => hx, fun e he => Classical.byContradiction (fun q => h ⟨e, he, q⟩), h2⟩
theorem clo_ex (A : List Nat) (E : List (Nat × Nat)) : ∃ L : List Nat, (∀ x ∈ A, x ∈ L) ∧ (∀ e ∈ E, (e.1 ∈ L ↔ e.2 ∈ L)) ∧ L.length ≤ A.length + E.countP (fun e => decide (e.1 ≠ e.2)) := by
  obtain ⟨L, h1, h2, h3⟩ := clo_aux E A.length E.length A (by omega) (by omega)
  refine ⟨L, h1, h2, Nat.le_trans h3 (Nat.add_le_add_left (List.countP_mono_left (fun e _ he => ?_)) _)⟩
  simp only [pI, decide_eq_true_eq] at he ⊢
  exact he.2.2
/-- linked by edges -/
def lnk (E : List (Nat × Nat)) : Nat → Nat → Nat → Prop
  | 0, x, y => x = y
  | n + 1, x, y => ∃ z, lnk E n x z ∧ ((z, y) ∈ E ∨ (y, z) ∈ E)
def Lnk (E : List (Nat × Nat)) (x y : Nat) : Prop := ∃ n, lnk E n x y
theorem Lnk.rfl' {E : List (Nat × Nat)} {x : Nat} : Lnk E x x := ⟨0, rfl⟩
theorem Lnk.step {E : List (Nat × Nat)} {x y z : Nat} (h : Lnk E x y) (e : (y, z) ∈ E ∨ (z, y) ∈ E) : Lnk E x z := by
  obtain ⟨n, h⟩ := h
  exact ⟨n + 1, y, h, e⟩
theorem lnk_trans {E : List (Nat × Nat)} {x y : Nat} (h : Lnk E x y) : ∀ {n z : Nat}, lnk E n y z → Lnk E x z
  | 0, _, e => e ▸ h
  | n + 1, _, ⟨u, h1, h2⟩ => Lnk.step (lnk_trans h h1) h2
theorem Lnk.trans' {E : List (Nat × Nat)} {x y z : Nat} (h : Lnk E x y) (g : Lnk E y z) : Lnk E x z := by
  obtain ⟨n, g⟩ := g
  exact lnk_trans h g
theorem lnk_symm {E : List (Nat × Nat)} : ∀ {n x y : Nat}, lnk E n x y → Lnk E y x
  | 0, _, _, e => e ▸ Lnk.rfl'
  | n + 1, x, y, ⟨u, h1, h2⟩ => (Lnk.step Lnk.rfl' (Or.symm h2)).trans' (lnk_symm h1)
theorem Lnk.symm' {E : List (Nat × Nat)} {x y : Nat} (h : Lnk E x y) : Lnk E y x := by
  obtain ⟨n, h⟩ := h
  exact lnk_symm h
theorem lnk_clo {E : List (Nat × Nat)} {L : List Nat} (hL : ∀ e ∈ E, (e.1 ∈ L ↔ e.2 ∈ L)) {x : Nat} (hx : x ∈ L) : ∀ {n y : Nat}, lnk E n x y → y ∈ L
  | 0, _, e => e ▸ hx
  | n + 1, y, ⟨u, h1, h2⟩ => by
    have hu := lnk_clo hL hx h1
    rcases h2 with h2 | h2
    · exact (hL _ h2).mp hu
    · exact (hL _ h2).mpr hu
/-- some distinct values, each linked to an item (labels: values that count as one) -/
theorem lnk_cnt {E : List (Nat × Nat)} {A S : List Nat} (f : Nat → Nat) (hS : S.Nodup) (hf : ∀ x ∈ S, ∀ y ∈ S, f x = f y → x = y) (hl : ∀ x ∈ S, ∃ a ∈ A, Lnk E a x) : S.length ≤ A.length + (E.map (fun e => (f e.1, f e.2))).countP (fun e => decide (e.1 ≠ e.2)) := by
  obtain ⟨L, h1, h2, h3⟩ := clo_ex (A.map f) (E.map (fun e => (f e.1, f e.2)))
  rw [List.length_map] at h3
  refine Nat.le_trans ?_ h3
  have hmap : ∀ {n x y : Nat}, lnk E n x y → lnk (E.map (fun e => (f e.1, f e.2))) n (f x) (f y) := by
    intro n
    induction n with
    | zero => rintro x y rfl; rfl
    | succ n ih =>
      rintro x y ⟨u, g1, g2⟩
      refine ⟨f u, ih g1, ?_⟩
      rcases g2 with g2 | g2
      · exact Or.inl (List.mem_map.mpr ⟨_, g2, rfl⟩)
      · exact Or.inr (List.mem_map.mpr ⟨_, g2, rfl⟩)
  have hin : ∀ y ∈ S.map f, y ∈ L := by
    intro y hy
    obtain ⟨x, hx, rfl⟩ := List.mem_map.mp hy
    obtain ⟨a, ha, n, hn⟩ := hl x hx
    exact lnk_clo h2 (h1 _ (List.mem_map.mpr ⟨a, ha, rfl⟩)) (hmap hn)
  have hnd : (S.map f).Nodup := by
    clear hin h1 h2 h3 hmap hl
    induction S with
    | nil => exact List.nodup_nil
    | cons x S ih =>
      rw [List.map_cons, List.nodup_cons]
      rw [List.nodup_cons] at hS
      refine ⟨fun q => ?_, ih hS.2 (fun a ha b hb => hf a (List.mem_cons_of_mem _ ha) b (List.mem_cons_of_mem _ hb))⟩
      obtain ⟨y, hy, e⟩ := List.mem_map.mp q
      have := hf y (List.mem_cons_of_mem _ hy) x List.mem_cons_self e
      exact hS.1 (this ▸ hy)
  have hsub : ∀ (S L : List Nat), S.Nodup → (∀ y ∈ S, y ∈ L) → S.length ≤ L.length := by
    intro S
    induction S with
    | nil => intro L _ _; exact Nat.zero_le _
    | cons x S ih =>
      intro L hn hs
      rw [List.nodup_cons] at hn
      have hx := hs x List.mem_cons_self
      have h1 := ih (L.erase x) hn.2 (fun y hy => (List.mem_erase_of_ne (fun q => hn.1 (by rw [← q]; exact hy))).mpr (hs y (List.mem_cons_of_mem _ hy)))
      rw [List.length_erase_of_mem hx] at h1
      have : 0 < L.length := List.length_pos_of_mem hx
      simp only [List.length_cons]
      omega
  have := hsub _ L hnd hin
  rw [List.length_map] at this
  exact this
