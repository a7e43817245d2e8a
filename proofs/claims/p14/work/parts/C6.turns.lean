/-! HOW MANY TURNS unify takes, in one state: codes by the value of their left half; a left half with structure is told twice -/
def tgN (V : Nat → TV) : Nat → Nat → Nat → Prop
  | 0, c, x => c = x ∧ vRes V x
  | n + 1, c, x => ∃ e, V c = some (.inl e) ∧ tgN V n e x
/-- what a code comes to -/
def tg (V : Nat → TV) (c x : Nat) : Prop := ∃ n, tgN V n c x
theorem tgN_uniq {V : Nat → TV} : ∀ {n m c x y : Nat}, tgN V n c x → tgN V m c y → x = y
  | 0, 0, c, x, y, h1, h2 => h1.1.symm.trans h2.1
  | 0, m + 1, c, x, y, h1, h2 => by
    obtain ⟨e, he, _⟩ := h2
    obtain ⟨rfl, hr⟩ := h1
    exact absurd he (hr e)
  | n + 1, 0, c, x, y, h1, h2 => by
    obtain ⟨e, he, _⟩ := h1
    obtain ⟨rfl, hr⟩ := h2
    exact absurd he (hr e)
  | n + 1, m + 1, c, x, y, h1, h2 => by
    obtain ⟨e, he, g1⟩ := h1
    obtain ⟨f, hf, g2⟩ := h2
    rw [he] at hf
    cases hf
    exact tgN_uniq g1 g2
theorem tg_uniq {V : Nat → TV} {c x y : Nat} (h1 : tg V c x) (h2 : tg V c y) : x = y := by
  obtain ⟨n, h1⟩ := h1
  obtain ⟨m, h2⟩ := h2
  exact tgN_uniq h1 h2
theorem tg_self {V : Nat → TV} {c : Nat} (h : vRes V c) : tg V c c := ⟨0, rfl, h⟩
theorem tg_step {V : Nat → TV} {c e x : Nat} (h : V c = some (.inl e)) (g : tg V e x) : tg V c x := by
  obtain ⟨n, g⟩ := g
  exact ⟨n + 1, e, h, g⟩
theorem tgN_res {V : Nat → TV} : ∀ {n c x : Nat}, tgN V n c x → vRes V x
  | 0, _, _, h => h.2
  | _ + 1, _, _, ⟨_, _, h⟩ => tgN_res h
theorem tg_res {V : Nat → TV} {c x : Nat} (h : tg V c x) : vRes V x := by
  obtain ⟨n, h⟩ := h
  exact tgN_res h
theorem reach_rk2 {V : Nat → TV} {D : Nat → Prop} {rk : Nat → Nat} (hok : vOK V D rk) {c x : Nat} (hc : D c) (h : reach V c x) : c = x ∨ rk x < rk c := by
  refine (h (fun y => D y ∧ (c = y ∨ rk y < rk c)) ?_ ⟨hc, Or.inl rfl⟩).2
  rintro y ⟨hy, hle⟩
  refine ⟨fun e he => ?_, fun a b hp => ?_⟩
  · have := (hok y hy).1 e he
    refine ⟨this.1, Or.inr ?_⟩
    rcases hle with rfl | hle <;> omega
  · have := (hok y hy).2.2 a b hp
    refine ⟨⟨this.1.1, Or.inr ?_⟩, ⟨this.2.1, Or.inr ?_⟩⟩
    · rcases hle with rfl | hle <;> omega
    · rcases hle with rfl | hle <;> omega
theorem tg_of {V : Nat → TV} {D : Nat → Prop} {rk : Nat → Nat} (hok : vOK V D rk) : ∀ (n c x : Nat), rk c < n → D c → reach V c x → vRes V x → (∀ y, vRes V y → reach V c y → reach V x y) → tg V c x
  | 0, c, x, h, _, _, _, _ => by omega
  | n + 1, c, x, h, hc, hr, hx, hall => by
    by_cases hv : vRes V c
    · have h1 := reach_rk2 hok hc hr
      have hdx : D x := hr D (fun y hy => ⟨fun e he => ((hok y hy).1 e he).1, fun a b hp => ⟨((hok y hy).2.2 a b hp).1.1, ((hok y hy).2.2 a b hp).2.1⟩⟩) hc
      have h2 := reach_rk2 hok hdx (hall c hv reach.rfl')
      have : c = x := by
        rcases h1 with q | q
        · exact q
        · rcases h2 with q2 | q2
          · exact q2.symm
          · omega
      subst this
      exact tg_self hv
    · have hv2 : ∃ e, V c = some (.inl e) := Classical.byContradiction (fun q => hv (fun e he => q ⟨e, he⟩))
      obtain ⟨e, he⟩ := hv2
      have h1 := (hok c hc).1 e he
      refine tg_step he (tg_of hok n e x (by omega) h1.1 ?_ hx (fun y hy hy2 => hall y hy ((reach.ref he).trans hy2)))
      rcases hr.inv with rfl | ⟨e2, h2, hr⟩ | ⟨a, b, h2, _⟩
      · exact absurd he (hx e)
      · rw [he] at h2; cases h2; exact hr
      · rw [he] at h2; cases h2
theorem tg_wlk {V : Nat → TV} {D : Nat → Prop} {rk : Nat → Nat} (hok : vOK V D rk) {c x : Nat} (hc : D c) (h : wlk V D c x) (hx : vRes V x) : tg V c x := tg_of hok (rk c + 1) c x (by omega) hc h.2.2.1 hx h.2.2.2
theorem vRes_bind {V : Nat → TV} {i c x : Nat} (hx : x ≠ i) : vRes (vB V i c) x ↔ vRes V x := by
  unfold vRes
  rw [vB_ne V i c hx]
theorem tg_bind {V : Nat → TV} {i c : Nat} (ho : V i = none) (hc : vRes V c) (hne : c ≠ i) {z x : Nat} : tg (vB V i c) z x ↔ (tg V z x ∧ x ≠ i) ∨ (tg V z i ∧ x = c) := by
  have hri : vRes V i := fun e he => by rw [ho] at he; cases he
  constructor
  · rintro ⟨n, h⟩
    induction n generalizing z with
    | zero =>
      obtain ⟨rfl, h⟩ := h
      have hzi : z ≠ i := fun q => h c (by rw [q]; exact vB_same V i c)
      exact Or.inl ⟨tg_self ((vRes_bind hzi).mp h), hzi⟩
    | succ n ih =>
      obtain ⟨e, he, h⟩ := h
      by_cases hzi : z = i
      · subst hzi
        rw [vB_same] at he
        cases he
        refine Or.inr ⟨tg_self hri, ?_⟩
        exact tg_uniq ⟨n, h⟩ (tg_self ((vRes_bind hne).mpr hc))
      · rw [vB_ne V i c hzi] at he
        rcases ih h with ⟨g1, g2⟩ | ⟨g1, g2⟩
        · exact Or.inl ⟨tg_step he g1, g2⟩
        · exact Or.inr ⟨tg_step he g1, g2⟩
  · rintro (⟨⟨n, h⟩, hx⟩ | ⟨⟨n, h⟩, rfl⟩)
    · induction n generalizing z with
      | zero =>
        obtain ⟨rfl, h⟩ := h
        exact tg_self ((vRes_bind hx).mpr h)
      | succ n ih =>
        obtain ⟨e, he, h⟩ := h
        have hzi : z ≠ i := fun q => by rw [q, ho] at he; cases he
        exact tg_step (by rw [vB_ne V i c hzi]; exact he) (ih h)
    · induction n generalizing z with
      | zero =>
        obtain ⟨rfl, h⟩ := h
        exact tg_step (vB_same V z x) (tg_self ((vRes_bind hne).mpr hc))
      | succ n ih =>
        obtain ⟨e, he, h⟩ := h
        have hzi : z ≠ i := fun q => by rw [q, ho] at he; cases he
        exact tg_step (by rw [vB_ne V i x hzi]; exact he) (ih h)
/-- a head comes to what a told left half comes to, or to an open head with nothing but heads -/
def hInv (V : Nat → TV) (D H LT : Nat → Prop) : Prop := ∀ h, D h → H h → (∃ e x, LT e ∧ tg V h x ∧ tg V e x) ∨ (∃ o, tg V h o ∧ V o = none ∧ ∀ v, D v → tg V v o → H v)
def iLL (H LT : Nat → Prop) (q : Nat × Nat) : Prop := (LT q.1 ∨ H q.1) ∧ (LT q.2 ∨ H q.2)
def iNN (H : Nat → Prop) (q : Nat × Nat) : Prop := ¬ H q.1 ∧ ¬ H q.2
def sPr (V : Nat → TV) (D H LT : Nat → Prop) : Prop := ∀ c a b, D c → V c = some (.inr (.inr (a, b))) → (LT a ∨ H a) ∧ ¬ H b
theorem hInv_bind {V : Nat → TV} {D H LT : Nat → Prop} {i c p q : Nat} (hv : hInv V D H LT) (ho : V i = none) (hc : vRes V c) (hne : c ≠ i) (dp : D p) (dq : D q) (tp : tg V p i) (tq : tg V q c) (hit : ((LT p ∨ H p) ∧ (LT q ∨ H q)) ∨ (¬ H p ∧ ¬ H q)) : hInv (vB V i c) D H LT := by
  have up : ∀ {z x}, tg V z x → x ≠ i → tg (vB V i c) z x := fun h1 h2 => (tg_bind ho hc hne).mpr (Or.inl ⟨h1, h2⟩)
  have ui : ∀ {z}, tg V z i → tg (vB V i c) z c := fun h1 => (tg_bind ho hc hne).mpr (Or.inr ⟨h1, rfl⟩)
  intro h hd hh
  rcases hv h hd hh with ⟨e, x, he, h1, h2⟩ | ⟨o, h1, h2, h3⟩
  · by_cases hx : x = i
    · subst hx
      exact Or.inl ⟨e, c, he, ui h1, ui h2⟩
    · exact Or.inl ⟨e, x, he, up h1 hx, up h2 hx⟩
  · by_cases hoi : o = i
    · subst hoi
      have hp := h3 p dp tp
      rcases hit with ⟨_, hq⟩ | ⟨hq, _⟩
      · rcases hq with hq | hq
        · exact Or.inl ⟨q, c, hq, ui h1, up tq hne⟩
        · rcases hv q dq hq with ⟨e, x, he, g1, g2⟩ | ⟨o2, g1, g2, g3⟩
          · have := tg_uniq tq g1
            subst this
            exact Or.inl ⟨e, c, he, ui h1, up g2 hne⟩
          · have := tg_uniq tq g1
            subst this
            refine Or.inr ⟨c, ui h1, by rw [vB_ne V o c hne]; exact g2, fun v dv tv => ?_⟩
            rcases (tg_bind ho hc hne).mp tv with ⟨k1, _⟩ | ⟨k1, _⟩
            · exact g3 v dv k1
            · exact h3 v dv k1
      · exact absurd hp hq
    · by_cases hoc : o = c
      · subst hoc
        have hq := h3 q dq tq
        rcases hit with ⟨hp, _⟩ | ⟨_, hp⟩
        · rcases hp with hp | hp
          · exact Or.inl ⟨p, o, hp, up h1 hne, ui tp⟩
          · rcases hv p dp hp with ⟨e, x, he, g1, g2⟩ | ⟨o2, g1, g2, g3⟩
            · have := tg_uniq tp g1
              subst this
              exact Or.inl ⟨e, o, he, up h1 hne, ui g2⟩
            · have := tg_uniq tp g1
              subst this
              refine Or.inr ⟨o, up h1 hne, by rw [vB_ne V i o hne]; exact h2, fun v dv tv => ?_⟩
              rcases (tg_bind ho hc hne).mp tv with ⟨k1, _⟩ | ⟨k1, _⟩
              · exact h3 v dv k1
              · exact g3 v dv k1
        · exact absurd hq hp
      · refine Or.inr ⟨o, up h1 hoi, by rw [vB_ne V i c hoi]; exact h2, fun v dv tv => ?_⟩
        rcases (tg_bind ho hc hne).mp tv with ⟨k1, _⟩ | ⟨_, k1⟩
        · exact h3 v dv k1
        · exact absurd k1 hoc
/-! products -/
def prodL (f : Nat → Nat) : List Nat → Nat
  | [] => 1
  | k :: ks => f k * prodL f ks
theorem prodL_mono {f g : Nat → Nat} : ∀ {ks : List Nat}, (∀ k ∈ ks, f k ≤ g k) → prodL f ks ≤ prodL g ks
  | [], _ => Nat.le_refl _
  | k :: ks, h => Nat.mul_le_mul (h k List.mem_cons_self) (prodL_mono (fun j hj => h j (List.mem_cons_of_mem _ hj)))
theorem prodL_two {f g r : Nat → Nat} {p : Nat} : ∀ {ks : List Nat}, p ∈ ks → (∀ k ∈ ks, f k ≤ r k ∧ g k ≤ r k) → f p + g p ≤ r p → prodL f ks + prodL g ks ≤ prodL r ks
  | [], hp, _, _ => by cases hp
  | k :: ks, hp, h, hs => by
    have h1 := h k List.mem_cons_self
    have h2 : ∀ j ∈ ks, f j ≤ r j ∧ g j ≤ r j := fun j hj => h j (List.mem_cons_of_mem _ hj)
    have hf := prodL_mono (f := f) (g := r) (fun j hj => (h2 j hj).1)
    have hg := prodL_mono (f := g) (g := r) (fun j hj => (h2 j hj).2)
    simp only [prodL]
    by_cases hk : p = k
    · subst hk
      calc f p * prodL f ks + g p * prodL g ks ≤ f p * prodL r ks + g p * prodL r ks := Nat.add_le_add (Nat.mul_le_mul_left _ hf) (Nat.mul_le_mul_left _ hg)
        _ = (f p + g p) * prodL r ks := (Nat.add_mul _ _ _).symm
        _ ≤ r p * prodL r ks := Nat.mul_le_mul_right _ hs
    · have hp2 : p ∈ ks := by
        rcases List.mem_cons.mp hp with q | q
        · exact absurd q hk
        · exact q
      have ih := prodL_two (r := r) hp2 h2 hs
      calc f k * prodL f ks + g k * prodL g ks ≤ r k * prodL f ks + r k * prodL g ks := Nat.add_le_add (Nat.mul_le_mul_right _ h1.1) (Nat.mul_le_mul_right _ h1.2)
        _ = r k * (prodL f ks + prodL g ks) := (Nat.mul_add _ _ _).symm
        _ ≤ r k * prodL r ks := Nat.mul_le_mul_left _ ih
theorem prodL_one : ∀ (ks : List Nat), prodL (fun _ => 1) ks = 1
  | [] => rfl
  | _ :: ks => by simp only [prodL, prodL_one ks]
theorem prodL_pos {f : Nat → Nat} : ∀ {ks : List Nat}, (∀ k ∈ ks, 0 < f k) → 0 < prodL f ks
  | [], _ => by simp [prodL]
  | k :: ks, h => Nat.mul_pos (h k List.mem_cons_self) (prodL_pos (fun j hj => h j (List.mem_cons_of_mem _ hj)))
def sumL (f : Nat → Nat) : List Nat → Nat
  | [] => 0
  | k :: ks => f k + sumL f ks
theorem e34 : ∀ n : Nat, (n + 1) * 3 ^ n * 16 ≤ 27 * 4 ^ n
  | 0 => by decide
  | 1 => by decide
  | 2 => by decide
  | n + 3 => by
    have ih := e34 (n + 2)
    have h1 : 3 ^ (n + 3) = 3 ^ (n + 2) * 3 := Nat.pow_succ 3 (n + 2)
    have h2 : 4 ^ (n + 3) = 4 ^ (n + 2) * 4 := Nat.pow_succ 4 (n + 2)
    rw [h1, h2]
    generalize 3 ^ (n + 2) = u at ih
    generalize 4 ^ (n + 2) = w at ih
    have h3 : (n + 3 + 1) * 3 ≤ (n + 2 + 1) * 4 := by omega
    calc (n + 3 + 1) * (u * 3) * 16 = ((n + 3 + 1) * 3) * (u * 16) := by
          rw [Nat.mul_comm u 3, ← Nat.mul_assoc, Nat.mul_assoc]
      _ ≤ ((n + 2 + 1) * 4) * (u * 16) := Nat.mul_le_mul_right _ h3
      _ = ((n + 2 + 1) * u * 16) * 4 := by
          rw [Nat.mul_right_comm, ← Nat.mul_assoc]
      _ ≤ (27 * w) * 4 := Nat.mul_le_mul_right _ ih
      _ = 27 * (w * 4) := Nat.mul_assoc _ _ _
theorem prodL_34 {f : Nat → Nat} : ∀ (ks : List Nat), prodL (fun k => 1 + f k) ks * 3 ^ sumL f ks * 16 ^ ks.length ≤ 27 ^ ks.length * 4 ^ sumL f ks
  | [] => by simp [prodL, sumL]
  | k :: ks => by
    have ih := prodL_34 (f := f) ks
    have h1 := e34 (f k)
    simp only [prodL, sumL, List.length_cons, Nat.pow_succ, Nat.pow_add]
    generalize prodL (fun k => 1 + f k) ks = p at ih ⊢
    generalize 3 ^ sumL f ks = a at ih ⊢
    generalize 4 ^ sumL f ks = b at ih ⊢
    generalize 16 ^ ks.length = x at ih ⊢
    generalize 27 ^ ks.length = y at ih ⊢
    generalize 3 ^ f k = u at h1 ⊢
    generalize 4 ^ f k = w at h1 ⊢
    calc (1 + f k) * p * (u * a) * (x * 16) = ((f k + 1) * u * 16) * (p * a * x) := by
          rw [Nat.add_comm 1 (f k)]
          simp only [Nat.mul_assoc, Nat.mul_left_comm, Nat.mul_comm]
      _ ≤ (27 * w) * (y * b) := Nat.mul_le_mul h1 ih
      _ = y * 27 * (w * b) := by simp only [Nat.mul_assoc, Nat.mul_left_comm, Nat.mul_comm]
theorem prodL_le {f : Nat → Nat} {ks : List Nat} {k s : Nat} (hk : ks.length ≤ k) (hs : sumL f ks ≤ s) : prodL (fun k => 1 + f k) ks * 3 ^ s * 16 ^ k ≤ 27 ^ k * 4 ^ s := by
  have h := prodL_34 (f := f) ks
  obtain ⟨d, rfl⟩ : ∃ d, k = ks.length + d := ⟨k - ks.length, by omega⟩
  obtain ⟨e, rfl⟩ : ∃ e, s = sumL f ks + e := ⟨s - sumL f ks, by omega⟩
  have h3 : 3 ^ e ≤ 4 ^ e := Nat.pow_le_pow_left (by decide) e
  have h4 : 16 ^ d ≤ 27 ^ d := Nat.pow_le_pow_left (by decide) d
  rw [Nat.pow_add, Nat.pow_add, Nat.pow_add, Nat.pow_add]
  generalize prodL (fun k => 1 + f k) ks = p at h ⊢
  generalize 3 ^ sumL f ks = a at h ⊢
  generalize 4 ^ sumL f ks = b at h ⊢
  generalize 16 ^ ks.length = x at h ⊢
  generalize 27 ^ ks.length = y at h ⊢
  calc p * (a * 3 ^ e) * (x * 16 ^ d) = (p * a * x) * (3 ^ e * 16 ^ d) := by simp only [Nat.mul_assoc, Nat.mul_left_comm, Nat.mul_comm]
    _ ≤ (y * b) * (4 ^ e * 27 ^ d) := Nat.mul_le_mul h (Nat.mul_le_mul h3 h4)
    _ = y * 27 ^ d * (b * 4 ^ e) := by simp only [Nat.mul_assoc, Nat.mul_left_comm, Nat.mul_comm]
theorem prodL_A {f : Nat → Nat} {ks : List Nat} (hk : ks.length ≤ 10) (hs : sumL f ks ≤ 27) : prodL (fun k => 1 + f k) ks ≤ 442368 := by
  have h := prodL_le (f := f) hk hs
  generalize prodL (fun k => 1 + f k) ks = p at h ⊢
  have e : (27 : Nat) ^ 10 * 4 ^ 27 = 442368 * (3 ^ 27 * 16 ^ 10) := by decide
  rw [e, Nat.mul_assoc] at h
  exact Nat.le_of_mul_le_mul_right h (Nat.mul_pos (Nat.pow_pos (by decide)) (Nat.pow_pos (by decide)))
theorem prodL_B {f : Nat → Nat} {ks : List Nat} (hk : ks.length ≤ 11) (hs : sumL f ks ≤ 24) : prodL (fun k => 1 + f k) ks ≤ 442368 := by
  have h := prodL_le (f := f) hk hs
  generalize prodL (fun k => 1 + f k) ks = p at h ⊢
  have e : (27 : Nat) ^ 11 * 4 ^ 24 ≤ 442368 * (3 ^ 24 * 16 ^ 11) := by decide
  rw [Nat.mul_assoc] at h
  exact Nat.le_of_mul_le_mul_right (Nat.le_trans h e) (Nat.mul_pos (Nat.pow_pos (by decide)) (Nat.pow_pos (by decide)))
theorem countP_lt2 {p q : Nat → Bool} {c d : Nat} (hcd : c ≠ d) : ∀ {l : List Nat}, (∀ x ∈ l, p x = true → q x = true) → c ∈ l → d ∈ l → q c = true → q d = true → p c = false → p d = false → l.countP p + 2 ≤ l.countP q
  | [], _, h, _, _, _, _, _ => by cases h
  | y :: t, h, hc, hd, qc, qd, pc, pd => by
    have hm : ∀ z ∈ t, p z = true → q z = true := fun z hz => h z (List.mem_cons_of_mem _ hz)
    rw [List.countP_cons, List.countP_cons]
    by_cases h1 : y = c
    · subst h1
      have hd2 : d ∈ t := by
        rcases List.mem_cons.mp hd with e | e
        · exact absurd e.symm hcd
        · exact e
      have := countP_lt hm ⟨d, hd2, qd, pd⟩
      rw [if_pos qc, if_neg (by rw [pc]; decide)]
      omega
    · by_cases h2 : y = d
      · subst h2
        have hc2 : c ∈ t := by
          rcases List.mem_cons.mp hc with e | e
          · exact absurd e hcd
          · exact e
        have := countP_lt hm ⟨c, hc2, qc, pc⟩
        rw [if_pos qd, if_neg (by rw [pd]; decide)]
        omega
      · have hc2 : c ∈ t := by
          rcases List.mem_cons.mp hc with e | e
          · exact absurd e.symm h1
          · exact e
        have hd2 : d ∈ t := by
          rcases List.mem_cons.mp hd with e | e
          · exact absurd e.symm h2
          · exact e
        have ih := countP_lt2 hcd hm hc2 hd2 qc qd pc pd
        have hy := h y List.mem_cons_self
        by_cases h3 : p y = true
        · rw [if_pos h3, if_pos (hy h3)]; omega
        · rw [if_neg h3]; split <;> omega
