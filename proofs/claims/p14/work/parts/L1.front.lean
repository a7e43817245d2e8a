/-! MEET, THE COUNT: the leaves of one class: turning fresh values times the heads, still ones, and a told end -/
theorem countP_lt1 {p q : Nat → Bool} {c : Nat} : ∀ {l : List Nat}, (∀ x ∈ l, p x = true → q x = true) → c ∈ l → q c = true → p c = false → l.countP p + 1 ≤ l.countP q
  | [], _, h, _, _ => by cases h
  | x :: l, h, hc, h1, h2 => by
    have hl : ∀ y ∈ l, p y = true → q y = true := fun y hy => h y (List.mem_cons_of_mem _ hy)
    rw [List.countP_cons, List.countP_cons]
    rcases List.mem_cons.mp hc with rfl | hc
    · have := List.countP_mono_left (l := l) hl
      rw [if_pos h1, if_neg (by rw [h2]; decide)]
      omega
    · have ih := countP_lt1 hl hc h1 h2
      have hx := h x List.mem_cons_self
      cases hp : p x with
      | true =>
        rw [if_pos rfl, if_pos (hx hp)]
        omega
      | false =>
        rw [if_neg (by decide)]
        omega
/-- so many of a list up to w -/
def upTo (Fs : List Nat) (w : Nat) : Nat := Fs.countP (fun f => decide (f ≤ w))
theorem upTo_mono {Fs : List Nat} {u w : Nat} (h : u ≤ w) : upTo Fs u ≤ upTo Fs w := List.countP_mono_left (fun f _ hf => by simp at hf ⊢; omega)
theorem upTo_lt {Fs : List Nat} {u w : Nat} (h : u < w) (hw : w ∈ Fs) : upTo Fs u + 1 ≤ upTo Fs w := countP_lt1 (fun f _ hf => by simp at hf ⊢; omega) hw (by simp) (by simp; omega)
theorem upTo_le (Fs : List Nat) (w : Nat) : upTo Fs w ≤ Fs.length := List.countP_le_length
theorem fct_cnt {tn : Nat → Bool} {S : Nat → Prop} (hS : ∀ x y, S (nd x y) → S x ∧ S y) {b t H E : Nat} {Fs Ns : List Nat} (hb : 11 ≤ b) (hE : 1 ≤ E)
    (hF : ∀ x y, S (nd x y) → b < nd x y → nd x y ≤ t → fct tn b (nd x y) ≤ E ∨ (tn (nd x y) = true ∧ nd x y ∈ Fs ∧ fct tn b x ≤ H) ∨ (tn (nd x y) = false ∧ nd x y ∈ Ns)) :
    ∀ (n w : Nat), w < n → S w → w ≤ t → fct tn b w ≤ upTo Fs w * H + upTo Ns w + E
  | 0, w, h, _, _ => by omega
  | n + 1, w, h, hw, hwt => by
    by_cases hlow : w ≤ b
    · rw [fct_low hlow]
      omega
    · obtain ⟨x, y, rfl⟩ := nd_ex (show 11 < w by omega)
      have q2 := nd_gt2 x y
      have hs := hS x y hw
      have ih := fct_cnt hS hb hE hF n y (by omega) hs.2 (by omega)
      rcases hF x y hw (by omega) hwt with g | ⟨g1, g2, g3⟩ | ⟨g1, g2⟩
      · omega
      · rw [fct_nd hb (by omega), g1, if_pos rfl]
        have k1 := upTo_lt q2 g2
        have k2 := upTo_mono (Fs := Ns) (Nat.le_of_lt q2)
        have k3 := Nat.mul_le_mul_right H k1
        rw [Nat.add_mul, Nat.one_mul] at k3
        omega
      · rw [fct_nd hb (by omega), g1, if_neg (by decide)]
        have k1 := upTo_lt q2 g2
        have k2 := upTo_mono (Fs := Fs) (Nat.le_of_lt q2)
        have k3 := Nat.mul_le_mul_right H k2
        omega
/-- the leaves of a told term: its pairs of the class, and one -/
theorem fct_told {tn : Nat → Bool} {V : Nat → TV} {D : Nat → Prop} {th : Nat → Nat} (hs : vSol V D th) {b t : Nat} (hb : 11 ≤ b) {T : Nat → Prop} (hT : ∀ c, T c → D c ∧ ((∃ x y, V c = some (.inr (.inr (x, y))) ∧ T x ∧ T y) ∨ th c ≤ b ∨ t ≤ th c)) (sz : Nat → Nat) (hz : ∀ c x y, T c → V c = some (.inr (.inr (x, y))) → b < th c → sz x + sz y + 1 ≤ sz c) : ∀ (n c : Nat), th c < n → T c → th c < t → fct tn b (th c) ≤ sz c + 1
  | 0, c, h, _, _ => by omega
  | n + 1, c, h, hc, hct => by
    by_cases hlow : th c ≤ b
    · rw [fct_low hlow]
      omega
    · rcases (hT c hc).2 with ⟨x, y, hv, tx, ty⟩ | q | q
      · have e := (hs c (hT c hc).1).2.2 x y hv
        have q1 := nd_gt1 (th x) (th y)
        have q2 := nd_gt2 (th x) (th y)
        have i1 := fct_told (tn := tn) hs hb hT sz hz n x (by omega) tx (by omega)
        have i2 := fct_told (tn := tn) hs hb hT sz hz n y (by omega) ty (by omega)
        have k := hz c x y hc hv (by omega)
        rw [e, fct_nd hb (by omega)]
        split
        · omega
        · have := fct_pos tn b (th x)
          omega
      · omega
      · omega
