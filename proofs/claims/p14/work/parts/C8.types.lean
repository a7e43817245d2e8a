/-! TYPES: lists and letters, what is bound is of its kind -/
/-- codes of lists (LR), codes of letters (Lt) -/
def tyOK (V : Nat → TV) (D : Nat → Prop) (th : Nat → Nat) (nm : Nat → Bool) (LR Lt : Nat → Prop) : Prop :=
  (∀ c a b, D c → V c = some (.inr (.inr (a, b))) → LR c → LR b ∧ (nm (th a) = true → LR a) ∧ (nm (th a) = false → Lt a)) ∧
  (∀ c a b, D c → V c = some (.inr (.inr (a, b))) → Lt c → ((nm (th a) = true → LR a) ∧ (nm (th a) = false → Lt a)) ∧ (nm (th b) = true → LR b) ∧ (nm (th b) = false → Lt b)) ∧
  (∀ c, D c → (∀ a b, V c ≠ some (.inr (.inr (a, b)))) → 11 < th c → LR c → Lt c → False) ∧
  (∀ c, D c → Lt c → nm (th c) = false) ∧ (∀ c, D c → th c ≤ 11 → LR c ∧ Lt c) ∧ ∀ n, nm n = true → 11 < n
/-- bound codes are what they are bound to -/
def vTy (W : Nat → TV) (D LR Lt : Nat → Prop) : Prop := ∀ c e, D c → W c = some (.inl e) → (LR c → LR e) ∧ (Lt c → Lt e)
theorem tgN_ty {W : Nat → TV} {D LR Lt : Nat → Prop} {rk : Nat → Nat} (hok : vOK W D rk) (hv : vTy W D LR Lt) : ∀ {n c x : Nat}, D c → tgN W n c x → (LR c → LR x) ∧ (Lt c → Lt x)
  | 0, c, x, _, h => by
    obtain ⟨rfl, _⟩ := h
    exact ⟨id, id⟩
  | n + 1, c, x, hc, h => by
    obtain ⟨e, h1, h2⟩ := h
    have g := hv c e hc h1
    have ih := tgN_ty hok hv ((hok c hc).1 e h1).1 h2
    exact ⟨fun q => ih.1 (g.1 q), fun q => ih.2 (g.2 q)⟩
theorem tg_ty {W : Nat → TV} {D LR Lt : Nat → Prop} {rk : Nat → Nat} (hok : vOK W D rk) (hv : vTy W D LR Lt) {c x : Nat} (hc : D c) (h : tg W c x) : (LR c → LR x) ∧ (Lt c → Lt x) := by
  obtain ⟨n, h⟩ := h
  exact tgN_ty hok hv hc h
def nmO (th : Nat → Nat) (w : Nat) : Bool := decide (11 < w) && (decide (th 0 = w) || decide (th 1 = w) || decide (th 2 = w) || decide (th 3 = w) || decide (th 4 = w) || decide (th 5 = w))
theorem nmO_iff {th : Nat → Nat} {w : Nat} : nmO th w = true ↔ 11 < w ∧ ∃ v, v < 6 ∧ th v = w := by
  unfold nmO
  simp only [Bool.and_eq_true, Bool.or_eq_true, decide_eq_true_eq]
  constructor
  · rintro ⟨h, ((((h1 | h1) | h1) | h1) | h1) | h1⟩
    · exact ⟨h, 0, by omega, h1⟩
    · exact ⟨h, 1, by omega, h1⟩
    · exact ⟨h, 2, by omega, h1⟩
    · exact ⟨h, 3, by omega, h1⟩
    · exact ⟨h, 4, by omega, h1⟩
    · exact ⟨h, 5, by omega, h1⟩
  · rintro ⟨h, v, hv, e⟩
    refine ⟨h, ?_⟩
    match v, hv with
    | 0, _ => exact Or.inl (Or.inl (Or.inl (Or.inl (Or.inl e))))
    | 1, _ => exact Or.inl (Or.inl (Or.inl (Or.inl (Or.inr e))))
    | 2, _ => exact Or.inl (Or.inl (Or.inl (Or.inr e)))
    | 3, _ => exact Or.inl (Or.inl (Or.inr e))
    | 4, _ => exact Or.inl (Or.inr e)
    | 5, _ => exact Or.inr e
/-- n steps of telling lists from letters -/
def tyS (V : Nat → TV) (D R0 L0 : Nat → Prop) (th : Nat → Nat) (nm : Nat → Bool) : Nat → (Nat → Prop) × (Nat → Prop)
  | 0 => (R0, L0)
  | n + 1 => (fun c => (tyS V D R0 L0 th nm n).1 c ∨ ∃ d a b, D d ∧ V d = some (.inr (.inr (a, b))) ∧ (((tyS V D R0 L0 th nm n).1 d ∧ c = b) ∨ (((tyS V D R0 L0 th nm n).1 d ∨ (tyS V D R0 L0 th nm n).2 d) ∧ c = a ∧ nm (th a) = true) ∨ ((tyS V D R0 L0 th nm n).2 d ∧ c = b ∧ nm (th b) = true)),
      fun c => (tyS V D R0 L0 th nm n).2 c ∨ ∃ d a b, D d ∧ V d = some (.inr (.inr (a, b))) ∧ ((((tyS V D R0 L0 th nm n).1 d ∨ (tyS V D R0 L0 th nm n).2 d) ∧ c = a ∧ nm (th a) = false) ∨ ((tyS V D R0 L0 th nm n).2 d ∧ c = b ∧ nm (th b) = false)))
def gLR (V : Nat → TV) (D R0 L0 : Nat → Prop) (th : Nat → Nat) (nm : Nat → Bool) (c : Nat) : Prop := ∃ n, (tyS V D R0 L0 th nm n).1 c
def gLt (V : Nat → TV) (D R0 L0 : Nat → Prop) (th : Nat → Nat) (nm : Nat → Bool) (c : Nat) : Prop := ∃ n, (tyS V D R0 L0 th nm n).2 c
section
variable {V : Nat → TV} {D R0 L0 : Nat → Prop} {th : Nat → Nat} {nm : Nat → Bool}
theorem gLR_right {d a b : Nat} (hd : D d) (hv : V d = some (.inr (.inr (a, b)))) (h : gLR V D R0 L0 th nm d) : gLR V D R0 L0 th nm b := by
  obtain ⟨n, h⟩ := h
  exact ⟨n + 1, Or.inr ⟨d, a, b, hd, hv, Or.inl ⟨h, rfl⟩⟩⟩
theorem gL_left {d a b : Nat} (hd : D d) (hv : V d = some (.inr (.inr (a, b)))) (h : gLR V D R0 L0 th nm d ∨ gLt V D R0 L0 th nm d) : (nm (th a) = true → gLR V D R0 L0 th nm a) ∧ (nm (th a) = false → gLt V D R0 L0 th nm a) := by
  have : ∃ n, (tyS V D R0 L0 th nm n).1 d ∨ (tyS V D R0 L0 th nm n).2 d := by
    rcases h with ⟨n, h⟩ | ⟨n, h⟩
    · exact ⟨n, Or.inl h⟩
    · exact ⟨n, Or.inr h⟩
  obtain ⟨n, h⟩ := this
  exact ⟨fun q => ⟨n + 1, Or.inr ⟨d, a, b, hd, hv, Or.inr (Or.inl ⟨h, rfl, q⟩)⟩⟩, fun q => ⟨n + 1, Or.inr ⟨d, a, b, hd, hv, Or.inl ⟨h, rfl, q⟩⟩⟩⟩
theorem gLt_right {d a b : Nat} (hd : D d) (hv : V d = some (.inr (.inr (a, b)))) (h : gLt V D R0 L0 th nm d) : (nm (th b) = true → gLR V D R0 L0 th nm b) ∧ (nm (th b) = false → gLt V D R0 L0 th nm b) := by
  obtain ⟨n, h⟩ := h
  exact ⟨fun q => ⟨n + 1, Or.inr ⟨d, a, b, hd, hv, Or.inr (Or.inr ⟨h, rfl, q⟩)⟩⟩, fun q => ⟨n + 1, Or.inr ⟨d, a, b, hd, hv, Or.inr ⟨h, rfl, q⟩⟩⟩⟩
/-- what holds of the first ones and is handed on, holds of all -/
theorem gL_ind {A B : Nat → Prop} (hA : ∀ c, R0 c → A c) (hB : ∀ c, L0 c → B c) (h1 : ∀ d a b, D d → V d = some (.inr (.inr (a, b))) → (A d → A b) ∧ ((A d ∨ B d) → (nm (th a) = true → A a) ∧ (nm (th a) = false → B a)) ∧ (B d → (nm (th b) = true → A b) ∧ (nm (th b) = false → B b))) : (∀ c, gLR V D R0 L0 th nm c → A c) ∧ ∀ c, gLt V D R0 L0 th nm c → B c := by
  have : ∀ n c, ((tyS V D R0 L0 th nm n).1 c → A c) ∧ ((tyS V D R0 L0 th nm n).2 c → B c) := by
    intro n
    induction n with
    | zero => exact fun c => ⟨hA c, hB c⟩
    | succ n ih =>
      have or2 : ∀ d, ((tyS V D R0 L0 th nm n).1 d ∨ (tyS V D R0 L0 th nm n).2 d) → A d ∨ B d := fun d h => h.imp (ih d).1 (ih d).2
      refine fun c => ⟨fun h => ?_, fun h => ?_⟩
      · rcases h with h | ⟨d, a, b, hd, hv, h | h | h⟩
        · exact (ih c).1 h
        · rw [h.2]; exact (h1 d a b hd hv).1 ((ih d).1 h.1)
        · rw [h.2.1]; exact ((h1 d a b hd hv).2.1 (or2 d h.1)).1 h.2.2
        · rw [h.2.1]; exact ((h1 d a b hd hv).2.2 ((ih d).2 h.1)).1 h.2.2
      · rcases h with h | ⟨d, a, b, hd, hv, h | h⟩
        · exact (ih c).2 h
        · rw [h.2.1]; exact ((h1 d a b hd hv).2.1 (or2 d h.1)).2 h.2.2
        · rw [h.2.1]; exact ((h1 d a b hd hv).2.2 ((ih d).2 h.1)).2 h.2.2
  exact ⟨fun c ⟨n, h⟩ => (this n c).1 h, fun c ⟨n, h⟩ => (this n c).2 h⟩
theorem gL_mono {V2 : Nat → TV} {D2 R2 L2 : Nat → Prop} (hR : ∀ c, R0 c → gLR V2 D2 R2 L2 th nm c) (hL : ∀ c, L0 c → gLt V2 D2 R2 L2 th nm c) (hv : ∀ d a b, D d → V d = some (.inr (.inr (a, b))) → D2 d ∧ V2 d = some (.inr (.inr (a, b)))) : (∀ c, gLR V D R0 L0 th nm c → gLR V2 D2 R2 L2 th nm c) ∧ ∀ c, gLt V D R0 L0 th nm c → gLt V2 D2 R2 L2 th nm c :=
  gL_ind hR hL (fun d a b hd h => by
    obtain ⟨q1, q2⟩ := hv d a b hd h
    exact ⟨fun z => gLR_right q1 q2 z, fun z => gL_left q1 q2 z, fun z => gLt_right q1 q2 z⟩)
end
