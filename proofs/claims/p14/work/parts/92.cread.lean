/-! THE CLASS's READER is the pure reader: its loop -/
def cOut (v : Option rv) : (Nat ⊕ (Nat × Nat × Option Nat)) → Prop
  | .inl j => v = some (.inl ((-1000) - nI j))
  | .inr (ng, _, none) => v = some (.inl (nI ng))
  | .inr (_, _, some b) => v = some (.inl ((-2000) - nI b))
theorem cs_5b {tx : Nat → Int32} {n : Nat} (hn : n ≤ 96) {s0 : rSg} (hr : s0 687 1 = nI n) (htx : ∀ i, i < n → s0 688 i = tx i) : ∀ (f i : Nat) (S : rdS) (s : rSg), i + f = n → cRd s S → rdOK i S → stOK S.1 → rd s0 s → g_5_11 687 96 (nI n) (nI i) s (fun v t => ∃ r, RRun tx n f i S r ∧ cOut v r ∧ rd s0 t) := by
  intro f
  induction f with
  | zero =>
    intro i S s hi hs hok hst hk
    obtain ⟨l, ng, nt, bad⟩ := S
    obtain ⟨a1, a2, a3, a4⟩ := hs
    simp only at a1 a2 a3 a4
    obtain rfl : i = n := by omega
    have hb9 : ∀ x, bad = some x → x < 1000 := fun x hx => by have := hok.2.2.2.1 x hx; omega
    refine w_5_11 s 687 96 row687 _ _ ⟨fun _ => ?_, fun q => absurd (nI_le (by omega) (by omega)) q⟩
    cases l with
    | nil =>
      refine ⟨fun _ => ⟨fun h => (s_25 scr231 s _ _).imp ?_, fun h => ?_⟩, fun q => absurd (by rw [a1.1]; decide) q⟩
      · have hbn : bad = none := (badI_m1 hb9).mp (by rw [← a4]; exact h)
        subst hbn
        rintro _ t ⟨rfl, ht⟩
        exact ⟨rfl, _, Or.inl ⟨rfl, rfl⟩, by rw [ht 678 (Or.inr (by decide)), a2]; rfl, hk.sc ht⟩
      · cases bad with
        | none => exact absurd a4 h
        | some b => exact ⟨_, Or.inl ⟨rfl, rfl⟩, by rw [a4]; rfl, hk⟩
    | cons w l =>
      refine ⟨fun q => ?_, fun _ => ⟨_, rfl, rfl, hk⟩⟩
      have e4 : s 678 4 = nI (l.length + 1) := a1.1
      have := hok.1
      simp only [List.length_cons] at this
      rw [e4] at q
      exact absurd ((nI_leI (a := l.length + 1) (b := 0) (by omega) (by decide)).mp q) (by omega)
  | succ f ih =>
    intro i S s hi hs hok hst hk
    obtain ⟨l, ng, nt, bad⟩ := S
    refine w_5_11 s 687 96 row687 _ _ ⟨fun q => absurd ((nI_leI (by omega) (by omega)).mp q) (by omega), fun _ => ?_⟩
    cases l with
    | nil =>
      refine ⟨fun _ => ⟨_, Or.inr ⟨by omega, rfl⟩, rfl, hk⟩, fun q => absurd ?_ q⟩
      rw [hs.1.1]
      show nI 0 < 1
      decide
    | cons w l =>
      have e4 : s 678 4 = nI (l.length + 1) := hs.1.1
      have hlen := hok.1
      simp only [List.length_cons] at hlen
      refine ⟨fun q => ?_, fun _ => ?_⟩
      · rw [e4] at q
        exact absurd ((nI_ltI (a := l.length + 1) (b := 1) (by omega) (by decide)).mp q) (by omega)
      refine w_17 s 687 96 row687 (nI i) ⟨fun q => absurd q (nI_pos (by omega)), fun _ => ⟨fun q => ?_, fun _ => ⟨fun q => absurd ((nI_leI (a := 96) (by decide) (by omega)).mp q) (by omega), fun _ => ⟨rIn_nI (by omega) (by decide), ?_⟩⟩⟩⟩
      · rw [hk 687 (by omega), hr] at q
        exact absurd ((nI_leI (by omega) (by omega)).mp q) (by omega)
      rw [nI_clamp (by omega), hk 688 (by omega), htx i (by omega)]
      refine ⟨_, rfl, (cs_8 hs (hst w (List.mem_cons_self ..)) (by omega) hok (tx i)).imp ?_⟩
      rintro _ t (⟨S2, g1, rfl, g2, g3⟩ | ⟨g1, rfl, g3⟩)
      · have ok2 := rdOK_step hok (fun x hx => hst x (List.mem_cons_of_mem _ hx)) g1
        rw [nI_1]
        refine ⟨_, rfl, fun _ => (ih (i + 1) S2 t (by omega) g2 ok2.1 ok2.2 (hk.trans g3)).imp ?_, fun q => absurd (by decide) q⟩
        rintro v u ⟨r, r1, r2, r3⟩
        exact ⟨r, Or.inl ⟨S2, g1, r1⟩, r2, r3⟩
      · exact ⟨_, rfl, fun q => absurd rfl q, fun _ => ⟨_, Or.inr ⟨g1, rfl⟩, rfl, hk.trans g3⟩⟩
