/-! THE REFERENCE: its reader -/
def gAw2 (c : Int32) : List Int32 := if c = 65 then [116, 116, 116] else if c = 38 ∨ c = 124 then [103, 103] else []
theorem ms_134c {s : rSg} {l : List Int32} (hs : aw s l) (hl : l.length < 350) (c : Int32) : g_134_109 c s (fun v t => v = some (.inl 1) ∧ aw t (gAw2 c ++ l) ∧ mK [755] [17] s t) := by
  have and2 : (c = 38 ∨ c = 124) → EvS rSkel 1 131 [.inr (.inr (some 725)), .inl 2, .inl 103] s (fun v49 t50 => v49 = none ∧ some (.inl 1 : rv) = some (.inl 1) ∧ aw t50 (gAw2 c ++ l) ∧ mK [755] [17] s t50) := fun h => by
    refine (ms_131 hs (N := 2) (by decide) (by omega) 103).imp ?_
    rintro _ t ⟨rfl, ht, kt⟩
    refine ⟨rfl, rfl, ?_, kt⟩
    unfold gAw2
    rw [if_neg (by rcases h with rfl | rfl <;> decide), if_pos h]
    exact ht
  refine w_134_109 s c ⟨fun h65 => ⟨fun h => and2 (Or.inl h), fun h38 => ⟨fun h124 => ⟨rfl, ?_, mK.rfl'⟩, fun h => and2 (Or.inr (Classical.not_not.mp h))⟩⟩, fun h65 => (ms_131 hs (N := 3) (by decide) (by omega) 116).imp ?_⟩
  · unfold gAw2
    rw [if_neg h65, if_neg (fun q => q.elim h38 h124)]
    exact hs
  · have e : c = 65 := Classical.not_not.mp h65
    rintro _ t ⟨rfl, ht, kt⟩
    refine ⟨rfl, fun h => absurd h (by rw [e]; decide), fun _ => ⟨fun _ => ⟨rfl, ?_, kt⟩, fun h => absurd (Classical.not_not.mp h) (by rw [e]; decide)⟩⟩
    unfold gAw2
    rw [if_pos e]
    exact ht
def gRd (s t : rSg) (c : Int32) (l : List Int32) : Prop := aw t (gAw c ++ l) ∧ t 725 45 = s 725 45 + 1 ∧ t 725 44 = (if s 725 45 = 24 ∧ ¬ 0 ≤ s 725 44 then s 725 43 else s 725 44) ∧ mK [755] [17, 44, 45] s t
theorem ms_134b {s : rSg} {l : List Int32} (hs : aw s l) (hl : l.length < 300) (c : Int32) : g_134_50 c s (fun v t => v = some (.inl 1) ∧ gRd s t c l) := by
  have main : ∀ (u : rSg), aw u l → u 725 45 = s 725 45 + 1 → u 725 44 = (if s 725 45 = 24 ∧ ¬ 0 ≤ s 725 44 then s 725 43 else s 725 44) → mK [755] [17, 44, 45] s u → (c = 61 ∨ c = 35 ∨ c = 77 → EvS rSkel 1 131 [.inr (.inr (some 725)), .inl 2, .inl 116] u (fun v11 t12 => v11 = none ∧ g_134_109 c t12 (fun v t => v = some (.inl 1) ∧ gRd s t c l))) ∧ (¬ (c = 61 ∨ c = 35 ∨ c = 77) → g_134_109 c u (fun v t => v = some (.inl 1) ∧ gRd s t c l)) := by
    intro u hu h45 h44 hk
    refine ⟨fun h => (ms_131 hu (N := 2) (by decide) (by omega) 116).imp ?_, fun h => (ms_134c hu (by omega) c).imp ?_⟩
    · rintro _ t ⟨rfl, ht, kt⟩
      refine ⟨rfl, (ms_134c ht (by simp; omega) c).imp ?_⟩
      rintro _ w ⟨rfl, hw, kw⟩
      refine ⟨rfl, ?_, by rw [kw.2 45 (by simp), kt.2 45 (by simp), h45], by rw [kw.2 44 (by simp), kt.2 44 (by simp), h44], hk.trans ((kt.trans kw).mono (by simp) (by simp))⟩
      unfold gAw
      rw [if_pos h]
      unfold gAw2 at hw
      rw [if_neg (by rcases h with rfl | rfl | rfl <;> decide), if_neg (by rcases h with rfl | rfl | rfl <;> decide)] at hw
      exact hw
    · rintro _ w ⟨rfl, hw, kw⟩
      refine ⟨rfl, ?_, by rw [kw.2 45 (by simp), h45], by rw [kw.2 44 (by simp), h44], hk.trans (kw.mono (by simp) (by simp))⟩
      unfold gAw
      rw [if_neg h]
      exact hw
  have au : ∀ {u : rSg}, u 755 = s 755 → u 725 17 = s 725 17 → aw u l := fun h1 h2 => ⟨by rw [h2]; exact hs.1, awl_ext (fun j _ => by rw [h1]) hs.2⟩
  have m1 : ∀ (h : ¬ (s 725 45 = 24 ∧ ¬ 0 ≤ s 725 44)), _ := fun h => main (up2 s 725 45 (s 725 45 + 1)) (au (up2_nk _ _ _ (by decide)) (up2_nj _ _ _ (by decide))) (up2_same _ _ _ _) (by rw [up2_nj _ _ _ (by decide), if_neg h]) (mK.rfl'.upF (by simp))
  have m2 : ∀ (h : s 725 45 = 24 ∧ ¬ 0 ≤ s 725 44), _ := fun h => main (up2 (up2 s 725 44 (s 725 43)) 725 45 (s 725 45 + 1)) (au (by rw [up2_nk _ _ _ (by decide), up2_nk _ _ _ (by decide)]) (by rw [up2_nj _ _ _ (by decide), up2_nj _ _ _ (by decide)])) (up2_same _ _ _ _) (by rw [up2_nj _ _ _ (by decide), up2_same, if_pos h]) ((mK.rfl'.upF (by simp)).upF (by simp))
  have split3 : ∀ {A : Prop} {B : Prop}, ((c = 61 ∨ c = 35 ∨ c = 77 → A) ∧ (¬ (c = 61 ∨ c = 35 ∨ c = 77) → B)) → (c = 61 → A) ∧ (¬ c = 61 → (c = 35 → A) ∧ (¬ c = 35 → (¬ c = 77 → B) ∧ (¬ (¬ c = 77) → A))) := fun h => ⟨fun e => h.1 (Or.inl e), fun a => ⟨fun e => h.1 (Or.inr (Or.inl e)), fun b => ⟨fun d => h.2 (by rintro (q | q | q) <;> contradiction), fun d => h.1 (Or.inr (Or.inr (Classical.not_not.mp d)))⟩⟩⟩
  exact w_134_50 s c ⟨fun h => split3 (m1 (fun q => h q.1)), fun h => ⟨fun h2 => split3 (m1 (fun q => q.2 h2)), fun h2 => split3 (m2 ⟨Classical.not_not.mp h, h2⟩)⟩⟩
theorem ms_134 {s : rSg} {l : List Int32} (hs : aw s l) (hl : l.length < 300) (c : Int32) : EvS rSkel 2 134 [.inr (.inr (some 725)), .inl c] s (fun v t => (gSg c ∧ v = some (.inl 1) ∧ gRd s t c l) ∨ (¬ gSg c ∧ v = some (.inl 0) ∧ t = s)) := by
  have yes : ∀ (h : gSg c), g_134_50 c s (fun v t => (gSg c ∧ v = some (.inl 1) ∧ gRd s t c l) ∨ (¬ gSg c ∧ v = some (.inl 0) ∧ t = s)) := fun h => (ms_134b hs hl c).imp (fun v t q => Or.inl ⟨h, q⟩)
  have no : ¬ gSg c → ((gSg c ∧ (some (.inl 0 : rv)) = some (.inl 1) ∧ gRd s s c l) ∨ (¬ gSg c ∧ (some (.inl 0 : rv)) = some (.inl 0) ∧ s = s)) := fun h => Or.inr ⟨h, rfl, rfl⟩
  refine w_134 s c ⟨fun h => yes (Or.inl h), fun h1 => ⟨fun h => yes (Or.inr (Or.inl h)), fun h2 => ⟨fun h => yes (Or.inr (Or.inr (Or.inl h))), fun h3 => ⟨fun h => yes (Or.inr (Or.inr (Or.inr (Or.inl h)))), fun h4 => ⟨fun h => yes (Or.inr (Or.inr (Or.inr (Or.inr (Or.inl h))))), fun h5 => ⟨fun h => yes (Or.inr (Or.inr (Or.inr (Or.inr (Or.inr (Or.inl h)))))), fun h6 => ⟨fun h => yes (Or.inr (Or.inr (Or.inr (Or.inr (Or.inr (Or.inr (Or.inl h))))))), fun h7 => ⟨fun h => yes (Or.inr (Or.inr (Or.inr (Or.inr (Or.inr (Or.inr (Or.inr h))))))), fun h8 => no ?_⟩⟩⟩⟩⟩⟩⟩⟩
  intro q
  rcases q with q | q | q | q | q | q | q | q
  · exact h1 q
  · exact h2 q
  · exact h3 q
  · exact h4 q
  · exact h5 q
  · exact h6 q
  · exact h7 q
  · exact h8 q
/-- what is awaited, by a sign: read, or not -/
def aRd (s t : rSg) (c w : Int32) (l : List Int32) : Prop := (w = 41 ∧ c = 41 ∧ t = s) ∨ (w ≠ 41 ∧ w = 116 ∧ tSg c ∧ tRd s t c l) ∨ (w ≠ 41 ∧ w ≠ 116 ∧ gSg c ∧ gRd s t c l)
def aNo (c w : Int32) : Prop := (w = 41 ∧ c ≠ 41) ∨ (w ≠ 41 ∧ w = 116 ∧ ¬ tSg c) ∨ (w ≠ 41 ∧ w ≠ 116 ∧ ¬ gSg c)
theorem ms_132 {s : rSg} {l : List Int32} (hs : aw s l) (hl : l.length < 300) (c w : Int32) : EvS rSkel 3 132 [.inr (.inr (some 725)), .inl c, .inl w] s (fun v t => (v = some (.inl 1) ∧ aRd s t c w l) ∨ (v = some (.inl 0) ∧ aNo c w ∧ t = s)) := by
  refine w_132 s c w ⟨fun h1 => ⟨fun h2 => (ms_134 hs hl c).imp ?_, fun h2 => (ms_133 hs hl c).imp ?_⟩, fun h1 => ⟨fun h2 => Or.inr ⟨rfl, Or.inl ⟨Classical.not_not.mp h1, h2⟩, rfl⟩, fun h2 => Or.inl ⟨rfl, Or.inl ⟨Classical.not_not.mp h1, Classical.not_not.mp h2, rfl⟩⟩⟩⟩
  · rintro _ t (⟨h, rfl, g⟩ | ⟨h, rfl, rfl⟩)
    · exact ⟨_, rfl, by decide, Or.inl ⟨rfl, Or.inr (Or.inr ⟨h1, h2, h, g⟩)⟩⟩
    · exact ⟨_, rfl, by decide, Or.inr ⟨rfl, Or.inr (Or.inr ⟨h1, h2, h⟩), rfl⟩⟩
  · rintro _ t (⟨h, rfl, g⟩ | ⟨h, rfl, rfl⟩)
    · exact ⟨_, rfl, by decide, Or.inl ⟨rfl, Or.inr (Or.inl ⟨h1, Classical.not_not.mp h2, h, g⟩)⟩⟩
    · exact ⟨_, rfl, by decide, Or.inr ⟨rfl, Or.inr (Or.inl ⟨h1, Classical.not_not.mp h2, h⟩), rfl⟩⟩
