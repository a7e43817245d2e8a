/-! THE CLASS's READER: what it awaits -/
def kdI (w : Int32) : Int32 := if w = 103 then 0 else if w = 116 then 1 else 2
def cwl (s : rSg) : List Int32 → Prop
  | [] => True
  | w :: r => s 679 r.length = kdI w ∧ cwl s r
theorem cwl_ext {s t : rSg} : ∀ {l : List Int32}, (∀ j, j < l.length → t 679 j = s 679 j) → cwl s l → cwl t l
  | [], _, _ => trivial
  | w :: r, h, ⟨h1, h2⟩ => ⟨by rw [h r.length (by simp)]; exact h1, cwl_ext (fun j hj => h j (by simp; omega)) h2⟩
def cw (s : rSg) (l : List Int32) : Prop := s 678 4 = nI l.length ∧ cwl s l
/-- of the reader: its fields but those in js stay, and all cells but its own and the script in mind -/
def cK (js : List Nat) (s t : rSg) : Prop := rd s t ∧ ∀ j, j ∉ js → t 678 j = s 678 j
theorem cK.rfl' {js : List Nat} {s : rSg} : cK js s s := ⟨rd.rfl', fun _ _ => rfl⟩
theorem cK.trans {js : List Nat} {a b c : rSg} (h1 : cK js a b) (h2 : cK js b c) : cK js a c := ⟨h1.1.trans h2.1, fun j g => (h2.2 j g).trans (h1.2 j g)⟩
theorem cK.mono {js js2 : List Nat} {s t : rSg} (h : cK js s t) (h2 : ∀ q, q ∈ js → q ∈ js2) : cK js2 s t := ⟨h.1, fun j g => h.2 j (fun e => g (h2 j e))⟩
theorem cK.sc {js : List Nat} {s t u : rSg} (h : cK js s t) (g : bt (scB 231) t u) : cK js s u := ⟨h.1.sc g, fun j hj => by rw [g 678 (Or.inr (by decide))]; exact h.2 j hj⟩
theorem cw.sc {s u : rSg} {l : List Int32} (h : cw s l) (g : bt (scB 231) s u) : cw u l := ⟨by rw [g 678 (Or.inr (by decide))]; exact h.1, cwl_ext (fun j _ => by rw [g 679 (Or.inr (by decide))]) h.2⟩
theorem cs_7 {s : rSg} {l : List Int32} (hs : cw s l) (hl : l.length < 196) (w y z : Int32) : EvS rSkel 1 7 [.inr (.inr (some 678)), .inl (kdI w), .inl y, .inl z] s (fun v t => v = none ∧ cw t (w :: l) ∧ cK [4] s t) := by
  refine w_7 s _ y z ?_
  rw [hs.1, nI_clamp (by omega), nI_1]
  refine ⟨fun q => absurd q (nI_pos (by omega)), fun _ => ⟨fun q => absurd ((nI_leI (a := 196) (by decide) (by omega)).mp q) (by omega), fun _ => ?_⟩⟩
  have r := rIn_nI (t := l.length) (n := 196) hl (by decide)
  refine ⟨r, r, r, rfl, ⟨up2_same _ _ _ _, ⟨?_, cwl_ext (fun j hj => ?_) hs.2⟩⟩, ⟨fun q hq => ?_, fun j hj => ?_⟩⟩
  · rw [up2_nk _ _ _ (by decide), up2_nk _ _ _ (by decide), up2_nk _ _ _ (by decide), up2_same]
  · rw [up2_nk _ _ _ (by decide), up2_nk _ _ _ (by decide), up2_nk _ _ _ (by decide), up2_nj _ _ _ (by omega)]
  · rw [up2_nk _ _ _ (by omega), up2_nk _ _ _ (by omega), up2_nk _ _ _ (by omega), up2_nk _ _ _ (by omega)]
  · rw [up2_nj _ _ _ (by simpa using hj), up2_nk _ _ _ (by decide), up2_nk _ _ _ (by decide), up2_nk _ _ _ (by decide)]
/-- k parts of one kind are awaited -/
theorem cs_9c {s0 : rSg} (a w : Int32) {P : Option rv → rSg → Prop} : ∀ (k : Nat) (l : List Int32) (s : rSg), l.length + k < 196 → cw s l → cK [4] s0 s → (∀ t, cw t (List.replicate k w ++ l) → cK [4] s0 t → P (some (.inl 1)) t) → g_9_104 a (kdI w) (nI k - 1) s P := by
  intro k
  induction k with
  | zero =>
    intro l s hk hs hc hP
    exact w_9_104 s _ _ _ ⟨fun _ => hP s hs hc, fun q => absurd (by decide) q⟩
  | succ k ih =>
    intro l s hk hs hc hP
    rw [show nI (k + 1) - 1 = nI k from nI_pred k]
    refine w_9_104 s _ _ _ ⟨fun q => absurd q (nI_pos (by omega)), fun _ => (cs_7 hs (by omega) w _ _).imp ?_⟩
    rintro _ t ⟨rfl, ht, kt⟩
    rw [show nI k + (-1) = nI k - 1 from (Int32.sub_eq_add_neg _ _).symm]
    refine ⟨rfl, ih (w :: l) t (by simp; omega) ht (hc.trans kt) (fun u hu ku => hP u ?_ ku)⟩
    have e : List.replicate (k + 1) w ++ l = List.replicate k w ++ w :: l := by
      rw [List.replicate_succ', List.append_assoc]
      rfl
    rw [e]
    exact hu
