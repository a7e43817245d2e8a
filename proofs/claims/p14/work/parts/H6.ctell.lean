/-! THE CLASS tells a text, exactly -/
def stC (s : rSg) : List (Nat ⊕ Int32) → Prop
  | [] => True
  | x :: r => s 684 r.length = pw x ∧ stC s r
theorem stC_ext {s t : rSg} : ∀ {r : List (Nat ⊕ Int32)}, (∀ j, j < r.length → t 684 j = s 684 j) → stC s r → stC t r
  | [], _, _ => trivial
  | x :: r, e, ⟨h1, h2⟩ => ⟨by rw [e r.length (by simp)]; exact h1, stC_ext (fun j hj => e j (by simp; omega)) h2⟩
def ouC (s : rSg) (out : List Int32) : Prop := s 682 3 = nI (min out.length 200) ∧ ∀ j x, j < 200 → out[j]? = some x → s 683 j = x
def nmC (s : rSg) (nm : List Nat) : Prop := s 682 5 = nI nm.length ∧ (∀ v, v < 64 → s 685 v = if v ∈ nm then nI (nmIx nm v) else -1) ∧ (∀ v, v ∈ nm → v < 64) ∧ nm.Nodup
def waC (s : rSg) (st : List (Nat ⊕ Int32)) : Prop := s 682 4 = nI st.length ∧ stC s st
theorem nmIx_no : ∀ {nm : List Nat} {v : Nat}, v ∉ nm → nmIx nm v = nm.length
  | [], v, _ => rfl
  | x :: l, v, h => by
    simp only [nmIx, List.length_cons]
    rw [if_neg (fun e => h (by rw [e]; exact List.mem_cons_self)), nmIx_no (fun e => h (List.mem_cons_of_mem _ e))]
theorem nmIx_app : ∀ {nm : List Nat} {v x : Nat}, v ∈ nm → nmIx (nm ++ [x]) v = nmIx nm v
  | [], v, x, h => by cases h
  | y :: l, v, x, h => by
    simp only [List.cons_append, nmIx]
    by_cases e : y = v
    · rw [if_pos e, if_pos e]
    · rw [if_neg e, if_neg e]
      rcases List.mem_cons.mp h with q | q
      · exact absurd q.symm e
      · rw [nmIx_app q]
theorem nmIx_last : ∀ {nm : List Nat} {x : Nat}, x ∉ nm → nmIx (nm ++ [x]) x = nm.length
  | [], x, _ => by simp [nmIx]
  | y :: l, x, h => by
    simp only [List.cons_append, nmIx, List.length_cons]
    rw [if_neg (fun e => h (by rw [e]; exact List.mem_cons_self)), nmIx_last (fun e => h (List.mem_cons_of_mem _ e))]
theorem nd_len0 : ∀ (n : Nat) {l : List Nat}, l.Nodup → (∀ v, v ∈ l → v < n) → l.length ≤ n
  | 0, l, _, h => by
    cases l with
    | nil => exact Nat.le_refl _
    | cons x l => exact absurd (h x List.mem_cons_self) (Nat.not_lt_zero _)
  | n + 1, l, hd, h => by
    have h1 := nd_len0 n (l := l.erase n) (hd.erase n) (fun v hv => by
      have hm := (List.Nodup.mem_erase_iff hd).mp hv
      have := h v hm.2
      have := hm.1
      omega)
    by_cases hm : n ∈ l
    · rw [List.length_erase_of_mem hm] at h1; omega
    · rw [List.erase_of_not_mem hm] at h1; omega
theorem nd_len {nm : List Nat} (h : nm.Nodup) (hl : ∀ v, v ∈ nm → v < 64) : nm.length ≤ 64 := nd_len0 64 h hl
/-- what one call here leaves -/
def tfk (ks js : List Nat) (s t : rSg) : Prop := (∀ q, q ∉ ks → q ≠ 682 → t q = s q) ∧ ∀ j, j ∉ js → t 682 j = s 682 j
theorem tc_59 {s : rSg} {st : List (Nat ⊕ Int32)} (h : waC s st) (hl : st.length < 604) (x : Nat ⊕ Int32) : EvS rSkel 1 59 [.inr (.inr (some 682)), .inl (pw x)] s (fun v t => v = none ∧ waC t (x :: st) ∧ tfk [684] [4] s t) := by
  refine w_59 s _ ?_
  rw [h.1, nI_clamp (by omega), nI_1]
  refine ⟨fun q => absurd q (nI_pos (by omega)), fun _ => ⟨fun q => absurd ((nI_leI (a := 604) (by decide) (by omega)).mp q) (by omega), fun _ => ⟨rIn_nI hl (by decide), rfl, ⟨up2_same _ _ _ _, ?_, stC_ext (fun j hj => ?_) h.2⟩, fun q h1 h2 => ?_, fun j hj => ?_⟩⟩⟩
  · rw [up2_nk _ _ _ (by decide), up2_same]
  · rw [up2_nk _ _ _ (by decide), up2_nj _ _ _ (by omega)]
  · rw [up2_nk _ _ _ h2, up2_nk _ _ _ (by simpa using h1)]
  · rw [up2_nj _ _ _ (by simpa using hj), up2_nk _ _ _ (by decide)]
theorem tc_60 {s : rSg} {out : List Int32} (h : ouC s out) (c : Int32) : EvS rSkel 1 60 [.inr (.inr (some 682)), .inl c] s (fun v t => v = none ∧ ouC t (out ++ [c]) ∧ tfk [683] [3] s t) := by
  have e : (out ++ [c]).length = out.length + 1 := by simp
  refine w_60 s _ ?_
  rw [h.1]
  by_cases hl : out.length < 200
  · rw [Nat.min_eq_left (by omega), nI_clamp (by omega), nI_1]
    refine ⟨fun q => absurd q (nI_pos (by omega)), fun _ => ⟨fun q => absurd ((nI_leI (a := 200) (by decide) (by omega)).mp q) (by omega), fun _ => ⟨rIn_nI hl (by decide), rfl, ⟨?_, fun j x hj q => ?_⟩, fun q h1 h2 => ?_, fun j hj => ?_⟩⟩⟩
    · rw [up2_same, e, Nat.min_eq_left (by omega)]
    · rw [up2_nk _ _ _ (by decide)]
      by_cases hj2 : j = out.length
      · subst hj2
        rw [List.getElem?_concat_length] at q
        cases q
        exact up2_same _ _ _ _
      · have : j < out.length := by
          have := (List.getElem?_eq_some_iff.mp q).1
          omega
        rw [up2_nj _ _ _ hj2]
        exact h.2 j x hj (by rwa [List.getElem?_append_left this] at q)
    · rw [up2_nk _ _ _ h2, up2_nk _ _ _ (by simpa using h1)]
    · rw [up2_nj _ _ _ (by simpa using hj), up2_nk _ _ _ (by decide)]
  · rw [Nat.min_eq_right (by omega)]
    refine ⟨fun q => absurd q (by decide), fun _ => ⟨fun _ => ⟨rfl, ⟨?_, fun j x hj q => ?_⟩, fun _ _ _ => rfl, fun _ _ => rfl⟩, fun q => absurd (by decide) q⟩⟩
    · rw [h.1, e, Nat.min_eq_right (by omega), Nat.min_eq_right (by omega)]
    · exact h.2 j x hj (by rwa [List.getElem?_append_left (by omega)] at q)
theorem tc_62 {s : rSg} {nm : List Nat} (h : nmC s nm) {v : Nat} (hv : v < 64) : EvS rSkel 1 62 [.inr (.inr (some 682)), .inl (nI v)] s (fun r t => r = some (.inl (nI (nmIx nm v))) ∧ nmC t (nmAdd nm v) ∧ tfk [685] [5] s t) := by
  obtain ⟨h1, h2, h3, h4⟩ := h
  have hlen := nd_len h4 h3
  refine w_62 s _ ?_
  have r := rIn_nI (t := v) (n := 64) hv (by decide)
  rw [nI_clamp (by omega), h2 v hv, h1, nI_1]
  refine ⟨fun q => absurd q (nI_pos (by omega)), fun _ => ⟨fun _ => ⟨r, fun q => ?_, fun q => ?_⟩, fun q => absurd ((nI_ltI (b := 64) (by omega) (by decide)).mpr hv) q⟩⟩
  · have hm : v ∈ nm := Classical.byContradiction (fun z => q (if_neg z))
    rw [if_pos hm]
    refine ⟨r, rfl, ?_, fun _ _ _ => rfl, fun _ _ => rfl⟩
    unfold nmAdd
    rw [if_pos hm]
    exact ⟨h1, h2, h3, h4⟩
  · have hm : v ∉ nm := fun z => q (fun e => by
      rw [if_pos z] at e
      have := nmIx_le nm v
      exact nI_pos (n := nmIx nm v) (by omega) (by rw [e]; decide))
    refine ⟨r, r, by rw [nmIx_no hm], ?_, fun q h1 h2 => ?_, fun j hj => ?_⟩
    · unfold nmAdd
      rw [if_neg hm]
      refine ⟨by rw [up2_same]; simp, fun w hw => ?_, fun w hw => ?_, ?_⟩
      · rw [up2_nk _ _ _ (by decide)]
        by_cases e : w = v
        · subst e
          rw [up2_same, if_pos (by simp), nmIx_last hm]
        · rw [up2_nj _ _ _ e, h2 w hw]
          by_cases hw2 : w ∈ nm
          · rw [if_pos hw2, if_pos (by simp [hw2]), nmIx_app hw2]
          · rw [if_neg hw2, if_neg (by simp [hw2, e])]
      · rcases List.mem_append.mp hw with q | q
        · exact h3 w q
        · simp at q; omega
      · exact List.nodup_append.mpr ⟨h4, by simp, fun a ha b hb e => by simp at hb; subst e; subst hb; exact hm ha⟩
    · rw [up2_nk _ _ _ h2, up2_nk _ _ _ (by simpa using h1)]
    · rw [up2_nj _ _ _ (by simpa using hj), up2_nk _ _ _ (by decide)]
/-- how far it has told -/
def TC (s : rSg) (st : List (Nat ⊕ Int32)) (nm : List Nat) (out : List Int32) : Prop := waC s st ∧ nmC s nm ∧ ouC s out
theorem tfk.tf {ks js : List Nat} {s t : rSg} (h : tfk ks js s t) (hk : ∀ q, q ∈ ks → 682 ≤ q ∧ q ≤ 685) : tf s t := fun q hq => h.1 q (fun e => by have := hk q e; omega) (by omega)
theorem waC.k {ks js : List Nat} {s t : rSg} {st : List (Nat ⊕ Int32)} (h : waC s st) (k : tfk ks js s t) (h1 : 684 ∉ ks) (h2 : 4 ∉ js) : waC t st := ⟨by rw [k.2 4 h2]; exact h.1, stC_ext (fun j _ => by rw [k.1 684 h1 (by decide)]) h.2⟩
theorem nmC.k {ks js : List Nat} {s t : rSg} {nm : List Nat} (h : nmC s nm) (k : tfk ks js s t) (h1 : 685 ∉ ks) (h2 : 5 ∉ js) : nmC t nm := ⟨by rw [k.2 5 h2]; exact h.1, fun v hv => by rw [k.1 685 h1 (by decide)]; exact h.2.1 v hv, h.2.2⟩
theorem ouC.k {ks js : List Nat} {s t : rSg} {out : List Int32} (h : ouC s out) (k : tfk ks js s t) (h1 : 683 ∉ ks) (h2 : 3 ∉ js) : ouC t out := ⟨by rw [k.2 3 h2]; exact h.1, fun j x a b => by rw [k.1 683 h1 (by decide)]; exact h.2 j x a b⟩
theorem TC.put {s : rSg} {st : List (Nat ⊕ Int32)} {nm : List Nat} {out : List Int32} (h : TC s st nm out) (c : Int32) : EvS rSkel 1 60 [.inr (.inr (some 682)), .inl c] s (fun v t => v = none ∧ TC t st nm (out ++ [c]) ∧ tf s t) := (tc_60 h.2.2 c).imp (fun v t q => ⟨q.1, ⟨h.1.k q.2.2 (by simp) (by simp), h.2.1.k q.2.2 (by simp) (by simp), q.2.1⟩, q.2.2.tf (by simp)⟩)
theorem TC.push {s : rSg} {st : List (Nat ⊕ Int32)} {nm : List Nat} {out : List Int32} (h : TC s st nm out) (hl : st.length < 604) (x : Nat ⊕ Int32) : EvS rSkel 1 59 [.inr (.inr (some 682)), .inl (pw x)] s (fun v t => v = none ∧ TC t (x :: st) nm out ∧ tf s t) := (tc_59 h.1 hl x).imp (fun v t q => ⟨q.1, ⟨q.2.1, h.2.1.k q.2.2 (by simp) (by simp), h.2.2.k q.2.2 (by simp) (by simp)⟩, q.2.2.tf (by simp)⟩)
theorem TC.name {s : rSg} {st : List (Nat ⊕ Int32)} {nm : List Nat} {out : List Int32} (h : TC s st nm out) {v : Nat} (hv : v < 64) : EvS rSkel 1 62 [.inr (.inr (some 682)), .inl (nI v)] s (fun r t => r = some (.inl (nI (nmIx nm v))) ∧ TC t st (nmAdd nm v) out ∧ tf s t) := (tc_62 h.2.1 hv).imp (fun r t q => ⟨q.1, ⟨h.1.k q.2.2 (by simp) (by simp), q.2.1, h.2.2.k q.2.2 (by simp) (by simp)⟩, q.2.2.tf (by simp)⟩)
