/-! TEXTS, pure: of one term one text -/
theorem reach_rk {V : Nat → TV} {D : Nat → Prop} {rk : Nat → Nat} (hok : vOK V D rk) {a b : Nat} (ha : D a) (h : reach V a b) : D b ∧ (b = a ∨ rk b < rk a) := by
  refine h (fun x => D x ∧ (x = a ∨ rk x < rk a)) ?_ ⟨ha, Or.inl rfl⟩
  rintro x ⟨hx, hr⟩
  refine ⟨fun e he => ?_, fun p q hp => ?_⟩
  · have := (hok x hx).1 e he
    refine ⟨this.1, Or.inr ?_⟩
    rcases hr with rfl | hr
    · exact this.2
    · omega
  · have := (hok x hx).2.2 p q hp
    refine ⟨⟨this.1.1, Or.inr ?_⟩, ⟨this.2.1, Or.inr ?_⟩⟩
    · rcases hr with rfl | hr
      · exact this.1.2
      · omega
    · rcases hr with rfl | hr
      · exact this.2.2
      · omega
theorem wlk_uniq {V : Nat → TV} {D : Nat → Prop} {rk : Nat → Nat} (hok : vOK V D rk) {c x y : Nat} (hc : D c) (h1 : wlk V D c x) (r1 : vRes V x) (h2 : wlk V D c y) (r2 : vRes V y) : x = y := by
  have a := h1.2.2.2 y r2 h2.2.2.1
  have b := h2.2.2.2 x r1 h1.2.2.1
  have dx := (reach_rk hok hc h1.2.2.1).1
  have dy := (reach_rk hok hc h2.2.2.1).1
  rcases (reach_rk hok dx a).2 with e | e
  · exact e.symm
  · rcases (reach_rk hok dy b).2 with e2 | e2
    · exact e2
    · omega
def nmIx : List Nat → Nat → Nat
  | [], _ => 0
  | x :: l, v => if x = v then 0 else nmIx l v + 1
def nmAdd (nm : List Nat) (v : Nat) : List Nat := if v ∈ nm then nm else nm ++ [v]
def WRun (V K : Nat → TV) (D : Nat → Prop) : Nat → List (Nat ⊕ Int32) → List Nat → List Int32 → List Int32 → Prop
  | _, [], _, out, r => r = out.take 200
  | 0, _ :: _, _, out, r => 200 ≤ out.length ∧ r = out.take 200
  | f + 1, .inr c :: st, nm, out, r => (200 ≤ out.length ∧ r = out.take 200) ∨ (out.length < 200 ∧ WRun V K D f st nm (out ++ [c]) r)
  | f + 1, .inl c :: st, nm, out, r => (200 ≤ out.length ∧ r = out.take 200) ∨ (out.length < 200 ∧ ∃ c2, wlk V D c c2 ∧ vRes V c2 ∧ ((K c2 = none ∧ WRun V K D f st (nmAdd nm c2) (out ++ [95, 48 + nI (nmIx nm c2 % 10)]) r) ∨ (∃ n, K c2 = some (.inr (.inl n)) ∧ WRun V K D f st nm (out ++ [if n = 10 then 110 else nI (48 + n)]) r) ∨ (∃ a b, K c2 = some (.inr (.inr (a, b))) ∧ WRun V K D f (.inl a :: .inr 46 :: .inl b :: .inr 41 :: st) nm (out ++ [40]) r)))
/-- what is on the pile is of the heap -/
def stD (D : Nat → Prop) (st : List (Nat ⊕ Int32)) : Prop := ∀ x, x ∈ st → ∀ c, x = .inl c → D c
theorem WRun_det {V K : Nat → TV} {D : Nat → Prop} {rk : Nat → Nat} (hok : vOK V D rk) (hK : ∀ c a b, D c → K c = some (.inr (.inr (a, b))) → D a ∧ D b) : ∀ (f : Nat) (st : List (Nat ⊕ Int32)) (nm : List Nat) (out r r2 : List Int32), stD D st → WRun V K D f st nm out r → WRun V K D f st nm out r2 → r = r2 := by
  intro f
  induction f with
  | zero =>
    intro st nm out r r2 hd h g
    cases st with
    | nil =>
      have h : r = out.take 200 := h
      have g : r2 = out.take 200 := g
      rw [h, g]
    | cons x st =>
      have h : 200 ≤ out.length ∧ r = out.take 200 := h
      have g : 200 ≤ out.length ∧ r2 = out.take 200 := g
      rw [h.2, g.2]
  | succ f ih =>
    intro st nm out r r2 hd h g
    cases st with
    | nil =>
      have h : r = out.take 200 := h
      have g : r2 = out.take 200 := g
      rw [h, g]
    | cons x st =>
      have hs : stD D st := fun y hy => hd y (List.mem_cons_of_mem _ hy)
      cases x with
      | inr c =>
        rcases h with ⟨h1, h2⟩ | ⟨h1, h2⟩ <;> rcases g with ⟨g1, g2⟩ | ⟨g1, g2⟩
        · rw [h2, g2]
        · omega
        · omega
        · exact ih _ _ _ _ _ hs h2 g2
      | inl c =>
        rcases h with ⟨h1, h2⟩ | ⟨h1, x, a1, a2, a3⟩ <;> rcases g with ⟨g1, g2⟩ | ⟨g1, y, b1, b2, b3⟩
        · rw [h2, g2]
        · omega
        · omega
        · have hc : D c := hd _ (List.mem_cons_self ..) c rfl
          obtain rfl := wlk_uniq hok hc a1 a2 b1 b2
          rcases a3 with ⟨p1, p2⟩ | ⟨n, p1, p2⟩ | ⟨a, b, p1, p2⟩ <;> rcases b3 with ⟨q1, q2⟩ | ⟨m, q1, q2⟩ | ⟨a', b', q1, q2⟩
          · exact ih _ _ _ _ _ hs p2 q2
          · rw [p1] at q1; cases q1
          · rw [p1] at q1; cases q1
          · rw [p1] at q1; cases q1
          · rw [p1] at q1; cases q1; exact ih _ _ _ _ _ hs p2 q2
          · rw [p1] at q1; cases q1
          · rw [p1] at q1; cases q1
          · rw [p1] at q1; cases q1
          · rw [p1] at q1
            cases q1
            have k := hK _ a b ((reach_rk hok hc a1.2.2.1).1) p1
            refine ih _ _ _ _ _ (fun z hz w e => ?_) p2 q2
            rcases List.mem_cons.mp hz with rfl | hz
            · cases e; exact k.1
            · rcases List.mem_cons.mp hz with rfl | hz
              · cases e
              · rcases List.mem_cons.mp hz with rfl | hz
                · cases e; exact k.2
                · rcases List.mem_cons.mp hz with rfl | hz
                  · cases e
                  · exact hs z hz w e
/-! THE REFERENCE writes -/
/-- what it puts on the pile of a term -/
def mKc (s : rSg) (c : Nat) : TV := if c / 2 < 75 then mV s c else some (.inr (.inr (2 * (s 727 (c / 2)).toNatClampNeg, 2 * (s 728 (c / 2)).toNatClampNeg)))
def pw : Nat ⊕ Int32 → Int32
  | .inl c => nI c
  | .inr c => -c
def wOk (T : Nat) : Nat ⊕ Int32 → Prop
  | .inl c => c < 2 * T
  | .inr c => c = 41 ∨ c = 46
def stW (s : rSg) (T : Nat) : List (Nat ⊕ Int32) → Prop
  | [] => True
  | x :: r => s 738 r.length = pw x ∧ wOk T x ∧ stW s T r
theorem stW_ext {s t : rSg} {T : Nat} : ∀ {r : List (Nat ⊕ Int32)}, (∀ j, j < r.length → t 738 j = s 738 j) → stW s T r → stW t T r
  | [], _, _ => trivial
  | x :: r, e, ⟨h1, h2, h3⟩ => ⟨by rw [e r.length (by simp)]; exact h1, h2, stW_ext (fun j hj => e j (by simp; omega)) h3⟩
/-- how far it has written -/
def TW (s : rSg) (T : Nat) (st : List (Nat ⊕ Int32)) (nm : List Nat) (out : List Int32) : Prop := s 725 17 = nI st.length ∧ stW s T st ∧ s 725 52 = nI nm.length ∧ (∀ k v, nm[k]? = some v → s 757 k = nI (opn v) ∧ v / 2 < 64) ∧ s 725 51 = nI out.length ∧ (∀ j x, j < 200 → out[j]? = some x → s 756 j = x) ∧ 2 * nm.length ≤ out.length ∧ out.length ≤ 201 ∧ st.length ≤ 3 * out.length + 1
def kT : List Nat := [738, 756, 757]
def jT : List Nat := [17, 51, 52]
/-- a letter more -/
theorem ms_169 {s : rSg} {T : Nat} {st : List (Nat ⊕ Int32)} {nm : List Nat} {out : List Int32} (h51 : s 725 51 = nI out.length) (hx1 : ∀ j x, j < 200 → out[j]? = some x → s 756 j = x) (hl : out.length ≤ 201) (c : Int32) : EvS rSkel 1 169 [.inr (.inr (some 725)), .inl c] s (fun v t => v = none ∧ t 725 51 = nI (out ++ [c]).length ∧ (∀ j x, j < 200 → (out ++ [c])[j]? = some x → t 756 j = x) ∧ mK [756] [51] s t) := by
  have e : (out ++ [c]).length = out.length + 1 := by simp
  have old : ∀ j x, j < out.length → (out ++ [c])[j]? = some x → out[j]? = some x := fun j x hj q => by rwa [List.getElem?_append_left hj] at q
  refine w_169 s c ?_
  rw [h51, nI_1, ← e]
  refine ⟨fun h => ⟨rfl, up2_same _ _ _ _, fun j x hj q => ?_, mK.rfl'.upF (by simp)⟩, fun h => ?_⟩
  · have := (nI_leI (a := 200) (by decide) (by omega)).mp h
    rw [up2_nk _ _ _ (by decide)]
    exact hx1 j x hj (old j x (by omega) q)
  · have hlt : out.length < 200 := by
      have : ¬ 200 ≤ out.length := fun q => h ((nI_leI (a := 200) (by decide) (by omega)).mpr q)
      omega
    refine ⟨rIn_nI hlt (by decide), rfl, up2_same _ _ _ _, fun j x hj q => ?_, (mK.rfl'.up (by simp) (by decide)).upF (by simp)⟩
    rw [nI_clamp (by omega), up2_nk _ _ _ (by decide)]
    by_cases hj2 : j = out.length
    · subst hj2
      rw [List.getElem?_concat_length] at q
      cases q
      exact up2_same _ _ _ _
    · have : j < out.length := by
        have := (List.getElem?_eq_some_iff.mp q).1
        rw [e] at this
        omega
      rw [up2_nj _ _ _ hj2]
      exact hx1 j x hj (old j x this q)
theorem opn_inj {a b : Nat} (ha : a / 2 < 64) (hb : b / 2 < 64) (h : opn a = opn b) : a = b := by rw [← vcd_opn ha, h, vcd_opn hb]
/-- the name of an open variable -/
theorem ms_171b {s : rSg} {nm : List Nat} (h52 : s 725 52 = nI nm.length) (hn : ∀ k v, nm[k]? = some v → s 757 k = nI (opn v) ∧ v / 2 < 64) (hl : nm.length ≤ 100) {c : Nat} (hc : c / 2 < 64) {P : Option rv → rSg → Prop} (hP : ∀ i t, i = nmIx nm c → t 725 52 = nI (nmAdd nm c).length → (∀ k v, (nmAdd nm c)[k]? = some v → t 757 k = nI (opn v) ∧ v / 2 < 64) → mK [757] [52] s t → P (some (.inl (nI i))) t) : ∀ (l : List Nat) (y : Nat), y + l.length = nm.length → (∀ i, l[i]? = nm[y + i]?) → nmIx nm c = y + nmIx l c → (∀ i v, i < y → nm[i]? = some v → v ≠ c) → g_171_2 (nI (opn c)) (nI y) s P := by
  intro l
  induction l with
  | nil =>
    intro y hy hll hix hno
    simp only [List.length_nil] at hy
    have hnot : c ∉ nm := fun hm => by
      obtain ⟨i, hi, e⟩ := List.getElem_of_mem hm
      exact hno i c (by omega) (by rw [List.getElem?_eq_getElem hi, e]) rfl
    have eadd : nmAdd nm c = nm ++ [c] := by unfold nmAdd; rw [if_neg hnot]
    refine w_171_2 s _ _ ⟨fun _ => ?_, fun q => absurd (by rw [h52]; exact nI_le (by omega) (by omega)) q⟩
    rw [h52, nI_1, nI_pred, nI_clamp (by omega)]
    refine ⟨rIn_nI (by omega) (by decide), hP nm.length _ (by rw [hix]; simp [nmIx]; omega) ?_ ?_ ((mK.rfl'.up (by simp) (by decide)).upF (by simp))⟩
    · rw [up2_same, eadd]; simp
    · intro k v hk
      rw [eadd] at hk
      rw [up2_nk _ _ _ (by decide)]
      by_cases e : k = nm.length
      · subst e
        rw [List.getElem?_concat_length] at hk
        cases hk
        exact ⟨up2_same _ _ _ _, hc⟩
      · have hkl : k < nm.length := by
          have := (List.getElem?_eq_some_iff.mp hk).1
          simp at this
          omega
        rw [List.getElem?_append_left hkl] at hk
        rw [up2_nj _ _ _ e]
        exact hn k v hk
  | cons x l ih =>
    intro y hy hll hix hno
    simp only [List.length_cons] at hy
    have e0 : nm[y]? = some x := by have := hll 0; simpa using this.symm
    have hx1 := hn y x e0
    refine w_171_2 s _ _ ⟨fun q => absurd ((nI_leI (a := nm.length) (b := y) (by omega) (by omega)).mp (by rw [h52] at q; exact q)) (by omega), fun _ => ⟨rIn_nI (by omega) (by decide), ?_⟩⟩
    rw [nI_clamp (by omega), hx1.1, nI_1]
    have ho := opn_lt hx1.2
    have ho2 := opn_lt hc
    refine ⟨fun hne => ih (y + 1) (by omega) (fun i => ?_) ?_ (fun i v hi hv => ?_), fun he => ?_⟩
    · have := hll (i + 1)
      rw [show y + (i + 1) = y + 1 + i by omega] at this
      simpa using this
    · have : x ≠ c := fun e => hne (by rw [e])
      rw [hix]
      simp only [nmIx, if_neg this]
      omega
    · by_cases e : i = y
      · subst e
        rw [e0] at hv
        cases hv
        exact fun e => hne (by rw [e])
      · exact hno i v (by omega) hv
    · have e1 : x = c := opn_inj hx1.2 hc (nI_inj (by omega) (by omega) (Classical.not_not.mp he))
      subst e1
      have hm : x ∈ nm := by
        have := (List.getElem?_eq_some_iff.mp e0).2
        rw [← this]
        exact List.getElem_mem _
      have eadd : nmAdd nm x = nm := by unfold nmAdd; rw [if_pos hm]
      exact hP y s (by rw [hix]; simp [nmIx]) (by rw [eadd]; exact h52) (by rw [eadd]; exact hn) mK.rfl'
theorem ms_171 {s : rSg} {nm : List Nat} (h52 : s 725 52 = nI nm.length) (hn : ∀ k v, nm[k]? = some v → s 757 k = nI (opn v) ∧ v / 2 < 64) (hl : nm.length ≤ 100) {c : Nat} (hc : c / 2 < 64) : EvS rSkel 1 171 [.inr (.inr (some 725)), .inl (nI (opn c))] s (fun v t => v = some (.inl (nI (nmIx nm c))) ∧ t 725 52 = nI (nmAdd nm c).length ∧ (∀ k v, (nmAdd nm c)[k]? = some v → t 757 k = nI (opn v) ∧ v / 2 < 64) ∧ mK [757] [52] s t) :=
  w_171 s _ (ms_171b h52 hn hl hc (fun i t e h1 h2 h3 => ⟨by rw [e], h1, h2, h3⟩) nm 0 (by omega) (fun i => by rw [Nat.zero_add]) (by omega) (fun i v hi => by omega))
