/-! THE REFERENCE IS ASKED: simple calls -/
def mk0 (A : Ab) (im : Option Ab) (s t : rSg) : Prop := MJ t A im ∧ mC s t ∧ (t 752 = s 752 ∧ t 759 = s 759) ∧ (t 725 39 = s 725 39 ∧ t 725 58 = s 725 58) ∧ t 726 = s 726
theorem mk0.rfl' {A : Ab} {im : Option Ab} {s : rSg} (h : MJ s A im) : mk0 A im s s := ⟨h, mC.rfl', ⟨rfl, rfl⟩, ⟨rfl, rfl⟩, rfl⟩
theorem mk0.is {A : Ab} {im : Option Ab} {s t : rSg} {W : Int32 → Option Int32 → Prop} (h : mk0 A im s t) {r : Int32} (w : W r none) : mP W A im s (some (.inl r)) t := ⟨r, none, w, rfl, h.1, h.2.1, h.2.2.1, h.2.2.2.1, h.2.2.2.2⟩
theorem mk0.K {A : Ab} {im : Option Ab} {s t : rSg} (h : MJ s A im) {ks js : List Nat} (k : mK ks js s t) (hk : ∀ q, q ∈ ks → q ∈ kJ) (hj : ∀ q, q ∈ js → q ∈ jI) (h2 : 752 ∉ ks ∧ 759 ∉ ks ∧ 726 ∉ ks) (h3 : 39 ∉ js ∧ 58 ∉ js) : mk0 A im s t := ⟨h.K (k.mono hk (fun q z => List.mem_append_left _ (hj q z))), k.C (fun q z => by have := hk q z; simp [kJ] at this; omega), ⟨k.1 752 (by decide) h2.1, k.1 759 (by decide) h2.2.1⟩, ⟨k.2 39 h3.1, k.2 58 h3.2⟩, k.1 726 (by decide) h2.2.2⟩
theorem mk0.trans {A : Ab} {im : Option Ab} {s t u : rSg} (h1 : mk0 A im s t) (h2 : mk0 A im t u) : mk0 A im s u := ⟨h2.1, h1.2.1.trans h2.2.1, ⟨h2.2.2.1.1.trans h1.2.2.1.1, h2.2.2.1.2.trans h1.2.2.1.2⟩, ⟨h2.2.2.2.1.1.trans h1.2.2.2.1.1, h2.2.2.2.1.2.trans h1.2.2.2.1.2⟩, h2.2.2.2.2.trans h1.2.2.2.2⟩
theorem mx_no {A : Ab} {im : Option Ab} {s t : rSg} {W : Int32 → Option Int32 → Prop} (h : mk0 A im s t) {z : Int32} (hz : rIn (-z) 7 = true) (w : W z (some z)) : EvS rSkel 1 128 [.inr (.inr (some 725)), .inl z] t (fun v u => ∃ n, v = some (.inl n) ∧ mP W A im s (some (.inl n)) u) := by
  obtain ⟨h1, h2, h3, h4, h5⟩ := h
  refine w_128 t z ⟨hz, hz, z, rfl, z, some z, w, rfl, h1.K (mK.rfl'.up (by simp [kJ]) (by decide)), h2.trans (fun q hq => up2_nk _ _ _ (by omega)), ?_, ?_, ?_⟩
  · rw [up2_nk _ _ _ (by decide), up2_nk _ _ _ (by decide)]; exact h3
  · rw [up2_nk _ _ _ (by decide)]; exact h4
  · rw [rfC_up, h5]
theorem mx_164 {s : rSg} {a : Nat} (ha : s 748 0 = nI a) (ha9 : a ≤ 30) (x : Int32) {P : Option rv → rSg → Prop} (h1 : ∀ i, i < a → x = nI i → P (some (.inl 1)) s) (h2 : (∀ i, i < a → x ≠ nI i) → P (some (.inl 0)) s) : EvS rSkel 2 164 [.inr (.inr (some 725)), .inl x] s P := by
  by_cases e : ∃ i, i < a ∧ x = nI i
  · obtain ⟨i, hi, rfl⟩ := e
    refine w_164 s _ (ms_119 s _ 0 _ (fun h => ⟨_, rfl, by decide, h1 i hi rfl⟩) (fun h => absurd ?_ h))
    refine ⟨nI_le (a := 0) (by omega) (by omega), ?_⟩
    obtain ⟨b, rfl⟩ : ∃ b, a = b + 1 := ⟨a - 1, by omega⟩
    rw [ha, nI_pred b]
    exact nI_le (by omega) (by omega)
  · exact ms_164 ha ha9 x (fun i hi q => absurd ⟨i, hi, q⟩ e) (h2 (fun i hi q => e ⟨i, hi, q⟩))
theorem mx_165 (s : rSg) (x : Int32) {P : Option rv → rSg → Prop} (h1 : ∀ i, i < 6 → x = nI i → P (some (.inl 1)) s) (h2 : (∀ i, i < 6 → x ≠ nI i) → P (some (.inl 0)) s) : EvS rSkel 2 165 [.inl x] s P := by
  by_cases e : ∃ i, i < 6 ∧ x = nI i
  · obtain ⟨i, hi, rfl⟩ := e
    exact w_165 s _ (ms_119 s _ 0 5 (fun h => ⟨_, rfl, by decide, h1 i hi rfl⟩) (fun h => absurd ⟨nI_le (a := 0) (by omega) (by omega), nI_le (b := 5) (by omega) (by omega)⟩ h))
  · exact ms_165 s x (fun i hi q => absurd ⟨i, hi, q⟩ e) (h2 (fun i hi q => e ⟨i, hi, q⟩))
theorem MJ.f {A : Ab} {im : Option Ab} {s : rSg} (h : MJ s A im) : (s 747 0 = nI A.Q.1.length ∧ A.Q.1.length ≤ 40) ∧ (s 748 0 = nI A.Q.2.1.length ∧ A.Q.2.1.length ≤ 30) ∧ s 749 0 = nI A.Q.2.2.1 ∧ s 750 0 = nI A.Q.2.2.2.1 ∧ s 751 0 = nI A.Q.2.2.2.2 := by
  obtain ⟨T, G, L, hd, g, r1, _⟩ := h
  obtain ⟨q1, q2, q3, q4, q5, q6, _⟩ := r1.2.2.1
  exact ⟨q2, q3, q4, q5, q6⟩
theorem MJ.an {A : Ab} {im : Option Ab} {s : rSg} (h : MJ s A im) {i n : Nat} {X : Sx} (hi : A.Q.2.1[i]? = some (n, X)) : ∃ T, aXa s T 0 i n X := by
  obtain ⟨T, G, L, hd, g, r1, _⟩ := h
  exact ⟨T, r1.2.2.1.2.2.2.2.2.2.2 i n X hi⟩
theorem mx_162 {s : rSg} {A : Ab} {im : Option Ab} (h : MJ s A im) : EvS rSkel 1 162 [.inr (.inr (some 725))] s (mP (sAns A.Q) A im s) := by
  refine w_162 s ?_
  rw [h.f.2.1.1]
  exact (mk0.rfl' h).is ⟨rfl, rfl⟩
theorem mx_173 {s : rSg} {A : Ab} {im : Option Ab} (h : MJ s A im) (x : Int32) : EvS rSkel 3 173 [.inr (.inr (some 725)), .inl x] s (mP (sWhen A.Q x) A im s) := by
  have f := h.f
  refine w_173 s x (mx_164 f.2.1.1 f.2.1.2 x (fun i hi e => ⟨_, rfl, fun q => absurd q (by decide), fun _ => ?_⟩) (fun hn => ⟨_, rfl, fun _ => mx_no (mk0.rfl' h) (by decide) (Or.inr ⟨hn, rfl, rfl⟩), fun q => absurd rfl q⟩))
  obtain ⟨⟨n, X⟩, hX⟩ : ∃ p, A.Q.2.1[i]? = some p := ⟨_, List.getElem?_eq_getElem hi⟩
  obtain ⟨T, a⟩ := h.an hX
  have b := a.2.2.1
  rw [Nat.mul_zero, Nat.zero_add] at b
  rw [e, nI_clamp (by omega), b]
  exact ⟨rIn_nI (by omega) (by decide), (mk0.rfl' h).is (Or.inl ⟨i, n, X, hX, by omega, rfl, rfl, rfl⟩)⟩
theorem mx_174 {s : rSg} {A : Ab} {im : Option Ab} (h : MJ s A im) (x : Int32) : EvS rSkel 3 174 [.inr (.inr (some 725)), .inl x] s (mP (sKept A.Q x) A im s) := by
  have f := h.f
  refine w_174 s x (mx_164 f.2.1.1 f.2.1.2 x (fun i hi e => ⟨_, rfl, fun q => absurd q (by decide), fun _ => ?_⟩) (fun hn => ⟨_, rfl, fun _ => mx_no (mk0.rfl' h) (by decide) (Or.inr ⟨hn, rfl, rfl⟩), fun q => absurd rfl q⟩))
  obtain ⟨⟨n, X⟩, hX⟩ : ∃ p, A.Q.2.1[i]? = some p := ⟨_, List.getElem?_eq_getElem hi⟩
  obtain ⟨T, a⟩ := h.an hX
  have b := a.2.2.2
  rw [Nat.mul_zero, Nat.zero_add] at b
  rw [e, nI_clamp (by omega), b]
  exact ⟨rIn_nI (by omega) (by decide), (mk0.rfl' h).is (Or.inl ⟨i, n, X, hX, by omega, rfl, rfl, rfl⟩)⟩
theorem mx_176 {s : rSg} {A : Ab} {im : Option Ab} (h : MJ s A im) : EvS rSkel 2 176 [.inr (.inr (some 725))] s (mP (sDone A.Q) A im s) := by
  obtain ⟨T, G, L, hd, g, r1, _⟩ := id h
  refine w_176 s ((fs_138 r1).imp ?_)
  rintro _ s' ⟨rfl, rfl⟩
  refine ⟨_, rfl, fun q => (mk0.rfl' h).is ⟨?_, rfl⟩, fun q => (mk0.rfl' h).is ⟨?_, rfl⟩⟩
  · by_cases c : A.Q.1.length = 0 ∨ A.Q.2.1.length = 30
    · rw [if_pos c] at q; exact absurd q (by decide)
    · rw [if_neg c]
  · by_cases c : A.Q.1.length = 0 ∨ A.Q.2.1.length = 30
    · rw [if_pos c]
    · rw [if_neg c] at q; exact absurd rfl q
theorem mx_175 {s : rSg} {A : Ab} {im : Option Ab} (h : MJ s A im) (x : Int32) : EvS rSkel 2 175 [.inr (.inr (some 725)), .inl x] s (mP (sQue A.Q x) A im s) := by
  have f := h.f
  obtain ⟨T, G, L, hd, g, r1, _⟩ := id h
  have b1 := r1.1.1
  obtain ⟨q1, q2, _, _, _, _, q7, _⟩ := id r1.2.2.1
  refine w_175 s x ((ev_m_slot 0 s (j := 0) r1.2.1.1 r1.2.1.2 q1.1 (by have := q1.2; omega)).imp ?_)
  rintro _ s' ⟨rfl, rfl⟩
  have rs : rIn (nI (42 * 0 + (hd + 0) % 42)) 84 = true := rIn_nI (by omega) (by decide)
  have fst : ¬ s' 747 0 = 0 → ∃ X l p, A.Q.1 = X :: l ∧ wXa A.tb (Rb A.nG A.nG) s' T G L (42 * 0 + (hd + 0) % 42) p X := fun q => by
    cases e : A.Q.1 with
    | nil => exact absurd (by rw [f.1.1, e]; rfl) q
    | cons X l =>
      obtain ⟨p, hp⟩ := q7 0 X (by rw [e]; rfl)
      exact ⟨X, l, p, rfl, hp⟩
  have emp : ¬ ¬ s' 747 0 = 0 → A.Q.1 = [] := fun q => by
    have q := Classical.not_not.mp q
    rw [f.1.1] at q
    exact List.length_eq_zero_iff.mp ((nI_eq (b := 0) (by omega) (by decide)).mp q)
  refine ⟨_, rfl, fun e => ?_, fun e => ?_, fun e => ?_, fun e => ⟨fun q => ⟨rs, ?_⟩, fun q => ?_⟩, fun e => ⟨fun q => ⟨rs, ?_⟩, fun q => ?_⟩, fun e => ⟨fun q => ⟨rs, ?_⟩, fun q => ?_⟩, fun e => ?_⟩
  · unfold sQue
    rw [if_pos e, f.1.1]; exact (mk0.rfl' h).is ⟨rfl, rfl⟩
  · unfold sQue
    rw [if_neg (by rw [e]; decide), if_pos e, f.2.2.2.1]; exact (mk0.rfl' h).is ⟨rfl, rfl⟩
  · unfold sQue
    rw [if_neg (by rw [e]; decide), if_neg (by rw [e]; decide), if_pos e, f.2.2.2.2]; exact (mk0.rfl' h).is ⟨rfl, rfl⟩
  · obtain ⟨X, l, p, e2, hp1, hm, _⟩ := fst q
    unfold sQue
    rw [if_neg (by rw [e]; decide), if_neg (by rw [e]; decide), if_neg (by rw [e]; decide), if_pos e]
    rw [nI_clamp (by omega), hp1.2.1]
    have hl := dol_lt (by omega) hp1.2.2.2.2.2.1
    have hl2 := dol_len hp1.2.2.2.2.2.1
    refine (ev_m_lengthOf 0 s' (dol_chn (by omega) hp1.2.2.2.2.2.1) (by omega)).imp ?_
    rintro _ s2 ⟨rfl, rfl⟩
    refine ⟨_, rfl, (mk0.rfl' h).is ⟨?_, rfl⟩⟩
    simp only [qf, e2]
    rw [mIts_len hm.1]
  · unfold sQue
    rw [if_neg (by rw [e]; decide), if_neg (by rw [e]; decide), if_neg (by rw [e]; decide), if_pos e]
    exact (mk0.rfl' h).is ⟨by simp only [qf, emp q], rfl⟩
  · obtain ⟨X, l, p, e2, hp1, hm, _⟩ := fst q
    unfold sQue
    rw [if_neg (by rw [e]; decide), if_neg (by rw [e]; decide), if_neg (by rw [e]; decide), if_neg (by rw [e]; decide), if_pos e]
    rw [nI_clamp (by omega), hp1.2.2.1]
    have hl := kel_lt (by omega) hp1.2.2.2.2.2.2.1
    have hl2 := kel_len hp1.2.2.2.2.2.2.1
    refine (ev_m_lengthOf 0 s' (kel_chn (by omega) hp1.2.2.2.2.2.2.1) (by omega)).imp ?_
    rintro _ s2 ⟨rfl, rfl⟩
    refine ⟨_, rfl, (mk0.rfl' h).is ⟨?_, rfl⟩⟩
    simp only [qf, e2]
    obtain ⟨ks, k1, k2⟩ := hm.2.1
    rw [mK2_len k2, k1.length_eq]
  · unfold sQue
    rw [if_neg (by rw [e]; decide), if_neg (by rw [e]; decide), if_neg (by rw [e]; decide), if_neg (by rw [e]; decide), if_pos e]
    exact (mk0.rfl' h).is ⟨by simp only [qf, emp q], rfl⟩
  · obtain ⟨X, l, p, e2, hp1, hm, _⟩ := fst q
    unfold sQue
    rw [if_neg (by rw [e]; decide), if_neg (by rw [e]; decide), if_neg (by rw [e]; decide), if_neg (by rw [e]; decide), if_neg (by rw [e]; decide), if_pos e]
    rw [nI_clamp (by omega), hp1.2.2.2.1]
    refine (mk0.rfl' h).is ⟨?_, rfl⟩
    simp only [qf, e2]
    rw [hm.2.2]
  · unfold sQue
    rw [if_neg (by rw [e]; decide), if_neg (by rw [e]; decide), if_neg (by rw [e]; decide), if_neg (by rw [e]; decide), if_neg (by rw [e]; decide), if_pos e]
    exact (mk0.rfl' h).is ⟨by simp only [qf, emp q], rfl⟩
  · unfold sQue
    rw [if_neg e.1, if_neg e.2.1, if_neg e.2.2.1, if_neg e.2.2.2.1, if_neg e.2.2.2.2.1, if_neg e.2.2.2.2.2]
    exact mx_no (mk0.rfl' h) (by decide) ⟨rfl, rfl⟩
