/-! CALLS ON NEW OBJECTS: the simple ones -/
theorem nn_of {x : Int32} (h : ¬ x < 0) : ∃ n : Nat, n < 2 ^ 31 ∧ x = nI n := by
  have h0 : 0 ≤ x.toInt := by
    have h2 : ¬ x.toInt < (0 : Int32).toInt := fun q => h (Int32.lt_iff_toInt_lt.mpr q)
    have h3 : (0 : Int32).toInt = 0 := rfl
    omega
  have h1 := x.toInt_lt
  refine ⟨x.toInt.toNat, by omega, ?_⟩
  apply Int32.toInt_inj.mp
  show x.toInt = (Int32.ofNat x.toInt.toNat).toInt
  rw [Int32.toInt_ofNat_of_lt (by omega)]
  omega
theorem rIn_of {x : Int32} {n : Nat} (hn : n < 2 ^ 31) (h0 : ¬ x < 0) (h1 : ¬ nI n ≤ x) : rIn x n = true := by
  obtain ⟨k, hk, rfl⟩ := nn_of h0
  have : ¬ n ≤ k := fun q => h1 ((nI_leI hn hk).mpr q)
  exact rIn_nI (by omega) hn
def fr (s s2 : rSg) : Prop := ∀ q, 725 ≤ q → s2 q = s q
theorem fr.rfl' {s : rSg} : fr s s := fun _ _ => rfl
theorem fr.trans {a b c : rSg} (h1 : fr a b) (h2 : fr b c) : fr a c := fun q hq => (h2 q hq).trans (h1 q hq)
theorem fr.up {s : rSg} {k j : Nat} {x : Int32} (h : k < 725) : fr s (up2 s k j x) := fun q hq => up2_nk _ _ _ (by omega)
theorem mdF_ext {s s2 : rSg} (h : fr s s2) (hm : mdF s) : mdF s2 := by
  unfold mdF at *
  rw [h 725 (by decide), h 726 (by decide), h 746 (by decide), h 747 (by decide), h 748 (by decide), h 749 (by decide), h 750 (by decide), h 751 (by decide), h 740 (by decide), h 741 (by decide), h 742 (by decide), h 739 (by decide), h 733 (by decide), h 735 (by decide), h 729 (by decide), h 753 (by decide)]
  exact hm
theorem lwIx_sk (s : rSg) : lwIx (skM s 0 rSkel) 0 725 := by
  have h0 := skM_at s 0 rSkel 0 _ sk_0
  have h1 := skM_at s 0 rSkel 725 _ sk_725
  rw [Nat.zero_add] at h0 h1
  exact ⟨⟨_, h0⟩, ⟨_, h1⟩⟩
/-- the class's call, then the reference's: the same int -/
def opI (s : rSg) (yx ym : Nat) (as : List rv) : Prop := EvS rSkel 18 yx (.inr (.inr (some 0)) :: as) s (fun v s2 => ∃ r, v = some (.inl r) ∧ EvS rSkel 18 ym (.inr (.inr (some 725)) :: as) s2 (fun v2 _ => v2 = some (.inl r)))
def opL (s : rSg) (yx ym : Nat) (as : List rv) : Prop := EvS rSkel 18 yx (.inr (.inr (some 0)) :: as) s (fun v s2 => ∃ r, v = some (.inr (.inl r)) ∧ EvS rSkel 18 ym (.inr (.inr (some 725)) :: as) s2 (fun v2 _ => v2 = some (.inr (.inl r))))
theorem opI.go {s : rSg} {yx ym : Nat} {as : List rv} (h : opI s yx ym as) : ∃ M2, lwGo 0 725 yx ym as (skM s 0 rSkel) M2 := by
  obtain ⟨v, s2, h1, r, rfl, v2, s3, h3, rfl⟩ := h
  obtain ⟨N, r1, r2⟩ := Ev.two h1 h3
  exact ⟨_, N, 18, r, skM s2 0 rSkel, Nat.le_refl _, r1, r2, lwIx_sk s, lwIx_sk s2⟩
theorem opL.go {s : rSg} {yx ym : Nat} {as : List rv} (h : opL s yx ym as) : ∃ M2, lwGoL 0 725 yx ym as (skM s 0 rSkel) M2 := by
  obtain ⟨v, s2, h1, r, rfl, v2, s3, h3, rfl⟩ := h
  obtain ⟨N, r1, r2⟩ := Ev.two h1 h3
  exact ⟨_, N, 18, r, skM s2 0 rSkel, Nat.le_refl _, r1, r2, lwIx_sk s, lwIx_sk s2⟩
theorem op2 {s : rSg} (hm : mdF s) {yx ym d d2 : Nat} {as : List rv} {r : Int32} (hd : d ≤ 18) (hd2 : d2 ≤ 18) (hx : EvS rSkel d yx (.inr (.inr (some 0)) :: as) s (fun v s2 => v = some (.inl r) ∧ fr s s2)) (hy : ∀ s2, mdF s2 → EvS rSkel d2 ym (.inr (.inr (some 725)) :: as) s2 (fun v2 _ => v2 = some (.inl r))) : opI s yx ym as := by
  refine (hx.up hd).imp ?_
  rintro _ s2 ⟨rfl, hf⟩
  exact ⟨r, rfl, (hy s2 (mdF_ext hf hm)).up hd2⟩
theorem op2L {s : rSg} (hm : mdF s) {yx ym d d2 : Nat} {as : List rv} {r : Int64} (hd : d ≤ 18) (hd2 : d2 ≤ 18) (hx : EvS rSkel d yx (.inr (.inr (some 0)) :: as) s (fun v s2 => v = some (.inr (.inl r)) ∧ fr s s2)) (hy : ∀ s2, mdF s2 → EvS rSkel d2 ym (.inr (.inr (some 725)) :: as) s2 (fun v2 _ => v2 = some (.inr (.inl r)))) : opL s yx ym as := by
  refine (hx.up hd).imp ?_
  rintro _ s2 ⟨rfl, hf⟩
  exact ⟨r, rfl, (hy s2 (mdF_ext hf hm)).up hd2⟩
/-! refusals -/
theorem c_refuse (s : rSg) (x : Int32) : EvS rSkel 1 72 [.inr (.inr (some 0)), .inl x] s (fun v s2 => v = some (.inl x) ∧ fr s s2) := by
  refine w_72 s x ⟨fun _ => ⟨rfl, fr.rfl'⟩, fun h => ⟨fun _ => ⟨rfl, fr.rfl'⟩, fun h2 => ?_⟩⟩
  have := rIn_of (n := 7) (by decide) h h2
  exact ⟨this, this, rfl, fr.up (by decide)⟩
theorem m_no {x : Int32} (h : rIn (-x) 7 = true) (s : rSg) : EvS rSkel 1 128 [.inr (.inr (some 725)), .inl x] s (fun v s2 => v = some (.inl x)) := w_128 s x ⟨h, h, rfl⟩
/-- the class's refusal as the last act -/
theorem c_ref {s t : rSg} (hf : fr s t) (x : Int32) : EvS rSkel 1 72 [.inr (.inr (some 0)), .inl x] t (fun v s2 => ∃ n, v = some (.inl n) ∧ some (.inl n : rv) = some (.inl x) ∧ fr s s2) := by
  refine (c_refuse t x).imp ?_
  rintro _ s2 ⟨rfl, h⟩
  exact ⟨_, rfl, rfl, hf.trans h⟩
theorem m_ref {x : Int32} (h : rIn (-x) 7 = true) (s : rSg) : EvS rSkel 1 128 [.inr (.inr (some 725)), .inl x] s (fun v s2 => ∃ n, v = some (.inl n) ∧ some (.inl n : rv) = some (.inl x)) := by
  refine (m_no h s).imp ?_
  rintro _ s2 rfl
  exact ⟨_, rfl, rfl⟩
/-! no answer yet -/
theorem c_isAns0 {s : rSg} (h : s 6 10 = 0) (x : Int32) : EvS rSkel 1 81 [.inr (.inr (some 0)), .inl x] s (fun v s2 => v = some (.inl 0) ∧ s2 = s) := by
  refine w_81 s x ⟨fun _ => ⟨rfl, rfl⟩, fun h0 => ⟨fun _ => ⟨rfl, rfl⟩, fun h1 => ?_⟩⟩
  rw [h] at h1
  exact absurd (Int32.not_lt.mp h0) h1
theorem m_isAns0 {s : rSg} (h : s 748 0 = 0) (x : Int32) : EvS rSkel 2 164 [.inr (.inr (some 725)), .inl x] s (fun v s2 => v = some (.inl 0) ∧ s2 = s) := by
  refine w_164 s x ((ev_m_isIn 0 s x 0 _).imp ?_)
  rintro _ s ⟨rfl, rfl⟩
  have e : (if x < 0 then (0 : Int32) else if (s 748 0) - 1 < x then 0 else 1) = 0 := by
    by_cases q : x < 0
    · rw [if_pos q]
    · rw [if_neg q, h, if_pos]
      have h9 : ¬ x.toInt < (0 : Int32).toInt := fun z => q (Int32.lt_iff_toInt_lt.mpr z)
      rw [Int32.lt_iff_toInt_lt]
      have h2 : (0 - 1 : Int32).toInt = -1 := rfl
      have h3 : (0 : Int32).toInt = 0 := rfl
      omega
  rw [e]
  exact ⟨_, rfl, bN0, rfl, rfl⟩
section NOANS
variable {s : rSg}
theorem cl610 (hc : clF s) : s 6 10 = 0 := hc.1.2.2.2.2.2.2.2.2.1
theorem md748 (hm : mdF s) : s 748 0 = 0 := hm.2.2.2.2.2.2.2.2.1
theorem o_answers (hc : clF s) (hm : mdF s) : opI s 79 162 [] := op2 hm (d := 1) (d2 := 1) (r := 0) (by decide) (by decide) (w_79 s ⟨by rw [cl610 hc], fr.rfl'⟩) (fun s2 h => w_162 s2 (by rw [md748 h]))
theorem o_length (hc : clF s) (hm : mdF s) (a b : Int32) : opI s 80 163 [.inl a, .inl b] := by
  refine op2 hm (d := 5) (d2 := 6) (r := -1) (by decide) (by decide) ?_ (fun s2 h => ?_)
  · refine w_80 s a b ((c_isAns0 (cl610 hc) a).imp ?_)
    rintro _ _ ⟨rfl, rfl⟩
    exact ⟨_, rfl, fun _ => c_ref fr.rfl' (-1), fun q => absurd rfl q⟩
  · refine w_163 s2 a b ((m_isAns0 (md748 h) a).imp ?_)
    rintro _ _ ⟨rfl, rfl⟩
    exact ⟨_, rfl, fun _ => m_ref (by decide) _, fun q => absurd rfl q⟩
theorem o_text (hc : clF s) (hm : mdF s) (a b c : Int32) : opI s 83 172 [.inl a, .inl b, .inl c] := by
  refine op2 hm (d := 5) (d2 := 6) (r := -1) (by decide) (by decide) ?_ (fun s2 h => ?_)
  · refine w_83 s a b c ((c_isAns0 (cl610 hc) a).imp ?_)
    rintro _ _ ⟨rfl, rfl⟩
    exact ⟨_, rfl, fun _ => c_ref fr.rfl' (-1), fun q => absurd rfl q⟩
  · refine w_172 s2 a b c ((m_isAns0 (md748 h) a).imp ?_)
    rintro _ _ ⟨rfl, rfl⟩
    exact ⟨_, rfl, fun _ => m_ref (by decide) _, fun q => absurd rfl q⟩
theorem o_when (hc : clF s) (hm : mdF s) (a : Int32) : opI s 84 173 [.inl a] := by
  refine op2 hm (d := 2) (d2 := 3) (r := -1) (by decide) (by decide) ?_ (fun s2 h => ?_)
  · refine w_84 s a ((c_isAns0 (cl610 hc) a).imp ?_)
    rintro _ _ ⟨rfl, rfl⟩
    exact ⟨_, rfl, fun q => absurd rfl q, fun _ => c_ref fr.rfl' (-1)⟩
  · refine w_173 s2 a ((m_isAns0 (md748 h) a).imp ?_)
    rintro _ _ ⟨rfl, rfl⟩
    exact ⟨_, rfl, fun _ => m_ref (by decide) _, fun q => absurd rfl q⟩
theorem o_kept (hc : clF s) (hm : mdF s) (a : Int32) : opI s 85 174 [.inl a] := by
  refine op2 hm (d := 2) (d2 := 3) (r := -1) (by decide) (by decide) ?_ (fun s2 h => ?_)
  · refine w_85 s a ((c_isAns0 (cl610 hc) a).imp ?_)
    rintro _ _ ⟨rfl, rfl⟩
    exact ⟨_, rfl, fun q => absurd rfl q, fun _ => c_ref fr.rfl' (-1)⟩
  · refine w_174 s2 a ((m_isAns0 (md748 h) a).imp ?_)
    rintro _ _ ⟨rfl, rfl⟩
    exact ⟨_, rfl, fun _ => m_ref (by decide) _, fun q => absurd rfl q⟩
theorem o_earliest (hc : clF s) (hm : mdF s) (a b : Int32) : opI s 92 180 [.inl a, .inl b] := by
  refine op2 hm (d := 6) (d2 := 8) (r := -1) (by decide) (by decide) ?_ (fun s2 h => ?_)
  · refine w_92 s a b ((c_isAns0 (cl610 hc) a).imp ?_)
    rintro _ _ ⟨rfl, rfl⟩
    exact ⟨_, rfl, fun _ => c_ref fr.rfl' (-1), fun q => absurd rfl q⟩
  · refine w_180 s2 a b ((m_isAns0 (md748 h) a).imp ?_)
    rintro _ _ ⟨rfl, rfl⟩
    exact ⟨_, rfl, fun _ => m_ref (by decide) _, fun q => absurd rfl q⟩
theorem o_meet (hc : clF s) (hm : mdF s) (a b : Int32) : opI s 93 181 [.inl a, .inl b] := by
  refine op2 hm (d := 5) (d2 := 7) (r := -1) (by decide) (by decide) ?_ (fun s2 h => ?_)
  · refine w_93 s a b ((c_isAns0 (cl610 hc) a).imp ?_)
    rintro _ _ ⟨rfl, rfl⟩
    exact ⟨_, rfl, fun _ => c_ref fr.rfl' (-1), fun q => absurd rfl q⟩
  · refine w_181 s2 a b ((m_isAns0 (md748 h) a).imp ?_)
    rintro _ _ ⟨rfl, rfl⟩
    exact ⟨_, rfl, fun _ => m_ref (by decide) _, fun q => absurd rfl q⟩
theorem o_judge (hc : clF s) (hm : mdF s) (a : Int32) : opI s 105 198 [.inl a] := by
  refine op2 hm (d := 5) (d2 := 6) (r := -1) (by decide) (by decide) ?_ (fun s2 h => ?_)
  · refine w_105 s a ((c_isAns0 (cl610 hc) a).imp ?_)
    rintro _ _ ⟨rfl, rfl⟩
    exact ⟨_, rfl, fun q => absurd rfl q, fun _ => c_ref fr.rfl' (-1)⟩
  · refine w_198 s2 a ((m_isAns0 (md748 h) a).imp ?_)
    rintro _ _ ⟨rfl, rfl⟩
    exact ⟨_, rfl, fun q => absurd rfl q, fun _ => m_ref (by decide) _⟩
end NOANS
/-! letters, the row, clear -/
theorem row687 : isRow 687 96 := ⟨by decide, sk_687, sk_688⟩
theorem row689 : isRow 689 32 := ⟨by decide, sk_689, sk_690⟩
theorem c_add0 {s : rSg} {r n : Nat} (hr : isRow r n) (hr9 : r < 700) (hn : 0 < n) (hn9 : n < 2 ^ 31) (h : s r 1 = 0) (x : Int32) : EvS rSkel 1 15 [.inr (.inr (some r)), .inl x] s (fun v s2 => ∃ n, v = some (.inl n) ∧ some (.inl n : rv) = some (.inl 1) ∧ fr s s2) := by
  have e0 : ¬ nI n ≤ (0 : Int32) := fun q => absurd ((nI_leI (a := n) (b := 0) hn9 (by decide)).mp q) (by omega)
  refine w_15 s r n hr x ⟨fun q => absurd q (by rw [h]; decide), fun h0 => ⟨fun q => absurd q (by rw [h]; exact e0), fun h1 => ?_⟩⟩
  exact ⟨rIn_of hn9 h0 h1, _, rfl, by rw [h]; rfl, fun q hq => by rw [up2_nk _ _ _ (by omega), up2_nk _ _ _ (by omega)]⟩
