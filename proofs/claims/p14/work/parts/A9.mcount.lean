/-! THE REFERENCE: share, count -/
theorem l_rem {x y : Int64} (hx1 : 0 ≤ x.toInt) (hx2 : x.toInt < 2 ^ 31) (hy1 : 0 < y.toInt) (hy2 : y.toInt < 2 ^ 31) : (x - x / y * y).toInt = x.toInt % y.toInt := by
  have hd := lg_ldiv_nonneg hx1 hy1
  have e := Int.mul_ediv_add_emod x.toInt y.toInt
  have m1 := Int.emod_nonneg x.toInt (show y.toInt ≠ 0 by omega)
  have m2 := Int.emod_lt_of_pos x.toInt hy1
  have q0 : 0 ≤ x.toInt / y.toInt := Int.ediv_nonneg hx1 (by omega)
  have p0 : 0 ≤ y.toInt * (x.toInt / y.toInt) := Int.mul_nonneg (by omega) q0
  have hm : (x / y * y).toInt = y.toInt * (x.toInt / y.toInt) := by
    rw [Int64.toInt_mul, hd, Int.mul_comm]
    generalize y.toInt * (x.toInt / y.toInt) = p at *
    exact Int.bmod_eq_of_le (by omega) (by omega)
  rw [Int64.toInt_sub, hm]
  generalize y.toInt * (x.toInt / y.toInt) = p at *
  rw [Int.bmod_eq_of_le (by omega) (by omega)]
  omega
theorem ms_193b {s : rSg} {P : Option rv → rSg → Prop} (hP : ∀ r : Int64, ¬ r = 0 → P (some (.inr (.inl r))) s) : ∀ (n : Nat) (x y : Int64), y.toInt < n → 0 ≤ x.toInt → x.toInt < 2 ^ 31 → 0 ≤ y.toInt → y.toInt < 2 ^ 31 → 0 < x.toInt ∨ 0 < y.toInt → g_193_6 x y s P := by
  intro n
  induction n with
  | zero => intro x y h _ _ h2; omega
  | succ n ih =>
    intro x y hn hx1 hx2 hy1 hy2 hor
    have z0 : (0 : Int64).toInt = 0 := rfl
    refine w_193_6 s x y ⟨fun h => hP x (fun e => ?_), fun h => ?_⟩
    · have e2 := (lg_cmp_eq y 0).mp h
      rw [e, e2, z0] at hor
      omega
    · have hne : ¬ y = 0 := fun e => h ((lg_cmp_eq y 0).mpr e)
      have hy0 : 0 < y.toInt := by
        have : y.toInt ≠ 0 := fun e => hne (Int64.toInt_inj.mp (by rw [e, z0]))
        omega
      have er := l_rem hx1 hx2 hy0 hy2
      have m1 := Int.emod_nonneg x.toInt (show y.toInt ≠ 0 by omega)
      have m2 := Int.emod_lt_of_pos x.toInt hy0
      exact ⟨hne, ih y _ (by rw [er]; omega) hy1 hy2 (by rw [er]; exact m1) (by rw [er]; omega) (Or.inl hy0)⟩
def lRet (v : Option rv) : Prop := ∃ r : Int64, v = some (.inr (.inl r))
theorem mi_share {s : rSg} (h : MI s) (x : Int32) : EvS rSkel 2 191 [.inr (.inr (some 725)), .inl x] s (fun v t => lRet v ∧ aft s t) := by
  obtain ⟨T, G, L, hd, w, a, st, g, hb⟩ := h.b
  have ha := hb.1.2.2.2.2.1
  have hs := hb.2.1
  refine w_191 s x (ms_119 s x 0 1 (fun _ => ⟨_, rfl, fun _ => ⟨fun h0 => ?_, fun _ => ⟨⟨_, rfl⟩, mi_same h⟩⟩, fun q => absurd (by decide) q⟩) (fun _ => ⟨_, rfl, fun q => absurd rfl q, fun _ => ?_⟩))
  · have st0 : st ≠ 0 := fun e => h0 (by rw [hs.1, e]; rfl)
    have e1 : ((nI a).toInt64).toInt = a := by rw [Int32.toInt_toInt64, nI_toInt (by omega)]
    have e2 : ((nI st).toInt64).toInt = st := by rw [Int32.toInt_toInt64, nI_toInt (by omega)]
    rw [ha.1, hs.1]
    exact w_193 s _ _ (ms_193b (fun r hr => ⟨r, rfl, fun _ => ⟨hr, ⟨_, rfl⟩, mi_same h⟩, fun _ => ⟨hr, ⟨_, rfl⟩, mi_same h⟩⟩) (st + 1) _ _ (by rw [e2]; omega) (by rw [e1]; omega) (by rw [e1]; omega) (by rw [e2]; omega) (by rw [e2]; omega) (Or.inr (by rw [e2]; omega)))
  · refine w_192 s _ ⟨by decide, by decide, _, rfl, ⟨_, rfl⟩, h.aft (mK.rfl'.up (by simp [kI]) (by decide)) (up2_nk _ _ _ (by decide))⟩
theorem ms_207b {s0 : rSg} {n : Nat} (hn : n ≤ 96) (h40 : s0 725 40 = nI n) {P : Option rv → rSg → Prop} (hP : ∀ t, mK [] [45, 46] s0 t → P none t) : ∀ (m y : Nat) (t : rSg), y + m = n → mK [] [45, 46] s0 t → g_207_12 (nI y) t P := by
  intro m
  induction m with
  | zero =>
    intro y t hy k
    obtain rfl : y = n := by omega
    exact w_207_12 t _ ⟨fun _ => hP t k, fun q => absurd (by rw [k.2 40 (by simp), h40]; exact nI_le (by omega) (by omega)) q⟩
  | succ m ih =>
    intro y t hy k
    have nx : ∀ a b : Int32, g_207_12 (nI y + 1) (up2 (up2 t 725 46 a) 725 45 b) P := fun a b => by
      rw [nI_1]
      exact ih (y + 1) _ (by omega) ((k.upF (by simp)).upF (by simp))
    have n66 : ∀ y2 z0 : Int32, g_207_66 (nI y) y2 z0 t P := fun y2 z0 => w_207_66 t _ _ _ ⟨fun _ => ⟨fun _ => nx _ _, fun _ => ⟨fun _ => nx _ _, fun _ => nx _ _⟩⟩, fun _ => ⟨fun _ => nx _ _, fun _ => ⟨fun _ => nx _ _, fun _ => nx _ _⟩⟩⟩
    refine w_207_12 t _ ⟨fun q => absurd ((nI_leI (a := n) (b := y) (by omega) (by omega)).mp (by rw [k.2 40 (by simp), h40] at q; exact q)) (by omega), fun _ => ⟨rIn_nI (by omega) (by decide), ms_119 t _ 97 102 (fun _ => ⟨_, rfl, fun _ => n66 _ _, fun q => absurd (by decide) q⟩) (fun _ => ⟨_, rfl, fun q => absurd rfl q, fun _ => ms_119 t _ 48 57 (fun _ => ⟨_, rfl, fun _ => n66 _ _, fun q => absurd (by decide) q⟩) (fun _ => ⟨_, rfl, fun q => absurd rfl q, fun _ => ⟨fun _ => n66 _ _, fun _ => ⟨fun _ => n66 _ _, fun _ => n66 _ _⟩⟩⟩)⟩)⟩⟩
theorem mi_count {s : rSg} (h : MI s) (x : Int32) : EvS rSkel 3 206 [.inr (.inr (some 725)), .inl x] s (fun v t => iRet v ∧ aft s t) := by
  obtain ⟨T, G, L, hd, w, a, st, g, r1, r2, r3, r4, r5, r6, ⟨n, r7, r7'⟩, r8⟩ := id h
  refine w_206 s x (ms_119 s x 11 16 (fun e => ⟨_, rfl, fun q => absurd q (by decide), fun _ => ⟨?_, ⟨_, rfl⟩, mi_same h⟩⟩) (fun _ => ⟨_, rfl, fun _ => w_207 s ?_, fun q => absurd rfl q⟩))
  · obtain ⟨m, hm, rfl⟩ := nn_of (Int32.not_lt.mpr (Int32.le_trans (show (0 : Int32) ≤ 11 by decide) e.1))
    have m1 : 11 ≤ m := (nI_leI (a := 11) (by decide) hm).mp e.1
    have m2 : m ≤ 16 := (nI_leI hm (b := 16) (by decide)).mp e.2
    rw [show nI m - 10 = nI (m - 10) from pk_sub (a := m) (b := 10) (by omega)]
    exact rIn_nI (by omega) (by decide)
  · refine ms_207b (s0 := up2 (up2 s 725 45 0) 725 46 0) r7'.1 (by rw [up2_nj _ _ _ (by decide), up2_nj _ _ _ (by decide)]; exact r7) (fun t k => ?_) n 0 _ (by omega) mK.rfl'
    have k2 : mK [] [45, 46] s t := ((mK.rfl'.upF (by simp)).upF (by simp)).trans k
    have o : ∀ y : Int32, iRet (some (.inl y)) ∧ aft s t := fun y => ⟨⟨_, rfl⟩, h.aft (k2.mono (by simp) (by simp [jI])) (k2.1 752 (by decide) (by simp))⟩
    exact ⟨rfl, fun _ => o _, fun _ => o _, fun _ => o _, fun _ => o _, fun _ => o _, fun _ => o _, fun _ => o _, fun _ => o _, fun _ => o _⟩
