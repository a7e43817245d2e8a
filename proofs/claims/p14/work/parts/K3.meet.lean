/-! MEET: both answer alike, if no unify gives up -/
/-- what the first y unifies leave -/
def uRch (D : Nat → Prop) (V0 : Nat → TV) : Nat → (Nat → TV) → Prop
  | 0, W => W = V0
  | y + 1, W => ∃ U n, uRch D V0 y U ∧ uRun D U [(y, y + 64)] n W []
/-- no unify gives up while a joint solution stands -/
def MF (V1 V2 : Nat → TV) (D1 D2 : Nat → Prop) : Prop := ∀ (V0 W : Nat → TV) (th : Nat → Nat) (y n : Nat) (W2 : Nat → TV) (rs : List (Nat × Nat)), vAg (jDm D1 D2) (jVw V1 V2) V0 → uRch (jDm D1 D2) V0 y W → vExt V0 W → y < 6 → (∃ rk, vOK W (jDm D1 D2) rk) → (∀ t2, vSol W (jDm D1 D2) t2 ↔ vSol V0 (jDm D1 D2) t2 ∧ ∀ v, v < y → t2 v = t2 (v + 64)) → vSol W (jDm D1 D2) th → (∀ v, v < 6 → th v = th (v + 64)) → uRun (jDm D1 D2) W [(y, y + 64)] n W2 rs → n < 1000000
/-- what is wanting: of two answers of one search no unify gives up -/
def MeetFew : Prop := ∀ (C : Cf) (s : rSg) (k1 k2 np gl nT : Nat) (X Y : Sx) (fs1 ms1 fs2 ms2 : List Nat) (H1 H2 : Nat → Prop), cfOK C → tSz C nT → nT ≤ 40 → cSc C s 7 np gl → cCo s 7 (k1 + 1) C.tp np C.p X.2.2.1 fs1 ms1 H1 X.2.2.2 → cNu C X fs1.length ms1.length → cHs C X (cV s 7 (k1 + 1) 64) fs1 ms1 → X.1 = [] → X.2.2.1 ≤ 60 → cCo s 7 (k2 + 1) C.tp np C.p Y.2.2.1 fs2 ms2 H2 Y.2.2.2 → cNu C Y fs2.length ms2.length → cHs C Y (cV s 7 (k2 + 1) 64) fs2 ms2 → Y.1 = [] → Y.2.2.1 ≤ 60 → jn X.2.2.2 Y.2.2.2 → MF (cV s 7 (k1 + 1) 64) (cV s 7 (k2 + 1) 64) (cDm X.2.2.1 C.tp fs1 ms1) (cDm Y.2.2.1 C.tp fs2 ms2)
theorem vExt_trans {U V W : Nat → TV} (h1 : vExt U V) (h2 : vExt V W) : vExt U W := fun c => by
  rcases h2 c with q | ⟨q1, e, q2⟩
  · rcases h1 c with z | ⟨z1, e, z2⟩
    · exact Or.inl (q.trans z)
    · exact Or.inr ⟨z1, e, q.trans z2⟩
  · rcases h1 c with z | ⟨z1, e2, z2⟩
    · exact Or.inr ⟨by rw [← z]; exact q1, e, q2⟩
    · rw [z2] at q1; cases q1
theorem vExt_rfl {V : Nat → TV} : vExt V V := fun c => Or.inl rfl
theorem vExt_pair {V W : Nat → TV} (h : vExt V W) {c a b : Nat} (hw : W c = some (.inr (.inr (a, b)))) : V c = some (.inr (.inr (a, b))) := by
  rcases h c with q | ⟨_, e, q⟩
  · rw [← q]; exact hw
  · rw [q] at hw; cases hw
theorem cDm_pairs {sg : rSg} {s kb tp np nv : Nat} {p : Nat → Nat} {fs ms : List Nat} {H : Nat → Prop} {K : Kx} (htn : tp ≤ np) (h : cCo sg s kb tp np p nv fs ms H K) {c a b : Nat} (hc : cDm nv tp fs ms c) (hv : cV sg s kb 64 c = some (.inr (.inr (a, b)))) : c ∈ cCs tp fs ms := by
  rcases cFr_code h.2.1 htn hc with q | q | ⟨q, _⟩
  · exact absurd hv (cV_nopair (by have := h.2.1.1; omega))
  · exact absurd hv (cV_nopair (by omega))
  · exact cCs_mem.mpr q
/-- the sizes of both -/
noncomputable def jZz (tp : Nat) (p : Nat → Nat) (c : Nat) : Nat := @ite _ (fst1 c) (Classical.propDecidable _) (cZ tp p c) (cZ tp p (unS2 c))
theorem jZz_2 {tp : Nat} {p : Nat → Nat} {d : Nat} (h : d < 64 ∨ (128 ≤ d ∧ d < 139) ∨ (256 ≤ d ∧ d < 896)) : jZz tp p (sec d) = cZ tp p d := by
  unfold jZz
  rcases h with q | q | q
  · rw [if_neg (sec_nf (Or.inl q)), unS2_sec (Or.inl (by omega)) (Or.inl q)]
  · rw [sec_atom q.1 (by omega), if_pos (show fst1 d from Or.inr (Or.inl (by omega)))]
  · rw [if_neg (sec_nf (Or.inr q.1)), unS2_sec (Or.inr q.1) (Or.inr q.1)]
theorem jZz_1 {tp : Nat} {p : Nat → Nat} {d : Nat} (h : d < 64 ∨ (128 ≤ d ∧ d < 139) ∨ (256 ≤ d ∧ d < 896)) : jZz tp p d = cZ tp p d := by
  unfold jZz
  rw [if_pos]
  rcases h with q | q | q
  · exact Or.inl q
  · exact Or.inr (Or.inl (by omega))
  · exact Or.inr (Or.inr (by omega))
theorem sec64 {v : Nat} (hv : v < 64) : sec v = v + 64 := by unfold sec; rw [if_neg (by omega), if_pos (by omega)]
section
variable {s : rSg} {k k2 np tp nv1 nv2 : Nat} {p : Nat → Nat} {fs1 ms1 fs2 ms2 : List Nat} {H1 H2 : Nat → Prop} {K1 K2 : Kx}
theorem jdSz (htn : tp ≤ np) (hn : np ≤ 640) (h1 : cCo s 7 (k + 1) tp np p nv1 fs1 ms1 H1 K1) (h2 : cCo s 7 (k2 + 1) tp np p nv2 fs2 ms2 H2 K2) {W : Nat → TV} (hw : ∀ c a b, jDm (cDm nv1 tp fs1 ms1) (cDm nv2 tp fs2 ms2) c → W c = some (.inr (.inr (a, b))) → jVw (cV s 7 (k + 1) 64) (cV s 7 (k2 + 1) 64) c = some (.inr (.inr (a, b)))) : dSz W (jDm (cDm nv1 tp fs1 ms1) (cDm nv2 tp fs2 ms2)) 200 (jZz tp p) := by
  have c1 := cDm_cod htn hn h1
  have c2 := cDm_cod htn hn h2
  have d1 := cFr_dSz h1.2.1 htn
  have d2 := cFr_dSz h2.2.1 htn
  obtain ⟨_, o1⟩ := h1.2.1.2.2.2.2.2.2.1
  obtain ⟨_, o2⟩ := h2.2.1.2.2.2.2.2.2.1
  intro c hc
  have hw := fun a b => hw c a b hc
  rcases hc with hc | ⟨d, rfl, hd⟩
  · obtain ⟨q1, q2, q3⟩ := d1 c hc
    rw [jZz_1 (c1 c hc)]
    refine ⟨q1, q2, fun a b h => ?_⟩
    have h := hw a b h
    rw [jVw_D1 c1 hc] at h
    have oo := (o1 c hc).2.2 a b h
    rw [jZz_1 (c1 a oo.1.1), jZz_1 (c1 b oo.2.1)]
    exact q3 a b h
  · obtain ⟨q1, q2, q3⟩ := d2 d hd
    rw [jZz_2 (c2 d hd)]
    refine ⟨q1, q2, fun a b h => ?_⟩
    have h := hw a b h
    rw [jVw_D2 c2 (cV_atm1 _ _ _ _) (cV_atm1 _ _ _ _) hd] at h
    cases ez : cV s 7 (k2 + 1) 64 d with
    | none => rw [ez] at h; cases h
    | some x =>
      rw [ez] at h
      rcases x with y | y | ⟨x, y⟩
      · cases h
      · cases h
      · cases h
        have oo := (o2 d hd).2.2 x y ez
        rw [jZz_2 (c2 x oo.1.1), jZz_2 (c2 y oo.2.1)]
        exact q3 x y ez
theorem jLow (htn : tp ≤ np) (hn : np ≤ 640) (h1 : cCo s 7 (k + 1) tp np p nv1 fs1 ms1 H1 K1) (h2 : cCo s 7 (k2 + 1) tp np p nv2 fs2 ms2 H2 K2) (l1 : tp + fs1.length + ms1.length ≤ 200) (l2 : tp + fs2.length + ms2.length ≤ 200) {W : Nat → TV} (hw : ∀ c a b, jDm (cDm nv1 tp fs1 ms1) (cDm nv2 tp fs2 ms2) c → W c = some (.inr (.inr (a, b))) → jVw (cV s 7 (k + 1) 64) (cV s 7 (k2 + 1) 64) c = some (.inr (.inr (a, b)))) (a b : Nat) : cLow W (jDm (cDm nv1 tp fs1 ms1) (cDm nv2 tp fs2 ms2)) a b := by
  have c1 := cDm_cod htn hn h1
  have c2 := cDm_cod htn hn h2
  rintro W2 hext ⟨rk, hok⟩
  obtain ⟨hh, q1, q2⟩ := vHt_ex hok (cCs tp fs1 ms1 ++ (cCs tp fs2 ms2).map sec) (fun c x y hc hv => by
    have h := hw c x y hc (vExt_pair hext hv)
    rcases hc with hc | ⟨d, rfl, hd⟩
    · rw [jVw_D1 c1 hc] at h
      exact List.mem_append_left _ (cDm_pairs htn h1 hc h)
    · rw [jVw_D2 c2 (cV_atm1 _ _ _ _) (cV_atm1 _ _ _ _) hd] at h
      cases ez : cV s 7 (k2 + 1) 64 d with
      | none => rw [ez] at h; cases h
      | some z =>
        rw [ez] at h
        rcases z with z | z | ⟨z1, z2⟩
        · cases h
        · cases h
        · exact List.mem_append_right _ (List.mem_map.mpr ⟨d, cDm_pairs htn h2 hd ez, rfl⟩))
  have hl : (cCs tp fs1 ms1 ++ (cCs tp fs2 ms2).map sec).length ≤ 500 := by
    simp only [cCs, List.length_append, List.length_map, List.length_range]
    omega
  exact ⟨hh, q1, by have := q2 a; omega, by have := q2 b; omega⟩
theorem cx_93b (htn : tp ≤ np) (hn : np ≤ 640) (h1 : cCo s 7 (k + 1) tp np p nv1 fs1 ms1 H1 K1) (h2 : cCo s 7 (k2 + 1) tp np p nv2 fs2 ms2 H2 K2) (l1 : tp + fs1.length + ms1.length ≤ 200) (l2 : tp + fs2.length + ms2.length ≤ 200) {t0 : rSg} (hag : vAg (jDm (cDm nv1 tp fs1 ms1) (cDm nv2 tp fs2 ms2)) (jVw (cV s 7 (k + 1) 64) (cV s 7 (k2 + 1) 64)) (cV t0 7 692 128)) {l : Nat} (hl9 : l + 2000 < 2 ^ 32)
    (hmf : (∃ th, vSol (cV t0 7 692 128) (jDm (cDm nv1 tp fs1 ms1) (cDm nv2 tp fs2 ms2)) th ∧ ∀ v, v < 6 → th v = th (v + 64)) → MF (cV s 7 (k + 1) 64) (cV s 7 (k2 + 1) 64) (cDm nv1 tp fs1 ms1) (cDm nv2 tp fs2 ms2))
    {P : Option rv → rSg → Prop} (p1 : ∀ t, (∀ q, q = 0 ∨ (5 < q ∧ q ≠ 692) → t q = t0 q) → (∃ m, m ≤ l + 774 ∧ cSn t m) → (∃ th, vSol (cV t0 7 692 128) (jDm (cDm nv1 tp fs1 ms1) (cDm nv2 tp fs2 ms2)) th ∧ ∀ v, v < 6 → th v = th (v + 64)) → P (some (.inl 1)) t) (p0 : ∀ t, (∀ q, q = 0 ∨ (5 < q ∧ q ≠ 692) → t q = t0 q) → (∃ m, m ≤ l + 774 ∧ cSn t m) → (¬ ∃ th, vSol (cV t0 7 692 128) (jDm (cDm nv1 tp fs1 ms1) (cDm nv2 tp fs2 ms2)) th ∧ ∀ v, v < 6 → th v = th (v + 64)) → P (some (.inl 0)) t) : ∀ (m y : Nat) (t : rSg) (l3 : Nat), y + m = 6 → (∀ q, q = 0 ∨ (5 < q ∧ q ≠ 692) → t q = t0 q) → cWG t 7 692 128 np (jDm (cDm nv1 tp fs1 ms1) (cDm nv2 tp fs2 ms2)) → (∃ rk, vOK (cV t 7 692 128) (jDm (cDm nv1 tp fs1 ms1) (cDm nv2 tp fs2 ms2)) rk) → (uRch (jDm (cDm nv1 tp fs1 ms1) (cDm nv2 tp fs2 ms2)) (cV t0 7 692 128) y (cV t 7 692 128) ∧ vExt (cV t0 7 692 128) (cV t 7 692 128)) → (∀ th, vSol (cV t 7 692 128) (jDm (cDm nv1 tp fs1 ms1) (cDm nv2 tp fs2 ms2)) th ↔ vSol (cV t0 7 692 128) (jDm (cDm nv1 tp fs1 ms1) (cDm nv2 tp fs2 ms2)) th ∧ ∀ v, v < y → th v = th (v + 64)) → cSn t l3 → l3 ≤ l + y * 129 → g_93_44 (nI y) t P := by
  have b1 := h1.2.1.1
  have b2 := h2.2.1.1
  intro m
  induction m with
  | zero =>
    intro y t l3 hy hf hW hok ⟨hrch, hext⟩ hsol hl3 hl4
    obtain rfl : y = 6 := by omega
    refine w_93_44 t _ ⟨fun _ => p1 t hf ⟨l3, by omega, hl3⟩ ?_, fun q => absurd (by decide) q⟩
    obtain ⟨rk, hok⟩ := hok
    obtain ⟨th, q1, _⟩ := vSol_ex hok (fun _ => 0)
    exact ⟨th, (hsol th).mp q1⟩
  | succ m ih =>
    intro y t l3 hy hf hW hok ⟨hrch, hext⟩ hsol hl3 hl4
    have hpw : ∀ c a b, jDm (cDm nv1 tp fs1 ms1) (cDm nv2 tp fs2 ms2) c → cV t 7 692 128 c = some (.inr (.inr (a, b))) → jVw (cV s 7 (k + 1) 64) (cV s 7 (k2 + 1) 64) c = some (.inr (.inr (a, b))) := fun c a b hc hv => by
      rw [← hag c hc]; exact vExt_pair hext hv
    have Da : jDm (cDm nv1 tp fs1 ms1) (cDm nv2 tp fs2 ms2) y := Or.inl (Or.inl (by omega))
    have Db : jDm (cDm nv1 tp fs1 ms1) (cDm nv2 tp fs2 ms2) (y + 64) := Or.inr ⟨y, (sec64 (by omega)).symm, Or.inl (by omega)⟩
    refine w_93_44 t _ ⟨fun q => absurd ((nI_leI (a := 6) (by decide) (by omega)).mp q) (by omega), fun _ => ?_⟩
    rw [show nI y + 64 = nI (y + 64) from nI_add y 64]
    refine (cG_unify scr7 arr692 (by decide) hW hok hl3 (by omega) Da Db (jLow htn hn h1 h2 l1 l2 hpw y (y + 64)) (by decide) (jdSz htn hn h1 h2 hpw)).imp ?_
    rintro _ u ⟨x, bs, rfl, uW, uok, uext, ubd, ⟨l5, ul5, ul6⟩, hout⟩
    have bl : bs.length ≤ 128 := by
      have h9 := ubd.2.2.2.2.2
      have := opensC_le t 692 128
      omega
    have uf : ∀ q, q = 0 ∨ (5 < q ∧ q ≠ 692) → u q = t0 q := fun q hq => by rw [ubd.1 q (by omega) (by omega)]; exact hf q hq
    rcases hout with ⟨rfl, hs, _, nr, hr9⟩ | ⟨rfl, hno⟩ | ⟨rfl, n, W2, rs, hn9, hrun, hne⟩
    · refine ⟨_, rfl, fun _ => ?_, fun q => absurd (by decide) q⟩
      rw [nI_1]
      refine ih (y + 1) u l5 (by omega) uf uW uok ⟨⟨_, nr, hrch, hr9⟩, vExt_trans hext uext⟩ (fun th => ?_) ul5 (by omega)
      rw [hs th, hsol th]
      constructor
      · rintro ⟨⟨z1, z2⟩, z3⟩
        refine ⟨z1, fun v hv => ?_⟩
        by_cases q : v = y
        · subst q; exact z3
        · exact z2 v (by omega)
      · rintro ⟨z1, z2⟩
        exact ⟨⟨z1, fun v hv => z2 v (by omega)⟩, z2 y (by omega)⟩
    · refine ⟨_, rfl, fun q => absurd rfl q, fun _ => p0 u uf ⟨l5, by omega, ul5⟩ ?_⟩
      rintro ⟨th, z1, z2⟩
      exact hno th ((hsol th).mpr ⟨z1, fun v hv => z2 v (by omega)⟩) (z2 y (by omega))
    · refine ⟨_, rfl, fun q => absurd rfl q, fun _ => p0 u uf ⟨l5, by omega, ul5⟩ ?_⟩
      rintro ⟨th, z1, z2⟩
      have := hmf ⟨th, z1, z2⟩ (cV t0 7 692 128) (cV t 7 692 128) th y n W2 rs hag hrch hext (by omega) hok hsol ((hsol th).mpr ⟨z1, fun v hv => z2 v (by omega)⟩) z2 hrun
      omega
end
theorem cSe.two {C : Cf} {t : rSg} {b : Nat} {Q : Qx} (h : cSe C t b Q) : ∃ np gl, cSc C t (b + 1) np gl ∧ ∀ (i n : Nat) X, Q.2.1[i]? = some (n, X) → cSt C t (b + 1) (b + 127 + 3 * i) np gl X ∧ X.2.2.1 ≤ 60 := by
  obtain ⟨np, gl, g1, ⟨hd, q1, q2, q3, q4, q5, q6, q7, q8⟩, g3⟩ := h
  exact ⟨np, gl, g1, fun i n X hi => ⟨(q8 i n X hi).1, (q8 i n X hi).2.1⟩⟩
theorem cx_93E (hM : MeetFew) {s : rSg} {A : Ab} {im : Option Ab} (h : clI s) {l : Nat} (hl : cSn s l) (hl9 : l + 5304000 + 30000 < 2 ^ 32) (c : CJ s A im) (x y : Int32) : EvS rSkel 5 93 [.inr (.inr (some 0)), .inl x, .inl y] s (cP (sMeet A.Q x y) l 5304000 s) := by
  have f := c.1.f
  have l30 := f.2.2.1.2
  have k0 : kc0 l 5304000 s s := ⟨kc.rfl', rfl, ⟨l, by omega, hl⟩, h⟩
  refine w_93 s x y (cx_81 f.2.2.1.1 f.2.2.1.2 x (fun i hi e => ⟨_, rfl, fun q => absurd q (by decide), fun _ => ?_⟩) (fun hn => ⟨_, rfl, fun _ => cx_no k0 (by decide) (Or.inr ⟨hn, rfl, rfl⟩), fun q => absurd rfl q⟩))
  obtain ⟨⟨n, X⟩, hX⟩ : ∃ p, A.Q.2.1[i]? = some p := ⟨_, List.getElem?_eq_getElem hi⟩
  refine cx_81 f.2.2.1.1 f.2.2.1.2 y (fun j hj e2 => ⟨_, rfl, fun _ => ?_, fun q => absurd (by decide) q⟩) (fun hn => ⟨_, rfl, fun q => absurd rfl q, fun _ => cx_no k0 (by decide) (Or.inl ⟨i, n, X, hX, by omega, e, Or.inr ⟨hn, rfl, rfl⟩⟩)⟩)
  obtain ⟨⟨n2, Y⟩, hY⟩ : ∃ p, A.Q.2.1[j]? = some p := ⟨_, List.getElem?_eq_getElem hj⟩
  obtain ⟨C, _, _, e3, _, _, eT, e7, e8⟩ := c.1
  have eS := e8.2.2.2.2.2.2 rfl
  obtain ⟨np, gl, sc, an⟩ := e7.two
  have aE : anE A.Q := by
    obtain ⟨_, _, _, _, _, _, _, z⟩ := e7
    exact z
  have tdX : X.1 = [] := aE _ (List.mem_of_getElem? hX)
  have tdY : Y.1 = [] := aE _ (List.mem_of_getElem? hY)
  obtain ⟨sX, x60⟩ := an i n X hX
  obtain ⟨sY, y60⟩ := an j n2 Y hY
  obtain ⟨fs1, ms1, H1, gs1, a1, _, _, _, _, a6, a7, a8⟩ := sX
  obtain ⟨fs2, ms2, H2, gs2, d1, _, _, _, _, d6, d7, d8⟩ := sY
  have htn := sc.1.1
  have hnp := sc.1.2.1
  have cn1 := cNu_cn e3.1 a7 x60
  have cn2 := cNu_cn e3.1 d7 y60
  have L1 : C.tp + fs1.length + ms1.length ≤ 200 := by have := cn1.2; unfold cCn at this; omega
  have L2 : C.tp + fs2.length + ms2.length ≤ 200 := by have := cn2.2; unfold cCn at this; omega
  have nb1 := a6.2.1.1
  have nb2 := d6.2.1.1
  rw [e, e2]
  refine cx_40 seaA6 s (by omega) (fun q1 => ⟨_, rfl, q1, cx_40 seaA6 s (by omega) (fun q2 => ⟨_, rfl, q2, (cx_94 q1 q2 (by omega) (by omega) a1 (by omega) d1 (by omega)).imp ?_⟩)⟩)
  rintro _ t ⟨rfl, ht⟩
  obtain ⟨hag, hW⟩ := tkB_V htn hnp a6 d6 ht
  have c1 := cDm_cod htn hnp a6
  have c2 := cDm_cod htn hnp d6
  obtain ⟨rk1, o1⟩ := a6.2.1.2.2.2.2.2.2.1
  obtain ⟨rk2, o2⟩ := d6.2.1.2.2.2.2.2.2.1
  obtain ⟨rk, oj⟩ := jOK c1 c2 (cV_atm1 s 7 (6 + 127 + 3 * i + 1) 64) (cV_atm1 s 7 (6 + 127 + 3 * j + 1) 64) o1 o2
  have js := jSol c1 c2 (cV_atm1 s 7 (6 + 127 + 3 * i + 1) 64) (cV_atm1 s 7 (6 + 127 + 3 * j + 1) 64) a6.2.2.1 d6.2.2.1 (fun v hv => Or.inl (by omega)) (fun v hv => Or.inl (by omega)) ⟨rk1, o1⟩ ⟨rk2, o2⟩
  have jt : (∃ th, vSol (cV t 7 692 128) (jDm (cDm X.2.2.1 C.tp fs1 ms1) (cDm Y.2.2.1 C.tp fs2 ms2)) th ∧ ∀ v, v < 6 → th v = th (v + 64)) ↔ jn X.2.2.2 Y.2.2.2 := by
    rw [← js]
    constructor
    · rintro ⟨th, z1, z2⟩; exact ⟨th, (vSol_ag hag).mp z1, z2⟩
    · rintro ⟨th, z1, z2⟩; exact ⟨th, (vSol_ag hag).mpr z1, z2⟩
  have fin : ∀ u, (∀ q, q = 0 ∨ (5 < q ∧ q ≠ 692) → u q = t q) → (∃ m, m ≤ l + 774 ∧ cSn u m) → kc0 l 5304000 s u := fun u uf um => by
    have us : ∀ q, q = 0 ∨ (5 < q ∧ q ≠ 692) → u q = s q := fun q hq => by rw [uf q hq, ht.1 q (by omega)]
    obtain ⟨m, m1, m2⟩ := um
    exact ⟨fun q hq => us q (by omega), us 691 (by omega), ⟨m, by omega, m2⟩, h.1.ext (us 6 (by omega)), h.2.1.ext (us 230 (by omega)), h.2.2.ext (us 454 (by omega))⟩
  refine ⟨rfl, cx_93b (t0 := t) htn hnp a6 d6 L1 L2 hag (l := l) (by omega) (fun z => hM C s _ _ np gl _ X Y fs1 ms1 fs2 ms2 H1 H2 e3.1 eS eT sc a6 a7 a8 tdX x60 d6 d7 d8 tdY y60 (jt.mp z)) (fun u uf um hj => (fin u uf um).is (Or.inl ⟨i, n, X, hX, by omega, rfl, Or.inl ⟨j, n2, Y, hY, by omega, rfl, Or.inl ⟨jt.mp hj, rfl, rfl⟩⟩⟩)) (fun u uf um hj => (fin u uf um).is (Or.inl ⟨i, n, X, hX, by omega, rfl, Or.inl ⟨j, n2, Y, hY, by omega, rfl, Or.inr ⟨fun z => hj (jt.mpr z), rfl, rfl⟩⟩⟩)) 6 0 t l rfl (fun _ _ => rfl) hW ⟨rk, vOK_ag hag oj⟩ ⟨rfl, vExt_rfl⟩ (fun th => ⟨fun q => ⟨q, fun v hv => absurd hv (by omega)⟩, fun q => q.1⟩) (cSn_fr hl (by rw [ht.1 1 (by decide)]) (ht.1 5 (by decide))) (by omega)⟩
/-- meet answers alike, if no unify gives up -/
theorem oX_meetF (hM : MeetFew) {k : Nat} {s : rSg} (h : JI (k + 1) s) (x y : Int32) : opX s k 93 181 [.inl x, .inl y] := by
  obtain ⟨A, im, h1, h2, h3, hs, l, h5, h6⟩ := h
  exact join (D := 5304000) (sMeet_uq _ _ _) h1 h2 h3 hs h5 h6 (by decide) (by decide) (by decide) (cx_93E hM h1 h5 (l9_of h6) h2 x y) (fun t _ ht => mx_181E ht x y)
