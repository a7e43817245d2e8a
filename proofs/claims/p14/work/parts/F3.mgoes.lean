/-! THE REFERENCE: goesOn, loads, exactly -/
/-- how a part of a step ends -/
def goA (tb : Tb) (R : Nat → Nat → Prop) (z h : Nat) (p : stP) (X0 : Sx) (s : rSg) (T G L Tm Gm Lm : Nat) (Q2 : Qx) (t : rSg) : Prop := ∃ T2 G2 L2, SSa tb R t z T2 G2 L2 h Q2 p X0 ∧ (T ≤ T2 ∧ T2 ≤ Tm) ∧ (G ≤ G2 ∧ G2 ≤ Gm) ∧ (L ≤ L2 ∧ L2 ≤ Lm) ∧ hx T G L s t ∧ fy z s t
section
variable {tb : Tb} {R : Nat → Nat → Prop} {s : rSg} {z T G L h : Nat} {Q : Qx} {p : stP} {X0 : Sx}
theorem goA.rfl' (hs : SSa tb R s z T G L h Q p X0) : goA tb R z h p X0 s T G L T G L Q s := ⟨T, G, L, hs, ⟨Nat.le_refl _, Nat.le_refl _⟩, ⟨Nat.le_refl _, Nat.le_refl _⟩, ⟨Nat.le_refl _, Nat.le_refl _⟩, hx.rfl', fy.rfl'⟩
theorem goA.mono {t : rSg} {Tm Gm Lm Tn Gn Ln : Nat} (hg : goA tb R z h p X0 s T G L Tm Gm Lm Q t) (h1 : Tm ≤ Tn) (h2 : Gm ≤ Gn) (h3 : Lm ≤ Ln) : goA tb R z h p X0 s T G L Tn Gn Ln Q t := by
  obtain ⟨T2, G2, L2, g1, g2, g3, g4, g5, g6⟩ := hg
  exact ⟨T2, G2, L2, g1, by omega, by omega, by omega, g5, g6⟩
theorem goA.pre {t u : rSg} {T2 G2 L2 Tm Gm Lm : Nat} (hg : goA tb R z h p X0 t T2 G2 L2 Tm Gm Lm Q u) (hT : T ≤ T2) (hG : G ≤ G2) (hL : L ≤ L2) (e : hx T G L s t) (f : fy z s t) : goA tb R z h p X0 s T G L Tm Gm Lm Q u := by
  obtain ⟨T3, G3, L3, g1, g2, g3, g4, g5, g6⟩ := hg
  exact ⟨T3, G3, L3, g1, by omega, by omega, by omega, e.trans g5 hT hG hL, f.trans g6⟩
theorem k751 {ks : List Nat} (h : ∀ x, x ∈ ks → x < 739) : ∀ k, 739 ≤ k → k ≤ 751 → k ∉ ks := fun k a _ e => by have := h k e; omega
theorem SSa.mfb {t : rSg} (hs : SSa tb R s z T G L h Q p X0) (f : mfb s t) : SSa tb R t z T G L h Q p X0 := hs.K (f.hp hs.1) f.hx (Nat.le_refl _) (Nat.le_refl _) (Nat.le_refl _) f.K (fun k a b => by simp; omega) (by simp)
theorem mfb.fy {s t : rSg} {z : Nat} (f : mfb s t) : fy z s t := fy.of f.K (by simp [kZ]) (by simp [jZ]) (fun k a b => by simp; omega)
/-- goesOn, where it was good -/
theorem fs_153 {q : stP} {X : Sx} (hs : SSa tb R s z T G L h Q p X0) (hc : cXa tb R s T G L q X) (hL : L + 12 ≤ 18000) {x : Int32} (hx0 : ¬ x = 0) : EvS rSkel 10 153 [.inr (.inr (some 725)), .inl x] s (fun v t => v = none ∧ ∃ Q2, tri tb Q X Q2 ∧ goA tb R z h p X0 s T G L T G (L + 12) Q2 t) := by
  refine w_153 s x ⟨fun q => absurd q hx0, fun _ => ?_⟩
  obtain ⟨c1, c2, c3, c4, c5, c6⟩ := id hc.1
  obtain ⟨l1, ⟨is, l2, l3⟩, l4⟩ := hc.2.1
  obtain ⟨pb, hpb⟩ := satB_ex tb X.2.2.2
  have hsat : sax X.2.2.2 := mSt_sax c1.1 hc.2.2
  have hlen : q.2.2.2.1.length ≤ 12 := by have := c6.2.2; omega
  have hsame : kSame tb X.2.2.2 is ↔ kSame tb X.2.2.2 X.2.1 := by
    constructor
    · rintro ⟨g, z1, z2⟩
      exact ⟨g, l2.mem_iff.mp z1, z2⟩
    · rintro ⟨g, z1, z2⟩
      exact ⟨g, l2.mem_iff.mpr z1, z2⟩
  refine (fs_154 hpb hs.1 c1 c3 c6.2.1 (by omega) hc.2.2 l3).imp ?_
  rintro _ t ⟨y, rfl, ⟨rfl, h1, h2, h3⟩ | ⟨rfl, h1, ids, h2, L2, k2, ks2, a1, a2, a3, a4, a5, a6, a7, a8, a9, a10⟩⟩
  · refine ⟨0, rfl, fun _ => ⟨rfl, Q, Or.inl ⟨fun w => w.2 (hsame.mp h1), rfl⟩, ((goA.rfl' (hs.mfb h3)).pre (Nat.le_refl _) (Nat.le_refl _) (Nat.le_refl _) h3.hx h3.fy).mono (Nat.le_refl _) (Nat.le_refl _) (by omega)⟩, fun q => absurd rfl q⟩
  · have hk : ∀ k, 739 ≤ k → k ≤ 751 → k ∉ [733, 734, 735, 736, 737, 738] := fun k a b => by simp; omega
    have hs2 : SSa tb R t z T G L2 h Q p X0 := hs.K a1 a5 (Nat.le_refl _) (Nat.le_refl _) a2 a6 hk (by simp)
    have f2 : fy z s t := fy.of a6 (by simp [kZ]) (by simp [jZ]) hk
    have hidl : ids.length ≤ is.length := by
      rw [h2.length_eq]
      exact List.length_filter_le _ _
    have e1 := mK2_len l3
    have e2 := mK2_len a10
    have hc2 : cXa tb R t T G L2 (q.1, q.2.1, k2, ks2, q.2.2.2.2) (X.1, X.2.1.filter pb, X.2.2) := by
      refine ⟨⟨a4, by rw [a6.2 18 (by simp)]; exact c2, a7, by rw [a6.2 20 (by simp)]; exact c4, c5, ?_, a8, ?_⟩, ⟨mIts_ext a5 (Nat.le_refl _) (Nat.le_refl _) l1, ⟨ids, h2.trans (l2.filter pb), a10⟩, l4⟩, a9⟩
      · exact (c6.ext hs.1 a5 (Nat.le_refl _) (Nat.le_refl _) a2).1
      · have := (c6.ext hs.1 a5 (Nat.le_refl _) (Nat.le_refl _) a2).2.2
        simp only
        omega
    refine ⟨1, rfl, fun q => absurd q (by decide), fun _ => (fs_124 hs2 hc2).imp ?_⟩
    rintro _ u ⟨rfl, g1, g2, g3⟩
    refine ⟨rfl, rfl, _, Or.inr ⟨⟨hsat, fun w => h1 (hsame.mpr w)⟩, _, flt_filter hpb _, rfl⟩, T, G, L2, g1, ⟨Nat.le_refl _, Nat.le_refl _⟩, ⟨Nat.le_refl _, Nat.le_refl _⟩, ⟨a2, by omega⟩, a5.trans g2 (Nat.le_refl _) (Nat.le_refl _) a2, f2.trans g3⟩
/-- loads: the state of the slot is at hand -/
theorem fs_140 (hs : SSa tb R s z T G L h Q p X0) : EvS rSkel 2 140 [.inr (.inr (some 725)), .inl (nI (42 * z + (h + 41) % 42))] s (fun v t => v = none ∧ SSa tb R t z T G L h Q p X0 ∧ cXa tb R t T G L p X0 ∧ hx T G L s t ∧ fy z s t) := by
  have hsl : 42 * z + (h + 41) % 42 < 84 := by have := hs.2.1.2; omega
  have hw := hs.2.2.2.1
  have hh := hs.1
  generalize 42 * z + (h + 41) % 42 = sl at hsl hw
  refine (ev_m_loads 0 s hsl).imp ?_
  rintro _ _ ⟨rfl, rfl⟩
  have k := mLoads_K s sl
  have e6 : ∀ j, j < 128 → mLoads s sl 736 j = ldF (fun i => s 739 (64 * sl + i)) j := fun j hj => mLoads_736 s sl hj
  obtain ⟨e16, e18, e19, e20⟩ := mLoads_F s sl
  generalize mLoads s sl = t at k e6 e16 e18 e19 e20
  have e : hx T G L s t := k.hx (fun k a b => by simp; omega)
  have ht : hp t T G L := hh.keep e ⟨k.2 10 (by simp), k.2 11 (by simp), k.2 12 (by simp)⟩
  refine ⟨rfl, hs.K ht e (Nat.le_refl _) (Nat.le_refl _) (Nat.le_refl _) k (fun k a b => by simp; omega) (by simp), ⟨⟨⟨bRow_load hw.1.1 ht.2.2.1 e.1 e6, bRow_ev hw.1.1 e6, 0, e16, by have := opens_le t; omega⟩, by rw [e18]; exact hw.1.2.1, by rw [e19]; exact hw.1.2.2.1, by rw [e20]; exact hw.1.2.2.2.1, by have := hw.1.2.2.2.2.1; omega, hw.1.2.2.2.2.2.ext hh e (Nat.le_refl _) (Nat.le_refl _) (Nat.le_refl _)⟩, mL_ext e (Nat.le_refl _) (Nat.le_refl _) hw.2.1, ?_⟩, e, fy.of k (by simp [kZ]) (by simp [jZ]) (fun k a b => by simp; omega)⟩
  refine mKv_ag (fun c hc => ?_) hw.2.2
  by_cases q : c / 2 < 64
  · simp only [mV, if_pos q, upC_same, e6 _ (opn_lt q)]
  · exact mV_high (by omega) (fun _ => by
      have hc : c < 2 * T := hc
      rw [upC_ne _ _ (by decide), upC_ne _ _ (by decide)]
      exact e.1 _ (by omega))
theorem cXa.mfb {t : rSg} {q : stP} {X : Sx} {K : Kx} (hc : cXa tb R s T G L q X) (hh : hp s T G L) (f : mfb s t) (c : cB t T) (hk : mKv t T K) : cXa tb R t T G L q (X.1, X.2.1, X.2.2.1, K) :=
  ⟨hc.1.mfb hh f c, mL_ext (X := (X.1, X.2.1, X.2.2.1, K)) (f.hx (T := T) (G := G) (L := L)) (Nat.le_refl _) (Nat.le_refl _) hc.2.1, hk⟩
/-- two are made the same, and it goes on -/
theorem fs_eq {q : stP} {X : Sx} (hs : SSa tb R s z T G L h Q p X0) (hc : cXa tb R s T G L q X) (hL : L + 12 ≤ 18000) {x y : Nat} {fx fy' : Tf} (hx1 : x < T) (hy : y < T) (dx : tdm s T x fx) (dy : tdm s T y fy') {P : Option rv → rSg → Prop} (hP : ∀ t Q2, tri tb Q (X.1, X.2.1, X.2.2.1, uni X.2.2.2 fx fy') Q2 → goA tb R z h p X0 s T G L T G (L + 12) Q2 t → P none t) : EvS rSkel 7 144 [.inr (.inr (some 725)), .inl (nI x), .inl (nI y)] s (fun v t => ∃ n, v = some (.inl n) ∧ EvS rSkel 10 153 [.inr (.inr (some 725)), .inl n] t (fun v2 t2 => v2 = none ∧ P none t2)) := by
  refine (fs_144 hc.1.1 (by have := hs.1.1; omega) hx1 hy hc.2.2 dx dy).imp ?_
  rintro _ t ⟨n, rfl, c1, f1, ⟨rfl, s1, s2⟩ | ⟨rfl, s1⟩⟩
  · refine ⟨1, rfl, (fs_153 (hs.mfb f1) (hc.mfb hs.1 f1 c1 s2) hL (by decide)).imp ?_⟩
    rintro _ u ⟨rfl, Q2, w1, w2⟩
    exact ⟨rfl, hP u Q2 w1 (w2.pre (Nat.le_refl _) (Nat.le_refl _) (Nat.le_refl _) f1.hx f1.fy)⟩
  · refine ⟨0, rfl, w_153 t 0 ⟨fun _ => ⟨rfl, hP t Q (tri_no s1) (((goA.rfl' (hs.mfb f1)).pre (Nat.le_refl _) (Nat.le_refl _) (Nat.le_refl _) f1.hx f1.fy).mono (Nat.le_refl _) (Nat.le_refl _) (by omega))⟩, fun q => absurd rfl q⟩⟩
end
