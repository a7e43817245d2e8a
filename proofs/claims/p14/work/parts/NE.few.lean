/-! MEET: few leaves, of every two answers of one search -/
section
variable {C : Cf} {s : rSg} {k np gl nT nv : Nat} {fs ms : List Nat} {H : Nat → Prop} {K : Kx}
/-- what was told, by the told codes' halves -/
theorem told_pr (hsc : cSc C s 7 np gl) {c : Nat} (h1 : 256 ≤ c) (h2 : c < 256 + C.tp) : (cTd C.tp (qaC C c) ∧ cTd C.tp (qbC C c)) ∧ C.p (qaC C c) + C.p (qbC C c) < C.p c ∧ ∀ kb, cV s 7 kb 64 c = some (.inr (.inr (qaC C c, qbC C c))) := by
  have htn := hsc.1
  obtain ⟨a, b, e1, e2, t1, t2, lt, p1, p2⟩ := hsc.2.2.2.1.2 c h1 h2
  have q1 : qaC C c = a := p1
  have q2 : qbC C c = b := p2
  rw [q1, q2]
  exact ⟨⟨t1, t2⟩, lt, fun kb => cV_pair h1 (by omega) e1 e2 (by omega) (by omega)⟩
theorem told_eq (hsc : cSc C s 7 np gl) {a b : Nat → Nat} (h1 : ∀ c, cTd C.tp c → c < 256 → a c = b c) (ha : ∀ c, 256 ≤ c → c < 256 + C.tp → a c = nd (a (qaC C c)) (a (qbC C c))) (hb : ∀ c, 256 ≤ c → c < 256 + C.tp → b c = nd (b (qaC C c)) (b (qbC C c))) : ∀ (n c : Nat), C.p c < n → cTd C.tp c → a c = b c := by
  intro n
  induction n with
  | zero => intro c h; omega
  | succ n ih =>
    intro c hn hc
    by_cases q : c < 256
    · exact h1 c hc q
    · have g := toT_in hc q
      obtain ⟨⟨t1, t2⟩, lt, _⟩ := told_pr hsc g.1 g.2
      rw [ha c g.1 g.2, hb c g.1 g.2, ih _ (by omega) t1, ih _ (by omega) t2]
/-- one answer, with all that is kept of it -/
theorem oneA_of {V0 : Nat → TV} {D Hd Rt Ab : Nat → Prop} {th f : Nat → Nat} {X : Sx} (hsc : cSc C s 7 np gl) (a6 : cCo s 7 (k + 1) C.tp np C.p X.2.2.1 fs ms H X.2.2.2) (hl : ∃ L, HsO C.tb X.1 X.2.2.1 X.2.2.2 L ∧ hCt C X.1 L ∧ hLk C X.2.2.1 (cV s 7 (k + 1) 64) fs ms L) (t0 : X.1 = []) (x60 : X.2.2.1 ≤ 60) (em : emS V0 D Hd Rt (cV s 7 (k + 1) 64) (cDm X.2.2.1 C.tp fs ms) H (cRt C.tp C.p fs ms) th f) (ea : emA Ab (cAb (cV s 7 (k + 1) 64) fs) (cDm X.2.2.1 C.tp fs ms) f) (hs : vSol V0 D th) (hf0 : ∀ v, v < 64 → f v = f 0 + v) (heq : ∀ c, cTd C.tp c → th (f c) = th c) : ∃ L, oneA C V0 D Hd Rt Ab th (cV s 7 (k + 1) 64) np X.2.2.1 fs ms H L f := by
  obtain ⟨L, ho, hct, hlk⟩ := hl
  rw [t0] at ho hct
  have sl := emS_sol em hs
  have h6 := a6.2.1.1
  have tv : ∀ {c g}, cTd C.tp c → tdn s 7 C.tp c g → g (fun v => th (f v)) = th c := fun {c g} hc ht => by
    have := tdn_dnt (kb := k + 1) (nv := X.2.2.1) (fs := fs) (ms := ms) h6.1 ht _ sl (fun v => th (f v)) (fun _ _ => rfl)
    exact this.symm.trans (heq c hc)
  refine ⟨L, ⟨em, ea, hs⟩, ⟨a6.2.1, hlk, hct, x60⟩, ⟨X.2.2.2, ho, (a6.2.2.1 _).mpr ⟨_, sl, fun _ _ => rfl⟩⟩, ⟨fun c h1 h2 => (told_pr hsc h1 h2).2.2 _, fun c a b hv => ?_, hsc.1.1, hsc.1.2.1⟩, ⟨hf0, heq⟩, fun g hg => ?_⟩
  · refine Nat.le_of_not_lt (fun q => ?_)
    exact cV_nopair q hv
  · obtain ⟨kd, _, e2, h3⟩ := hsc.2.2.2.2 g hg
    rcases h3 with ⟨q, x, y, _, _, ⟨t1, t2⟩, d1, d2, _, _, p1, p2⟩ | ⟨q, x, y, z, _, _, _, ⟨t1, t2, t3⟩, d1, d2, d3, _, _, _, p1, p2, p3⟩ | ⟨q, _⟩ | q
    · have p1 : px C g = x := p1
      exact ⟨fun _ => by rw [p1]; exact tv t1 d1, fun z => by omega⟩
    · have p1 : px C g = x := p1
      have p2 : py C g = y := p2
      have p3 : pz C g = z := p3
      exact ⟨fun _ => by rw [p1]; exact tv t1 d1, fun _ => ⟨by rw [p2]; exact tv t2 d2, by rw [p3]; exact tv t3 d3⟩⟩
    · exact ⟨fun z => by omega, fun z => by omega⟩
    · exact ⟨fun z => by omega, fun z => by omega⟩
theorem tolA_of {th : Nat → Nat} (hsc : cSc C s 7 np gl) (hT : tSz C nT) (h40 : nT ≤ 40) (hp : ∀ c, 256 ≤ c → c < 256 + C.tp → th c = nd (th (qaC C c)) (th (qbC C c))) (ha : ∀ c, 128 ≤ c → c < 139 → th c = c - 128) : ∃ sz gs, tolA C th sz gs nT := by
  obtain ⟨hr, sz, gs, z1, z2, z3, z4⟩ := hT
  have low : ∀ c, cTd C.tp c → c < 256 → th c ≤ 11 ∨ nmO th (th c) = true := fun c hc q => by
    rcases hc with y | y | y
    · by_cases w : 11 < th c
      · exact Or.inr (nmO_iff.mpr ⟨w, c, y, rfl⟩)
      · exact Or.inl (by omega)
    · have := ha c y.1 y.2
      exact Or.inl (by omega)
    · omega
  refine ⟨sz, gs, ⟨fun c hc q => ⟨z1 c q, ?_⟩, fun c h1 h2 => ⟨(told_pr hsc h1 h2).1, z2 c h1 h2, hp c h1 h2⟩⟩, ⟨z3, h40⟩, hr, fun g hg => ?_, low⟩
  · rcases low c hc q with y | y
    · exact eL_low y
    · have := (nmO_iff.mp y).1
      obtain ⟨a, b, e⟩ := nd_ex this
      rw [e] at y ⊢
      exact eL_nm y
  · obtain ⟨kd, _, e2, h3⟩ := hsc.2.2.2.2 g hg
    obtain ⟨y1, y2⟩ := z4 g hg
    refine ⟨fun q => ⟨?_, y1 q⟩, fun q => ⟨?_, y2 q⟩⟩
    · rcases h3 with ⟨_, x, y, _, _, t, _, _, _, _, p1, p2⟩ | ⟨q2, _⟩ | ⟨q2, _⟩ | q2
      · have p1 : px C g = x := p1
        have p2 : py C g = y := p2
        rw [p1, p2]
        exact t
      · omega
      · omega
      · omega
    · rcases h3 with ⟨q2, _⟩ | ⟨_, x, y, z, _, _, _, t, _, _, _, _, _, _, p1, p2, p3⟩ | ⟨q2, _⟩ | q2
      · omega
      · have p1 : px C g = x := p1
        have p2 : py C g = y := p2
        have p3 : pz C g = z := p3
        rw [p1, p2, p3]
        exact t
      · omega
      · omega
end
theorem lvFew : LvFew := by
  intro C s k1 k2 np gl nT X Y fs1 ms1 fs2 ms2 H1 H2 hC hT h40 hsc a6 a7 a8 tX x60 d6 d7 d8 tY y60 V0 Wf th hag hf y hy
  have htn := hsc.1.1
  have hn9 := hsc.1.2.1
  have o1 := cCo_ans htn hn9 x60 a6
  have o2 := cCo_ans htn hn9 y60 d6
  obtain ⟨_, _, hs, _, _, hj, _⟩ := id hf
  have st := jn_st o1 o2 hag (cFr_stru a6.2.1 htn) (cFr_stru d6.2.1 htn)
  obtain ⟨em1, ea1⟩ := jn_1 o1 o2 hag hs
  obtain ⟨em2, ea2⟩ := jn_2 o1 o2 hag hs hj
  have s1 := emS_sol em1 hs
  have s2 := emS_sol em2 hs
  have n1 := a6.2.1.1
  have n2 := d6.2.1.1
  have hp1 : ∀ c, 256 ≤ c → c < 256 + C.tp → th c = nd (th (qaC C c)) (th (qbC C c)) := fun c h1 h2 => (s1 c (cTd_D n1.1 (Or.inr (Or.inr ⟨h1, h2⟩)))).2.2 _ _ ((told_pr hsc h1 h2).2.2 _)
  have hp2 : ∀ c, 256 ≤ c → c < 256 + C.tp → th (sec c) = nd (th (sec (qaC C c))) (th (sec (qbC C c))) := fun c h1 h2 => (s2 c (cTd_D n2.1 (Or.inr (Or.inr ⟨h1, h2⟩)))).2.2 _ _ ((told_pr hsc h1 h2).2.2 _)
  have ha : ∀ c, 128 ≤ c → c < 139 → th c = c - 128 := fun c h1 h2 => (s1 c (Or.inr (Or.inl ⟨h1, h2⟩))).2.1 _ (cV_atm1 _ _ _ 64 c h1 h2)
  have heq : ∀ c, cTd C.tp c → th (sec c) = th c := fun c hc => told_eq hsc (a := fun c => th (sec c)) (b := th) (fun c hc q => by
    rcases hc with y | y | y
    · show th (sec c) = th c
      rw [sec64 (by omega)]
      exact (hj c y).symm
    · show th (sec c) = th c
      rw [sec_atom y.1 (by omega)]
    · omega) hp2 hp1 _ c (Nat.lt_succ_self _) hc
  obtain ⟨sz, gs, hTA⟩ := tolA_of hsc hT h40 hp1 ha
  obtain ⟨L1, g1⟩ := oneA_of hsc a6 a8 tX x60 em1 ea1 hs (fun v _ => (Nat.zero_add v).symm) (fun _ _ => rfl)
  obtain ⟨L2, g2⟩ := oneA_of hsc d6 d8 tY y60 em2 ea2 hs (fun v hv => by rw [sec64 hv, sec64 (by omega)]; omega) heq
  have c1 := cDm_cod htn hn9 a6
  have c2 := cDm_cod htn hn9 d6
  refine twoA.few (C := C) (sz := sz) (gs := gs) (nT := nT) (Tp := jHd (cTp fs1 ms1) (cTp fs2 ms2)) ⟨⟨g1, g2⟩, hTA, ⟨fun x hx => ?_, fun x hx => ?_, fun v w hv hw => ?_, fun x hx => ?_⟩, st, hf, fun v hv => Or.inl (Or.inl (by omega))⟩ hy
  · rcases hx with q | ⟨d, e, q⟩
    · exact Or.inl ⟨x, q, rfl⟩
    · exact Or.inr ⟨d, q, e⟩
  · rcases hx with q | ⟨d, e, q⟩
    · exact Or.inl ⟨x, q, rfl⟩
    · exact Or.inr ⟨d, q, e⟩
  · rw [sec64 hw]
    show v ≠ w + 64
    omega
  · rcases hx with q | ⟨d, e, q⟩
    · have := c1 x q
      omega
    · have := c2 d q
      unfold sec at e
      split at e
      · omega
      · split at e <;> omega
theorem meetFew : MeetFew := meetFew_of lvFew
