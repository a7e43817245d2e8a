/-! LINKS AND TYPES, for every solution of a view -/
def isV (c : Nat) : Prop := c < 128
def isN (c : Nat) : Prop := c < 6 ∨ (64 ≤ c ∧ c < 70)
def tR0 (D Hd Rt : Nat → Prop) (th : Nat → Nat) (c : Nat) : Prop := D c ∧ (th c ≤ 11 ∨ (isV c ∧ ¬ Hd c) ∨ (Hd c ∧ nmO th (th c) = true) ∨ Rt c)
def tL0 (D Hd : Nat → Prop) (th : Nat → Nat) (c : Nat) : Prop := D c ∧ (th c ≤ 11 ∨ (Hd c ∧ nmO th (th c) = false))
def tLR (V : Nat → TV) (D Hd Rt : Nat → Prop) (th : Nat → Nat) : Nat → Prop := gLR V D (tR0 D Hd Rt th) (tL0 D Hd th) th (nmO th)
def tLt (V : Nat → TV) (D Hd Rt : Nat → Prop) (th : Nat → Nat) : Nat → Prop := gLt V D (tR0 D Hd Rt th) (tL0 D Hd th) th (nmO th)
theorem tLR_of {V : Nat → TV} {D Hd Rt : Nat → Prop} {th : Nat → Nat} {c : Nat} (h : tR0 D Hd Rt th c) : tLR V D Hd Rt th c := ⟨0, h⟩
theorem tLt_of {V : Nat → TV} {D Hd Rt : Nat → Prop} {th : Nat → Nat} {c : Nat} (h : tL0 D Hd th c) : tLt V D Hd Rt th c := ⟨0, h⟩
/-- how a view's pairs lie -/
def stru (V : Nat → TV) (D Hd Rt Tp : Nat → Prop) : Prop :=
  (∀ c a b, D c → V c = some (.inr (.inr (a, b))) → ¬ isV c ∧ (D a ∧ D b) ∧ ¬ Hd b ∧ (¬ Tp a ∧ ¬ Tp b) ∧ (Hd a → Tp c) ∧ (isV a → Hd a ∨ isN a) ∧ (isV b → isN b ∨ Tp c)) ∧
  (∀ c, Hd c → isV c ∧ ¬ isN c) ∧ (∀ c, Rt c → ¬ isV c) ∧ (∀ c n, D c → V c = some (.inr (.inl n)) → n ≤ 11) ∧ (∀ c, D c → ¬ isV c → V c ≠ none ∧ ∀ e, V c ≠ some (.inl e)) ∧ (∀ c, Tp c → Rt c)
/-- named variables have named values -/
def nOK (D : Nat → Prop) (th : Nat → Nat) : Prop := ∀ c, D c → isN c → 11 < th c → nmO th (th c) = true
section
variable {V : Nat → TV} {D Hd Rt Tp : Nat → Prop} {th : Nat → Nat}
theorem stru_hi (hs : vSol V D th) {c a b : Nat} (dc : D c) (hv : V c = some (.inr (.inr (a, b)))) : 11 < th c := by
  rw [(hs c dc).2.2 a b hv]
  exact nd_big _ _
/-- variables: lists, but for heads without a name; codes with heads are no letters -/
theorem tL_var (hst : stru V D Hd Rt Tp) (hs : vSol V D th) (hn : nOK D th) : (∀ c, tLR V D Hd Rt th c → D c ∧ (isV c → 11 < th c → ¬ Hd c ∨ nmO th (th c) = true)) ∧ ∀ c, tLt V D Hd Rt th c → D c ∧ (isV c → 11 < th c → Hd c ∧ nmO th (th c) = false) ∧ (∀ a b, V c = some (.inr (.inr (a, b))) → ¬ Tp c) := by
  obtain ⟨s1, s2, s3, s4, s5, s6⟩ := hst
  refine gL_ind (fun c h => ⟨h.1, fun hv h9 => ?_⟩) (fun c h => ⟨h.1, fun hv h9 => ?_, fun a b hp => ?_⟩) (fun d a b dd hp => ?_)
  · rcases h.2 with q | q | q | q
    · omega
    · exact Or.inl q.2
    · exact Or.inr q.2
    · exact absurd hv (s3 c q)
  · rcases h.2 with q | q
    · omega
    · exact q
  · intro htp
    rcases h.2 with q | q
    · have := stru_hi hs h.1 hp
      omega
    · exact (s1 c a b h.1 hp).1 (s2 c q.1).1
  · obtain ⟨p1, ⟨p2, p3⟩, p4, ⟨p5, p6⟩, p7, p8, p9⟩ := s1 d a b dd hp
    refine ⟨fun _ => ⟨p3, fun _ _ => Or.inl p4⟩, fun _ => ⟨fun q => ⟨p2, fun _ _ => Or.inr q⟩, fun q => ⟨p2, fun hv h9 => ?_, fun _ _ _ => p5⟩⟩, fun hd => ⟨fun q => ⟨p3, fun _ _ => Or.inl p4⟩, fun q => ⟨p3, fun hv h9 => ?_, fun _ _ _ => p6⟩⟩⟩
    · rcases p8 hv with z | z
      · exact ⟨z, q⟩
      · have := hn a p2 z h9
        rw [q] at this
        cases this
    · rcases p9 hv with z | z
      · have := hn b p3 z h9
        rw [q] at this
        cases this
      · exact absurd z (hd.2.2 a b hp)
theorem tL_nm (hs : vSol V D th) : ∀ c, tLt V D Hd Rt th c → nmO th (th c) = false := by
  have low : ∀ w, w ≤ 11 → nmO th w = false := fun w hw => by
    cases h : nmO th w with
    | false => rfl
    | true =>
      have := (nmO_iff.mp h).1
      omega
  refine (gL_ind (A := fun _ => True) (B := fun c => nmO th (th c) = false) (fun _ _ => trivial) (fun c h => ?_) (fun d a b _ _ => ⟨fun _ => trivial, fun _ => ⟨fun _ => trivial, fun q => q⟩, fun _ => ⟨fun _ => trivial, fun q => q⟩⟩)).2
  rcases h.2 with q | q
  · exact low _ q
  · exact q.2
theorem ty_ok (hst : stru V D Hd Rt Tp) (hs : vSol V D th) (hn : nOK D th) : tyOK V D th (nmO th) (tLR V D Hd Rt th) (tLt V D Hd Rt th) := by
  refine ⟨fun c a b dc hv h => ⟨gLR_right dc hv h, gL_left dc hv (Or.inl h)⟩, fun c a b dc hv h => ⟨gL_left dc hv (Or.inr h), gLt_right dc hv h⟩, fun c dc hp h9 h1 h2 => ?_, fun c dc h => tL_nm hs c h, fun c dc hl => ⟨tLR_of ⟨dc, Or.inl hl⟩, tLt_of ⟨dc, Or.inl hl⟩⟩, fun n hn => (nmO_iff.mp hn).1⟩
  by_cases hv : isV c
  · have q1 := ((tL_var hst hs hn).1 c h1).2 hv h9
    have q2 := ((tL_var hst hs hn).2 c h2).2.1 hv h9
    rcases q1 with q | q
    · exact q q2.1
    · rw [q2.2] at q
      cases q
  · obtain ⟨g1, g2⟩ := hst.2.2.2.2.1 c dc hv
    cases e : V c with
    | none => exact g1 e
    | some x =>
      rcases x with x | x | ⟨x, y⟩
      · exact g2 x e
      · have := (hs c dc).2.1 x e
        have := hst.2.2.2.1 c x dc e
        omega
      · exact hp x y e
theorem hd_ok (hst : stru V D Hd Rt Tp) (hs : vSol V D th) (hn : nOK D th) : ∀ c a b, D c → V c = some (.inr (.inr (a, b))) → (Hd a → ¬ tLt V D Hd Rt th c) ∧ ¬ Hd b := fun c a b dc hv => by
  obtain ⟨_, _, p4, _, p7, _⟩ := hst.1 c a b dc hv
  exact ⟨fun ha hl => ((tL_var hst hs hn).2 c hl).2.2 a b hv (p7 ha), p4⟩
end
def JSg (V : Nat → TV) (D Hd Rt Ab : Nat → Prop) : Prop := ∀ th, vSol V D th → nOK D th → vTy V D (tLR V D Hd Rt th) (tLt V D Hd Rt th) ∧ Jk V D (tLR V D Hd Rt th) Hd Ab th V
/-- with the same pairs the types are the same -/
theorem tL_same {V W : Nat → TV} {D Hd Rt : Nat → Prop} {th : Nat → Nat} (h : ∀ c a b, D c → (W c = some (.inr (.inr (a, b))) ↔ V c = some (.inr (.inr (a, b))))) : tLR W D Hd Rt th = tLR V D Hd Rt th ∧ tLt W D Hd Rt th = tLt V D Hd Rt th := by
  have g1 := gL_mono (V := V) (V2 := W) (D := D) (D2 := D) (R0 := tR0 D Hd Rt th) (L0 := tL0 D Hd th) (R2 := tR0 D Hd Rt th) (L2 := tL0 D Hd th) (th := th) (nm := nmO th) (fun c q => ⟨0, q⟩) (fun c q => ⟨0, q⟩) (fun d a b hd hv => ⟨hd, (h d a b hd).mpr hv⟩)
  have g2 := gL_mono (V := W) (V2 := V) (D := D) (D2 := D) (R0 := tR0 D Hd Rt th) (L0 := tL0 D Hd th) (R2 := tR0 D Hd Rt th) (L2 := tL0 D Hd th) (th := th) (nm := nmO th) (fun c q => ⟨0, q⟩) (fun c q => ⟨0, q⟩) (fun d a b hd hv => ⟨hd, (h d a b hd).mp hv⟩)
  exact ⟨funext fun c => propext ⟨g2.1 c, g1.1 c⟩, funext fun c => propext ⟨g2.2 c, g1.2 c⟩⟩
theorem Jk_same {V V2 : Nat → TV} {D LR Hd Ab : Nat → Prop} {th : Nat → Nat} {W : Nat → TV} (h : ∀ c a b, D c → (V2 c = some (.inr (.inr (a, b))) ↔ V c = some (.inr (.inr (a, b))))) (hj : Jk V D LR Hd Ab th W) : Jk V2 D LR Hd Ab th W := by
  have it : ∀ {c x}, itm V2 D LR W c x ↔ itm V D LR W c x := fun {c x} => ⟨fun ⟨d1, d2, a, b, e, t⟩ => ⟨d1, d2, a, b, (h c a b d1).mp e, t⟩, fun ⟨d1, d2, a, b, e, t⟩ => ⟨d1, d2, a, b, (h c a b d1).mpr e, t⟩⟩
  have xe : ∀ {x w}, xv V2 D LR Ab th W x w ↔ xv V D LR Ab th W x w := fun {x w} => or_congr ⟨fun ⟨c, q, e⟩ => ⟨c, it.mp q, e⟩, fun ⟨c, q, e⟩ => ⟨c, it.mpr q, e⟩⟩ Iff.rfl
  intro x w hw
  rcases hj x w (xe.mp hw) with ⟨u, ⟨c, q1, q2, a, b, q3, q4⟩, q5⟩ | ⟨q1, q2⟩
  · exact Or.inl ⟨u, ⟨c, it.mpr q1, q2, a, b, (h c a b q1.1).mpr q3, q4⟩, q5⟩
  · exact Or.inr ⟨q1, fun u hu => q2 u (xe.mp hu)⟩
/-- through a run of unify -/
theorem JSg_run {V W : Nat → TV} {D Hd Rt Tp Ab : Nat → Prop} (hst : stru V D Hd Rt Tp) (hok : ∃ rk, vOK V D rk) (hj : JSg V D Hd Rt Ab) {qs rs : List (Nat × Nat)} {n : Nat} (hr : uRun D V qs n W rs) (hq : ∀ th, vSol W D th → nOK D th → ∀ q ∈ qs, th q.1 = th q.2 ∧ pIn V D (tLR V D Hd Rt th) (tLt V D Hd Rt th) Hd th q) (hsub : ∀ th, vSol W D th → vSol V D th) : JSg W D Hd Rt Ab := by
  intro th hs hn
  have hv := hsub th hs
  obtain ⟨g1, g2⟩ := hj th hv hn
  obtain ⟨r1, r2, r3, r4, r5, r6⟩ := uRun_J (nm := nmO th) (ty_ok hst hv hn) (fun c a b dc e => (hst.1 c a b dc e).2.1.1) (hd_ok hst hv hn) (fun c a b => Iff.rfl) hok hv g1 g2 (hq th hs hn) hr
  obtain ⟨e1, e2⟩ := tL_same (V := V) (W := W) (D := D) (Hd := Hd) (Rt := Rt) (th := th) (fun c a b _ => r4 c a b)
  rw [e1, e2]
  exact ⟨r3, Jk_same (fun c a b _ => r4 c a b) r5⟩
