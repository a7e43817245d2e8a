/-! the turns of a run that can succeed -/
def lfV (V : Nat → TV) (c : Nat) : Nat := match V c with
  | some (.inr (.inr (a, _))) => a
  | _ => 0
theorem lfV_pair {V : Nat → TV} {c a b : Nat} (h : V c = some (.inr (.inr (a, b)))) : lfV V c = a := by
  unfold lfV
  rw [h]
def rch (V : Nat → TV) (th : Nat → Nat) (as : List Nat) (P : Nat) : Bool := decide (2 ≤ as.countP (fun c => decide (th (lfV V c) = P)))
def kfV (V : Nat → TV) (th : Nat → Nat) (as : List Nat) (c : Nat) : Nat := if rch V th as (th (lfV V c)) = true then th (lfV V c) + 1 else 0
def gKc (V : Nat → TV) (th : Nat → Nat) (as cs : List Nat) (K w : Nat) : Nat := cs.countP (fun c => decide (kfV V th as c = K ∧ th c ≤ w))
def PIv (V : Nat → TV) (th : Nat → Nat) (as cs Ks : List Nat) (w : Nat) : Nat := prodL (fun K => 1 + gKc V th as cs K w / 2) Ks
theorem gKc_mono {V : Nat → TV} {th : Nat → Nat} {as cs : List Nat} {K w u : Nat} (h : w ≤ u) : gKc V th as cs K w ≤ gKc V th as cs K u := List.countP_mono_left (fun c _ hc => by simp at hc ⊢; exact ⟨hc.1, by omega⟩)
theorem PIv_pos {V : Nat → TV} {th : Nat → Nat} {as cs Ks : List Nat} {w : Nat} : 0 < PIv V th as cs Ks w := prodL_pos (fun k _ => by omega)
/-- the pair codes of a state: told ones (and such as are told at their left half) as, all cs -/
def cOK (V : Nat → TV) (D : Nat → Prop) (cs : List Nat) : Prop := (∀ c a b, D c → V c = some (.inr (.inr (a, b))) → c ∈ cs) ∧ ∀ c ∈ cs, D c ∧ ∃ a b, V c = some (.inr (.inr (a, b)))
theorem PIv_rich {V : Nat → TV} {D : Nat → Prop} {th : Nat → Nat} {as cs Ks : List Nat} (hcs : cOK V D cs) (hs : vSol V D th) (hK : ∀ c ∈ cs, kfV V th as c ∈ Ks) {c d a b e f : Nat} (hcd : c ≠ d) (dc : D c) (dd : D d) (hc : V c = some (.inr (.inr (a, b)))) (hd : V d = some (.inr (.inr (e, f)))) (hv : th c = th d) (hr : rch V th as (th a) = true) : PIv V th as cs Ks (th a) + PIv V th as cs Ks (th b) ≤ PIv V th as cs Ks (th c) := by
  have e1 := (hs c dc).2.2 a b hc
  have e2 := (hs d dd).2.2 e f hd
  have hi := nd_inj (a := th a) (b := th b) (a2 := th e) (b2 := th f) (by rw [← e1, ← e2]; exact hv)
  have g1 := nd_gt1 (th a) (th b)
  have g2 := nd_gt2 (th a) (th b)
  rw [← e1] at g1 g2
  have kc : kfV V th as c = th a + 1 := by unfold kfV; rw [lfV_pair hc, if_pos hr]
  have kd : kfV V th as d = th a + 1 := by unfold kfV; rw [lfV_pair hd, ← hi.1, if_pos hr]
  have mc := hcs.1 c a b dc hc
  have md := hcs.1 d e f dd hd
  have z0 : gKc V th as cs (th a + 1) (th a) = 0 := by
    refine List.countP_eq_zero.mpr (fun x hx hp => ?_)
    obtain ⟨dx, a2, b2, hx2⟩ := hcs.2 x hx
    simp at hp
    have e3 := (hs x dx).2.2 a2 b2 hx2
    have g3 := nd_gt1 (th a2) (th b2)
    have h1 := hp.1
    unfold kfV at h1
    rw [lfV_pair hx2] at h1
    split at h1
    · omega
    · omega
  have z2 : gKc V th as cs (th a + 1) (th b) + 2 ≤ gKc V th as cs (th a + 1) (th c) := by
    refine countP_lt2 hcd (fun x _ hx => by simp at hx ⊢; exact ⟨hx.1, by omega⟩) mc md ?_ ?_ ?_ ?_
    · simp [kc]
    · simp [kd, hv]
    · simp [kc]; omega
    · simp [kd]; omega
  refine prodL_two (p := th a + 1) (by rw [← kc]; exact hK c mc) (fun K _ => ⟨?_, ?_⟩) ?_
  · have := gKc_mono (V := V) (th := th) (as := as) (cs := cs) (K := K) (show th a ≤ th c by omega)
    omega
  · have := gKc_mono (V := V) (th := th) (as := as) (cs := cs) (K := K) (show th b ≤ th c by omega)
    omega
  · rw [z0]
    omega
theorem PIv_poor {V : Nat → TV} {D : Nat → Prop} {th : Nat → Nat} {as cs Ks : List Nat} (hcs : cOK V D cs) (hs : vSol V D th) (h0 : 0 ∈ Ks) {c d a b e f : Nat} (hcd : c ≠ d) (dc : D c) (dd : D d) (hc : V c = some (.inr (.inr (a, b)))) (hd : V d = some (.inr (.inr (e, f)))) (hv : th c = th d) (hr : rch V th as (th a) = false) : 1 + PIv V th as cs Ks (th b) ≤ PIv V th as cs Ks (th c) := by
  have e1 := (hs c dc).2.2 a b hc
  have e2 := (hs d dd).2.2 e f hd
  have hi := nd_inj (a := th a) (b := th b) (a2 := th e) (b2 := th f) (by rw [← e1, ← e2]; exact hv)
  have g2 := nd_gt2 (th a) (th b)
  rw [← e1] at g2
  have kc : kfV V th as c = 0 := by unfold kfV; rw [lfV_pair hc, if_neg (by rw [hr]; decide)]
  have kd : kfV V th as d = 0 := by unfold kfV; rw [lfV_pair hd, ← hi.1, if_neg (by rw [hr]; decide)]
  have mc := hcs.1 c a b dc hc
  have md := hcs.1 d e f dd hd
  have z2 : gKc V th as cs 0 (th b) + 2 ≤ gKc V th as cs 0 (th c) := by
    refine countP_lt2 hcd (fun x _ hx => by simp at hx ⊢; exact ⟨hx.1, by omega⟩) mc md ?_ ?_ ?_ ?_
    · simp [kc]
    · simp [kd, hv]
    · simp [kc]; omega
    · simp [kd]; omega
  have := prodL_two (f := fun _ => 1) (g := fun K => 1 + gKc V th as cs K (th b) / 2) (r := fun K => 1 + gKc V th as cs K (th c) / 2) (p := 0) h0 (fun K _ => ⟨by omega, by
    have := gKc_mono (V := V) (th := th) (as := as) (cs := cs) (K := K) (show th b ≤ th c by omega)
    omega⟩) (by omega)
  rw [prodL_one] at this
  exact this
/-- what a pile of pairs of codes may cost -/
def cstL (V : Nat → TV) (th : Nat → Nat) (as cs Ks : List Nat) (H LT : Nat → Prop) : List (Nat × Nat) → Nat → Prop
  | [], n => n = 0
  | q :: qs, n => ∃ k m, n = k + m ∧ cstL V th as cs Ks H LT qs m ∧ (k + 1 = 2 * PIv V th as cs Ks (th q.1) ∨ (k = 1 ∧ iLL H LT q ∧ rch V th as (th q.1) = false))
/-- all that holds at a turn -/
def uInv (V : Nat → TV) (D : Nat → Prop) (th : Nat → Nat) (as cs Ks : List Nat) (H LT : Nat → Prop) (W : Nat → TV) (qs : List (Nat × Nat)) : Prop :=
  (∃ rk, vOK W D rk) ∧ hInv W D H LT ∧ (∀ c a b, W c = some (.inr (.inr (a, b))) ↔ V c = some (.inr (.inr (a, b)))) ∧ vSol W D th ∧ (∀ q ∈ qs, th q.1 = th q.2) ∧ (∀ q ∈ qs, iLL H LT q ∨ iNN H q)
theorem uSt_cst {V : Nat → TV} {D : Nat → Prop} {th : Nat → Nat} {as cs Ks : List Nat} {H LT : Nat → Prop} (hcs : cOK V D cs) (hs0 : vSol V D th) (hsp : sPr V D H LT) (hLT : ∀ e, LT e → ∃ c b, c ∈ as ∧ D c ∧ V c = some (.inr (.inr (e, b)))) (hK : ∀ c ∈ cs, kfV V th as c ∈ Ks) (h0 : 0 ∈ Ks) {W U : Nat → TV} {ps rs : List (Nat × Nat)} (hst : uSt D W ps U rs) (hi : uInv V D th as cs Ks H LT W ps) {n : Nat} (hn : cstL V th as cs Ks H LT ps n) : uInv V D th as cs Ks H LT U rs ∧ ∃ m, m < n ∧ cstL V th as cs Ks H LT rs m := by
  obtain ⟨⟨rk, hok⟩, hhi, hpr, hs, hq, hty⟩ := hi
  obtain ⟨x0, y0, x, y, qs, rfl, ⟨d1, d2, d3, d4⟩, ⟨w1, w2, r1, r2⟩, h⟩ := hst
  obtain ⟨k, m, rfl, hm, hk⟩ := hn
  have hqs : ∀ q ∈ qs, th q.1 = th q.2 := fun q h => hq q (List.mem_cons_of_mem _ h)
  have htys : ∀ q ∈ qs, iLL H LT q ∨ iNN H q := fun q h => hty q (List.mem_cons_of_mem _ h)
  have hxy : th x0 = th y0 := hq (x0, y0) List.mem_cons_self
  have hx : th x0 = th x := w1.1 th hs
  have hy : th y0 = th y := w2.1 th hs
  have t1 := tg_wlk hok d1 w1 r1
  have t2 := tg_wlk hok d2 w2 r2
  have hkp : 0 < k := by
    have := PIv_pos (V := V) (th := th) (as := as) (cs := cs) (Ks := Ks) (w := th x0)
    rcases hk with q | q
    · simp only at q; omega
    · omega
  rcases h with ⟨_, rfl, rfl⟩ | ⟨i, c, hic, hne, ho, hr, rfl, rfl⟩ | ⟨a, b, c, d, hne, e1, e2, rfl, rfl⟩
  · exact ⟨⟨⟨rk, hok⟩, hhi, hpr, hs, hqs, htys⟩, m, by omega, hm⟩
  · refine ⟨⟨?_, ?_, fun z a b => ?_, ?_, hqs, htys⟩, m, by omega, hm⟩
    · rcases hic with ⟨rfl, rfl⟩ | ⟨rfl, rfl⟩
      · exact vOK_bind ho hok d4 hr
      · exact vOK_bind ho hok d3 hr
    · have hit := hty (x0, y0) List.mem_cons_self
      rcases hic with ⟨rfl, rfl⟩ | ⟨rfl, rfl⟩
      · exact hInv_bind hhi ho r2 (Ne.symm hne) d1 d2 t1 t2 hit
      · refine hInv_bind hhi ho r1 (Ne.symm hne) d2 d1 t2 t1 ?_
        rcases hit with g | g
        · exact Or.inl ⟨g.2, g.1⟩
        · exact Or.inr ⟨g.2, g.1⟩
    · by_cases hz : z = i
      · subst hz
        rw [vB_same]
        constructor
        · intro q; cases q
        · intro q
          rw [← hpr, ho] at q
          cases q
      · rw [vB_ne W i c hz]
        exact hpr z a b
    · rcases hic with ⟨rfl, rfl⟩ | ⟨rfl, rfl⟩
      · exact (vSol_bind ho d3).mpr ⟨hs, by omega⟩
      · exact (vSol_bind ho d4).mpr ⟨hs, by omega⟩
  · have f1 := (hpr x a b).mp e1
    have f2 := (hpr y c d).mp e2
    have ea := (hs x d3).2.2 a b e1
    have ec := (hs y d4).2.2 c d e2
    have hxe : th x = th y := by omega
    have hi := nd_inj (a := th a) (b := th b) (a2 := th c) (b2 := th d) (by rw [← ea, ← ec]; exact hxe)
    have s1 := hsp x a b d3 f1
    have s2 := hsp y c d d4 f2
    have hll : iLL H LT (a, c) := ⟨s1.1, s2.1⟩
    have hnn : iNN H (b, d) := ⟨s1.2, s2.2⟩
    have hk2 : k + 1 = 2 * PIv V th as cs Ks (th x) := by
      rcases hk with q | ⟨_, hll0, hpo⟩
      · rw [← hx]; exact q
      · exfalso
        have find : ∀ {z w : Nat}, (LT z ∨ H z) → D z → tg U z w → (∃ a b, U w = some (.inr (.inr (a, b)))) → ∃ e, LT e ∧ tg U e w := by
          rintro z w (hz | hz) dz tz ⟨a2, b2, hw⟩
          · exact ⟨z, hz, tz⟩
          · rcases hhi z dz hz with ⟨e, x2, he, g1, g2⟩ | ⟨o, g1, g2, _⟩
            · have := tg_uniq tz g1
              subst this
              exact ⟨e, he, g2⟩
            · have := tg_uniq tz g1
              subst this
              rw [hw] at g2
              cases g2
        obtain ⟨p, lp, tp⟩ := find hll0.1 d1 t1 ⟨a, b, e1⟩
        obtain ⟨r, lr, tr⟩ := find hll0.2 d2 t2 ⟨c, d, e2⟩
        have hpr2 : p ≠ r := fun q => hne (tg_uniq tp (q ▸ tr))
        obtain ⟨c1, b1, m1, dc1, v1⟩ := hLT p lp
        obtain ⟨c2, b2, m2, dc2, v2⟩ := hLT r lr
        have hc12 : c1 ≠ c2 := fun q => by
          rw [q, v2] at v1
          cases v1
          exact hpr2 rfl
        have tgth : ∀ {z w : Nat}, D z → tg U z w → th z = th w := by
          rintro z w dz ⟨n, h⟩
          induction n generalizing z with
          | zero => obtain ⟨rfl, _⟩ := h; rfl
          | succ n ih =>
            obtain ⟨e, he, h⟩ := h
            rw [(hs z dz).1 e he]
            exact ih ((hok z dz).1 e he).1 h
        have dp : D p := ((hok c1 dc1).2.2 p b1 ((hpr _ _ _).mpr v1)).1.1
        have dr : D r := ((hok c2 dc2).2.2 r b2 ((hpr _ _ _).mpr v2)).1.1
        have hp1 : th p = th x0 := by rw [tgth dp tp]; exact hx.symm
        have hr1 : th r = th x0 := by rw [tgth dr tr]; omega
        have := countP_lt2 (p := fun _ => false) (q := fun c => decide (th (lfV V c) = th x0)) hc12 (l := as) (fun _ _ h => by cases h) m1 m2 (by simp [lfV_pair v1, hp1]) (by simp [lfV_pair v2, hr1]) rfl rfl
        unfold rch at hpo
        simp only [decide_eq_false_iff_not] at hpo
        exact hpo (by omega)
    refine ⟨⟨⟨rk, hok⟩, hhi, hpr, hs, fun q hq2 => ?_, fun q hq2 => ?_⟩, ?_⟩
    · rcases List.mem_cons.mp hq2 with rfl | hq2
      · exact hi.1
      · rcases List.mem_cons.mp hq2 with rfl | hq2
        · exact hi.2
        · exact hqs q hq2
    · rcases List.mem_cons.mp hq2 with rfl | hq2
      · exact Or.inl hll
      · rcases List.mem_cons.mp hq2 with rfl | hq2
        · exact Or.inr hnn
        · exact htys q hq2
    · have pb := PIv_pos (V := V) (th := th) (as := as) (cs := cs) (Ks := Ks) (w := th b)
      have pa := PIv_pos (V := V) (th := th) (as := as) (cs := cs) (Ks := Ks) (w := th a)
      cases hrc : rch V th as (th a) with
      | true =>
        have hP := PIv_rich hcs hs0 hK hne d3 d4 f1 f2 hxe hrc
        refine ⟨(2 * PIv V th as cs Ks (th a) - 1) + ((2 * PIv V th as cs Ks (th b) - 1) + m), by omega, _, _, rfl, ⟨_, m, rfl, hm, Or.inl ?_⟩, Or.inl ?_⟩
        · simp only; omega
        · simp only; omega
      | false =>
        have hP := PIv_poor hcs hs0 h0 hne d3 d4 f1 f2 hxe hrc
        refine ⟨1 + ((2 * PIv V th as cs Ks (th b) - 1) + m), by omega, _, _, rfl, ⟨_, m, rfl, hm, Or.inl ?_⟩, Or.inr ⟨rfl, hll, hrc⟩⟩
        simp only; omega
theorem uRun_cst {V : Nat → TV} {D : Nat → Prop} {th : Nat → Nat} {as cs Ks : List Nat} {H LT : Nat → Prop} (hcs : cOK V D cs) (hs0 : vSol V D th) (hsp : sPr V D H LT) (hLT : ∀ e, LT e → ∃ c b, c ∈ as ∧ D c ∧ V c = some (.inr (.inr (e, b)))) (hK : ∀ c ∈ cs, kfV V th as c ∈ Ks) (h0 : 0 ∈ Ks) {U : Nat → TV} {qs : List (Nat × Nat)} (hi : uInv V D th as cs Ks H LT U qs) {N : Nat} (hN : cstL V th as cs Ks H LT qs N) : ∀ {n : Nat} {W : Nat → TV} {rs : List (Nat × Nat)}, uRun D U qs n W rs → uInv V D th as cs Ks H LT W rs ∧ ∃ m, n + m ≤ N ∧ cstL V th as cs Ks H LT rs m
  | 0, W, rs, h => by
    obtain ⟨rfl, rfl⟩ := h
    exact ⟨hi, N, by omega, hN⟩
  | n + 1, W, rs, h => by
    obtain ⟨W1, rs1, h1, h2⟩ := h
    obtain ⟨g1, m, g2, g3⟩ := uRun_cst hcs hs0 hsp hLT hK h0 hi hN h1
    obtain ⟨k1, m2, k2, k3⟩ := uSt_cst hcs hs0 hsp hLT hK h0 h2 g1 g3
    exact ⟨k1, m2, by omega, k3⟩
/-- the values that two of a list have -/
theorem two_ex (f : Nat → Nat) : ∀ (n : Nat) (as : List Nat), as.length ≤ n → ∃ Rs : List Nat, Rs.Nodup ∧ (∀ P, P ∈ Rs ↔ 2 ≤ as.countP (fun c => decide (f c = P))) ∧ 2 * Rs.length ≤ as.length
  | 0, as, h => by
    have : as = [] := List.eq_nil_of_length_eq_zero (by omega)
    subst this
    exact ⟨[], List.nodup_nil, fun P => by simp, by simp⟩
  | n + 1, [], _ => ⟨[], List.nodup_nil, fun P => by simp, by simp⟩
  | n + 1, a :: t, h => by
    have hl : (t.filter (fun c => decide (f c ≠ f a))).length ≤ t.length := List.length_filter_le _ _
    obtain ⟨Rs, h1, h2, h3⟩ := two_ex f n (t.filter (fun c => decide (f c ≠ f a))) (by simp at h; omega)
    have hcnt : ∀ P, P ≠ f a → (t.filter (fun c => decide (f c ≠ f a))).countP (fun c => decide (f c = P)) = t.countP (fun c => decide (f c = P)) := by
      intro P hP
      rw [List.countP_filter]
      refine List.countP_congr (fun x _ => ?_)
      simp
      intro e
      rw [e]
      exact hP
    have h0 : (t.filter (fun c => decide (f c ≠ f a))).countP (fun c => decide (f c = f a)) = 0 := by
      refine List.countP_eq_zero.mpr (fun x hx => ?_)
      simp at hx ⊢
      exact hx.2
    have hnot : f a ∉ Rs := fun q => by
      have := (h2 (f a)).mp q
      omega
    have hsplit : (t.filter (fun c => decide (f c ≠ f a))).length + t.countP (fun c => decide (f c = f a)) = t.length := by
      have := List.length_eq_countP_add_countP (fun c => decide (f c = f a)) (l := t)
      rw [List.countP_eq_length_filter (p := fun a_1 => decide ¬decide (f a_1 = f a) = true)] at this
      have e : t.filter (fun c => decide (f c ≠ f a)) = t.filter (fun a_1 => decide ¬decide (f a_1 = f a) = true) := by
        congr 1
        funext x
        simp
      rw [e]
      omega
    by_cases hk : 1 ≤ t.countP (fun c => decide (f c = f a))
    · refine ⟨f a :: Rs, List.nodup_cons.mpr ⟨hnot, h1⟩, fun P => ?_, by simp; omega⟩
      by_cases hP : P = f a
      · subst hP
        rw [List.countP_cons, if_pos (by simp)]
        exact ⟨fun _ => by omega, fun _ => List.mem_cons_self⟩
      · rw [List.mem_cons, h2 P, hcnt P hP, List.countP_cons, if_neg (by simp; exact fun e => hP e.symm)]
        constructor
        · rintro (q | q)
          · exact absurd q hP
          · exact q
        · exact fun q => Or.inr q
    · refine ⟨Rs, h1, fun P => ?_, by simp; omega⟩
      by_cases hP : P = f a
      · subst hP
        rw [h2 (f a), h0, List.countP_cons, if_pos (by simp)]
        omega
      · rw [h2 P, hcnt P hP, List.countP_cons, if_neg (by simp; exact fun e => hP e.symm)]
        simp
theorem sumL_add {f g : Nat → Nat} : ∀ (ks : List Nat), sumL (fun k => f k + g k) ks = sumL f ks + sumL g ks
  | [] => rfl
  | k :: ks => by simp only [sumL, sumL_add ks]; omega
theorem sumL_zero : ∀ (ks : List Nat), sumL (fun _ => 0) ks = 0
  | [] => rfl
  | k :: ks => by simp only [sumL, sumL_zero ks]
theorem sumL_half {f : Nat → Nat} : ∀ (ks : List Nat), sumL (fun k => f k / 2) ks ≤ sumL f ks / 2
  | [] => by simp [sumL]
  | k :: ks => by have := sumL_half (f := f) ks; simp only [sumL]; omega
theorem sumL_ind {x : Nat} {p : Bool} : ∀ {ks : List Nat}, ks.Nodup → sumL (fun K => if (decide (x = K) && p) = true then 1 else 0) ks ≤ 1
  | [], _ => by simp [sumL]
  | k :: ks, h => by
    have h1 := List.nodup_cons.mp h
    simp only [sumL]
    by_cases hx : x = k
    · have hz : ∀ (l : List Nat), x ∉ l → sumL (fun K => if (decide (x = K) && p) = true then 1 else 0) l = 0 := by
        intro l
        induction l with
        | nil => intro _; rfl
        | cons y l ih =>
          intro hn
          simp only [sumL]
          rw [ih (fun q => hn (List.mem_cons_of_mem _ q)), if_neg]
          simp
          intro e
          exact absurd (e ▸ List.mem_cons_self) hn
      rw [hz ks (hx ▸ h1.1)]
      split <;> omega
    · rw [if_neg (by simp [hx])]
      have := sumL_ind (x := x) (p := p) h1.2
      omega
theorem sumL_cnt {k : Nat → Nat} {p : Nat → Bool} {Ks : List Nat} (hn : Ks.Nodup) : ∀ (cs : List Nat), sumL (fun K => cs.countP (fun c => decide (k c = K) && p c)) Ks ≤ cs.length
  | [] => by simp [sumL_zero]
  | c :: cs => by
    have ih := sumL_cnt (k := k) (p := p) hn cs
    have e : sumL (fun K => (c :: cs).countP (fun c => decide (k c = K) && p c)) Ks = sumL (fun K => cs.countP (fun c => decide (k c = K) && p c)) Ks + sumL (fun K => if (decide (k c = K) && p c) = true then 1 else 0) Ks := by
      rw [← sumL_add]
      congr 1
      funext K
      rw [List.countP_cons]
    rw [e]
    have := sumL_ind (x := k c) (p := p c) hn
    rw [List.length_cons]
    omega
/-- few turns: in one state unify never gives up where it can succeed -/
theorem uRun_few {V : Nat → TV} {D : Nat → Prop} {th : Nat → Nat} {as cs : List Nat} {H LT : Nat → Prop} (hok : ∃ rk, vOK V D rk) (hcs : cOK V D cs) (hs0 : vSol V D th) (hsp : sPr V D H LT) (hLT : ∀ e, LT e → ∃ c b, c ∈ as ∧ D c ∧ V c = some (.inr (.inr (e, b)))) (hhi : hInv V D H LT) (hcnt : (as.length ≤ 19 ∧ cs.length ≤ 55) ∨ (as.length ≤ 21 ∧ cs.length ≤ 49)) {a b : Nat} (hab : th a = th b) (hty : iLL H LT (a, b) ∨ iNN H (a, b)) {n : Nat} {W : Nat → TV} {rs : List (Nat × Nat)} (hr : uRun D V [(a, b)] n W rs) : n < 900000 := by
  obtain ⟨Rs, h1, h2, h3⟩ := two_ex (fun c => th (lfV V c)) as.length as (Nat.le_refl _)
  have hnd : (0 :: Rs.map (· + 1)).Nodup := by
    refine List.nodup_cons.mpr ⟨fun q => ?_, ?_⟩
    · obtain ⟨x, _, hx⟩ := List.mem_map.mp q
      omega
    · exact List.Pairwise.map (· + 1) (fun a b h => by simp only [ne_eq] at h ⊢; omega) h1
  have hK : ∀ c ∈ cs, kfV V th as c ∈ (0 :: Rs.map (· + 1)) := by
    intro c _
    unfold kfV
    split
    · next h =>
      refine List.mem_cons_of_mem _ (List.mem_map.mpr ⟨th (lfV V c), (h2 _).mpr ?_, rfl⟩)
      unfold rch at h
      exact of_decide_eq_true h
    · exact List.mem_cons_self
  have hlen : (0 :: Rs.map (· + 1)).length = Rs.length + 1 := by simp
  have hsum : sumL (fun K => gKc V th as cs K (th a) / 2) (0 :: Rs.map (· + 1)) ≤ cs.length / 2 := by
    have q1 := sumL_half (f := fun K => gKc V th as cs K (th a)) (0 :: Rs.map (· + 1))
    have q2 := sumL_cnt (k := kfV V th as) (p := fun c => decide (th c ≤ th a)) hnd cs
    have q3 : (fun K => cs.countP (fun c => decide (kfV V th as c = K) && decide (th c ≤ th a))) = fun K => gKc V th as cs K (th a) := by
      funext K
      unfold gKc
      congr 1
      funext c
      simp
    rw [q3] at q2
    omega
  have hP : PIv V th as cs (0 :: Rs.map (· + 1)) (th a) ≤ 442368 := by
    rcases hcnt with ⟨c1, c2⟩ | ⟨c1, c2⟩
    · exact prodL_A (by omega) (by omega)
    · exact prodL_B (by omega) (by omega)
  have hp0 := PIv_pos (V := V) (th := th) (as := as) (cs := cs) (Ks := 0 :: Rs.map (· + 1)) (w := th a)
  have hone : ∀ {p : Nat × Nat → Prop}, p (a, b) → ∀ q ∈ [(a, b)], p q := by
    intro p h q hq
    rcases List.mem_cons.mp hq with rfl | hq
    · exact h
    · cases hq
  have hi : uInv V D th as cs (0 :: Rs.map (· + 1)) H LT V [(a, b)] := ⟨hok, hhi, fun c a b => Iff.rfl, hs0, hone (p := fun q => th q.1 = th q.2) hab, hone (p := fun q => iLL H LT q ∨ iNN H q) hty⟩
  obtain ⟨k, hk⟩ : ∃ k, k + 1 = 2 * PIv V th as cs (0 :: Rs.map (· + 1)) (th a) := ⟨2 * PIv V th as cs (0 :: Rs.map (· + 1)) (th a) - 1, by omega⟩
  obtain ⟨_, m, g1, _⟩ := uRun_cst hcs hs0 hsp hLT hK List.mem_cons_self hi (N := k + 0) ⟨k, 0, rfl, rfl, Or.inl hk⟩ hr
  omega
