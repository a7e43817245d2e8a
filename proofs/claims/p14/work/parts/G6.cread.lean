/-! THE CLASS's READER, with what it writes: the codes of a text, and where they lie in the end -/
def cEn (t : rSg) (c w : Int32) (ng np np2 : Nat) (Cd Cd2 : List Nat) : Prop := (w = 41 ∧ np2 = np ∧ Cd = Cd2) ∨
  (w = 116 ∧ ((∃ e, lfC c e ∧ np2 = np ∧ Cd = e :: Cd2) ∨ (c = 40 ∧ np2 = np + 1 ∧ ∃ a b r, Cd2 = a :: b :: r ∧ t 234 (2 * np) = nI a ∧ t 234 (2 * np + 1) = nI b ∧ Cd = (256 + np) :: r))) ∨
  (w = 103 ∧ gSg c ∧ np2 = np ∧ t 232 ng = c ∧ ∃ es r, Cd = ng :: r ∧ Cd2 = es ++ r ∧ es.length = (gAw c).length ∧ ∀ (k e : Nat), es[k]? = some e → t 233 (3 * ng + k) = nI e)
def CD (t : rSg) (tx : Nat → Int32) (nG tp : Nat) : Nat → Nat → rdS → Nat → List Nat → Prop
  | _, _, ([], ng, _, _), np, Cd => Cd = [] ∧ np = tp ∧ ng = nG
  | 0, _, (_ :: _, _, _, _), _, _ => False
  | f + 1, i, (w :: l, ng, nt, bad), np, Cd => ∃ S2 np2 Cd2, RStep i (tx i) w (l, ng, nt, bad) S2 ∧ CD t tx nG tp f (i + 1) S2 np2 Cd2 ∧ cEn t (tx i) w ng np np2 Cd Cd2
/-- what is due holds these codes -/
def hol (t : rSg) : List Slt → List Nat → Prop
  | [], Cd => Cd = []
  | x :: r, Cd => (x.1 = 41 ∧ hol t r Cd) ∨ (x.1 ≠ 41 ∧ ∃ e C2, Cd = e :: C2 ∧ (∀ k j, x.2.2.2 = some (k, j) → t k j = nI e) ∧ hol t r C2)
def ads (sl : List Slt) : List (Nat × Nat) := sl.filterMap (fun x => x.2.2.2)
def frm (s t : rSg) (sl : List Slt) (ng np : Nat) : Prop := (∀ g, g < ng → t 232 g = s 232 g) ∧ (∀ j, j < 3 * ng → (233, j) ∉ ads sl → t 233 j = s 233 j) ∧ (∀ j, j < 2 * np → (234, j) ∉ ads sl → t 234 j = s 234 j)
def sOK (sl : List Slt) (ng np : Nat) : Prop := (∀ x, x ∈ sl → slA ng np x ∧ (x.1 = 103 ∨ x.1 = 116 ∨ x.1 = 41)) ∧ (ads sl).Nodup
theorem ads_app (a b : List Slt) : ads (a ++ b) = ads a ++ ads b := List.filterMap_append ..
theorem ads_mem {sl : List Slt} {a : Nat × Nat} (h : a ∈ ads sl) : ∃ x, x ∈ sl ∧ x.2.2.2 = some a := by
  simpa [ads, List.mem_filterMap] using h
theorem ads_gsl (w : Int32) (g : Nat) : ∀ (n m : Nat) {k j : Nat}, (k, j) ∈ ads (gsl w g n m) → k = 233 ∧ 3 * g + m ≤ j ∧ j < 3 * g + m + n
  | 0, m, k, j, h => by cases h
  | n + 1, m, k, j, h => by
    simp only [gsl, ads, List.filterMap_cons] at h
    rcases List.mem_cons.mp h with q | q
    · cases q; exact ⟨rfl, by omega, by omega⟩
    · have := ads_gsl w g n (m + 1) q; exact ⟨this.1, by omega, by omega⟩
theorem ads_gsl_nd (w : Int32) (g : Nat) : ∀ (n m : Nat), (ads (gsl w g n m)).Nodup
  | 0, m => List.nodup_nil
  | n + 1, m => by
    simp only [gsl, ads, List.filterMap_cons]
    refine List.nodup_cons.mpr ⟨fun q => ?_, ads_gsl_nd w g n (m + 1)⟩
    have := ads_gsl w g n (m + 1) q
    omega
theorem gsl_slA {w : Int32} (g np : Nat) : ∀ (n m : Nat), m + n ≤ 3 → ∀ x, x ∈ gsl w g n m → slA (g + 1) np x ∧ x.1 = w
  | 0, m, _, x, h => by cases h
  | n + 1, m, hm, x, h => by
    rcases List.mem_cons.mp h with rfl | q
    · exact ⟨Or.inr (Or.inl ⟨g, m, by omega, by omega, rfl, rfl, rfl⟩), rfl⟩
    · exact gsl_slA g np n (m + 1) (by omega) x q
theorem hol_gsl {t : rSg} {w : Int32} {g : Nat} {sl : List Slt} (hw : w ≠ 41) : ∀ (n m : Nat) {Cd : List Nat}, hol t (gsl w g n m ++ sl) Cd → ∃ es r, Cd = es ++ r ∧ es.length = n ∧ (∀ (k e : Nat), es[k]? = some e → t 233 (3 * g + m + k) = nI e) ∧ hol t sl r
  | 0, m, Cd, h => ⟨[], Cd, rfl, rfl, fun k e q => (by simp at q), h⟩
  | n + 1, m, Cd, h => by
    rcases h with ⟨q, _⟩ | ⟨_, e, C2, rfl, h1, h2⟩
    · exact absurd q hw
    · obtain ⟨es, r, rfl, h3, h4, h5⟩ := hol_gsl hw n (m + 1) h2
      refine ⟨e :: es, r, rfl, by simp [h3], fun k e2 q => ?_, h5⟩
      cases k with
      | zero =>
        simp at q
        subst q
        exact h1 _ _ rfl
      | succ k =>
        have := h4 k e2 (by simpa using q)
        rw [show 3 * g + m + (k + 1) = 3 * g + (m + 1) + k by omega]
        exact this
theorem RRun_bad {tx : Nat → Int32} {n : Nat} : ∀ (f i : Nat) (S : rdS) {nG nT : Nat}, RRun tx n f i S (.inr (nG, nT, none)) → S.2.2.2 = none := by
  intro f
  induction f with
  | zero =>
    rintro i ⟨l, ng, nt, bad⟩ nG nT h
    cases l with
    | nil =>
      rcases h with ⟨_, b⟩ | ⟨_, b⟩
      · cases b; rfl
      · cases b
    | cons w l => cases h
  | succ f ih =>
    rintro i ⟨l, ng, nt, bad⟩ nG nT h
    cases l with
    | nil =>
      rcases h with ⟨_, b⟩ | ⟨_, b⟩
      · cases b; rfl
      · cases b
    | cons w l =>
      rcases h with ⟨S2, a, b⟩ | ⟨_, b⟩
      · have := ih _ _ b
        rcases a with ⟨_, _, rfl⟩ | ⟨_, _, _, rfl⟩ | ⟨_, _, _, rfl⟩
        · exact this
        · simp only [tBad] at this
          split at this
          · cases this
          · exact this
        · simp only [gBad] at this
          split at this
          · cases this
          · exact this
      · cases b
/-- one sign: what holds behind it holds ahead of it -/
theorem stE_back {s t1 t : rSg} {x : Slt} {sl sl2 : List Slt} {c : Int32} {ng nt np ng2 np2 i : Nat} {S2 : rdS} (hok : sOK (x :: sl) ng np) (hng : ng2 = S2.2.1) (hR : RStep i c x.1 (sl.map (fun x => x.1), ng, nt, none) S2) (hE : stE s t1 x sl c ng np sl2 np2) {Cd2 : List Nat} (hh : hol t sl2 Cd2) (hf : frm t1 t sl2 ng2 np2) : ∃ Cd, cEn t c x.1 ng np np2 Cd Cd2 ∧ hol t (x :: sl) Cd ∧ frm s t (x :: sl) ng np := by
  obtain ⟨ok1, ok2⟩ := hok
  have hxA := (ok1 x List.mem_cons_self).1
  have slok : ∀ y, y ∈ sl → slA ng np y := fun y hy => (ok1 y (List.mem_cons_of_mem _ hy)).1
  have adlt : ∀ {k j : Nat}, (k, j) ∈ ads sl → (k = 233 ∧ j < 3 * ng) ∨ (k = 234 ∧ j < 2 * np) := fun h => by
    obtain ⟨y, hy, hy2⟩ := ads_mem h
    exact pu_ad (slok y hy) hy2
  have nd2 : ∀ {k j : Nat}, x.2.2.2 = some (k, j) → (k, j) ∉ ads sl := fun he hm => by
    unfold ads at ok2 hm
    rw [List.filterMap_cons, he] at ok2
    exact (List.nodup_cons.mp ok2).1 hm
  have adx : ∀ {k j : Nat}, (k, j) ∉ ads (x :: sl) → x.2.2.2 ≠ some (k, j) ∧ (k, j) ∉ ads sl := fun {k j} h => by
    unfold ads at h ⊢
    rw [List.filterMap_cons] at h
    cases hx : x.2.2.2 with
    | none =>
      rw [hx] at h
      exact ⟨fun q => (by cases q), h⟩
    | some a =>
      rw [hx] at h
      refine ⟨fun q => h ?_, fun q => h (List.mem_cons_of_mem _ q)⟩
      cases q
      exact List.mem_cons_self
  -- what lies at the slot and elsewhere
  have pat : ∀ (u : rSg) (e : Int32) {k j : Nat}, x.2.2.2 = some (k, j) → pu u x.2.2.2 e k j = e := fun u e k j he => by
    rw [he]; exact up2_same _ _ _ _
  have pne : ∀ (u : rSg) (e : Int32) {k j : Nat}, x.2.2.2 ≠ some (k, j) → pu u x.2.2.2 e k j = u k j := fun u e k j he => by
    cases hx : x.2.2.2 with
    | none => rfl
    | some a =>
      obtain ⟨k2, j2⟩ := a
      show up2 u k2 j2 e k j = u k j
      by_cases hk : k = k2
      · subst hk
        by_cases hj : j = j2
        · subst hj; exact absurd hx he
        · exact up2_nj _ _ _ hj
      · rw [up2_nk _ _ _ hk]
  have arrj : ∀ {t u : rSg} {k j : Nat}, arr t u → k = 233 ∨ k = 234 → t k j = u k j := fun h hk => by
    rcases hk with rfl | rfl
    · rw [h.2.1]
    · rw [h.2.2]
  rcases hE with ⟨w0, rfl, rfl, ha⟩ | ⟨w0, e, he, rfl, rfl, ha⟩ | ⟨w0, rfl, rfl, rfl, ha⟩ | ⟨w0, hc, rfl, rfl, ha⟩
  · have hn2 : ng2 = ng := by
      rcases hR with ⟨_, _, rfl⟩ | ⟨q, _⟩ | ⟨q, _⟩
      · exact hng
      · exact absurd w0 q
      · exact absurd w0 q
    subst hn2
    refine ⟨Cd2, Or.inl ⟨w0, rfl, rfl⟩, Or.inl ⟨w0, hh⟩, fun g hg => (hf.1 g hg).trans (by rw [ha.1]), fun j hj hm => ?_, fun j hj hm => ?_⟩
    · exact (hf.2.1 j hj (adx hm).2).trans (by rw [ha.2.1])
    · exact (hf.2.2 j hj (adx hm).2).trans (by rw [ha.2.2])
  · have hn2 : ng2 = ng := by
      rcases hR with ⟨q, _, _⟩ | ⟨_, _, _, rfl⟩ | ⟨_, q, _⟩
      · rw [w0] at q; exact absurd q (by decide)
      · exact hng
      · exact absurd w0 q
    subst hn2
    refine ⟨e :: Cd2, Or.inr (Or.inl ⟨w0, Or.inl ⟨e, he, rfl, rfl⟩⟩), Or.inr ⟨by rw [w0]; decide, e, Cd2, rfl, fun k j hkj => ?_, hh⟩, fun g hg => (hf.1 g hg).trans ?_, fun j hj hm => ?_, fun j hj hm => ?_⟩
    · have h1 : t k j = t1 k j := by
        rcases pu_ad hxA hkj with ⟨rfl, hj⟩ | ⟨rfl, hj⟩
        · exact hf.2.1 j hj (nd2 hkj)
        · exact hf.2.2 j hj (nd2 hkj)
      rw [h1, arrj ha (slA_ad hxA hkj), pat _ _ hkj]
    · rw [ha.1, pu_ne hxA _ _ (by decide) (by decide)]
    · rw [hf.2.1 j hj (adx hm).2, arrj ha (Or.inl rfl), pne _ _ (adx hm).1]
    · rw [hf.2.2 j hj (adx hm).2, arrj ha (Or.inr rfl), pne _ _ (adx hm).1]
  · have hn2 : ng2 = ng := by
      rcases hR with ⟨q, _, _⟩ | ⟨_, _, _, rfl⟩ | ⟨_, q, _⟩
      · rw [w0] at q; exact absurd q (by decide)
      · exact hng
      · exact absurd w0 q
    subst hn2
    have ea : ads (psl np ++ sl) = (234, 2 * np) :: (234, 2 * np + 1) :: ads sl := rfl
    rcases hh with ⟨q, _⟩ | ⟨_, a, C1, rfl, h1, hh⟩
    · exact absurd (show (116 : Int32) = 41 from q) (by decide)
    rcases hh with ⟨q, _⟩ | ⟨_, b, C3, rfl, h2, hh⟩
    · exact absurd (show (116 : Int32) = 41 from q) (by decide)
    rcases hh with ⟨_, hh⟩ | ⟨q, _⟩
    · have nm : ∀ {k j : Nat}, (k = 233 ∨ (k = 234 ∧ j < 2 * np)) → (k, j) ∉ ads sl → (k, j) ∉ ads (psl np ++ sl) := fun {k j} hk hm q => by
        rw [ea] at q
        rcases List.mem_cons.mp q with q | q
        · cases q; omega
        · rcases List.mem_cons.mp q with q | q
          · cases q; omega
          · exact hm q
      refine ⟨(256 + np) :: C3, Or.inr (Or.inl ⟨w0, Or.inr ⟨rfl, rfl, a, b, C3, rfl, h1 _ _ rfl, h2 _ _ rfl, rfl⟩⟩), Or.inr ⟨by rw [w0]; decide, 256 + np, C3, rfl, fun k j hkj => ?_, hh⟩, fun g hg => (hf.1 g hg).trans ?_, fun j hj hm => ?_, fun j hj hm => ?_⟩
      · have h1 : t k j = t1 k j := by
          rcases pu_ad hxA hkj with ⟨rfl, hj⟩ | ⟨rfl, hj⟩
          · exact hf.2.1 j hj (nm (Or.inl rfl) (nd2 hkj))
          · exact hf.2.2 j (by omega) (nm (Or.inr ⟨rfl, hj⟩) (nd2 hkj))
        rw [h1, arrj ha (slA_ad hxA hkj), pat _ _ hkj]
      · rw [ha.1, pu_ne hxA _ _ (by decide) (by decide), up2_nk _ _ _ (by decide), up2_nk _ _ _ (by decide)]
      · rw [hf.2.1 j hj (nm (Or.inl rfl) (adx hm).2), arrj ha (Or.inl rfl), pne _ _ (adx hm).1, up2_nk _ _ _ (by decide), up2_nk _ _ _ (by decide)]
      · rw [hf.2.2 j (by omega) (nm (Or.inr ⟨rfl, hj⟩) (adx hm).2), arrj ha (Or.inr rfl), pne _ _ (adx hm).1, up2_nj _ _ _ (by omega), up2_nj _ _ _ (by omega)]
    · exact absurd rfl q
  · have hn2 : ng2 = ng + 1 := by
      rcases hR with ⟨q, _, _⟩ | ⟨_, q, _⟩ | ⟨_, _, _, rfl⟩
      · rw [w0] at q; exact absurd q (by decide)
      · rw [w0] at q; exact absurd q (by decide)
      · exact hng
    subst hn2
    have nm : ∀ {k j : Nat}, (k = 234 ∨ (k = 233 ∧ j < 3 * ng)) → (k, j) ∉ ads sl → (k, j) ∉ ads (gsl (if c = 38 ∨ c = 124 then 103 else 116) ng (gAw c).length 0 ++ sl) := fun {k j} hk hm q => by
      rw [ads_app] at q
      rcases List.mem_append.mp q with q | q
      · have := ads_gsl _ ng _ 0 q
        omega
      · exact hm q
    obtain ⟨es, r, rfl, h3, h4, h5⟩ := hol_gsl (by split <;> decide) _ _ hh
    refine ⟨ng :: r, Or.inr (Or.inr ⟨w0, hc, rfl, ?_, es, r, rfl, rfl, h3, fun k e q => h4 k e q⟩), Or.inr ⟨by rw [w0]; decide, ng, r, rfl, fun k j hkj => ?_, h5⟩, fun g hg => (hf.1 g (by omega)).trans ?_, fun j hj hm => ?_, fun j hj hm => ?_⟩
    · rw [hf.1 ng (by omega), ha.1, pu_ne hxA _ _ (by decide) (by decide), up2_same]
    · have h1 : t k j = t1 k j := by
        rcases pu_ad hxA hkj with ⟨rfl, hj⟩ | ⟨rfl, hj⟩
        · exact hf.2.1 j (by omega) (nm (Or.inr ⟨rfl, hj⟩) (nd2 hkj))
        · exact hf.2.2 j hj (nm (Or.inl rfl) (nd2 hkj))
      rw [h1, arrj ha (slA_ad hxA hkj), pat _ _ hkj]
    · rw [ha.1, pu_ne hxA _ _ (by decide) (by decide), up2_nj _ _ _ (by omega)]
    · rw [hf.2.1 j (by omega) (nm (Or.inr ⟨rfl, hj⟩) (adx hm).2), arrj ha (Or.inl rfl), pne _ _ (adx hm).1, up2_nk _ _ _ (by decide)]
    · rw [hf.2.2 j hj (nm (Or.inl rfl) (adx hm).2), arrj ha (Or.inr rfl), pne _ _ (adx hm).1, up2_nk _ _ _ (by decide)]
