/-! WHAT WAS TOLD, in numbers -/
def sR (h : Nat → Nat) : Nat → Nat → Nat
  | _, 0 => 0
  | a, k + 1 => h a + sR h (a + 1) k
def arK (k : Nat) : Nat := if k = 65 then 3 else if k = 61 ∨ k = 35 ∨ k = 77 then 2 else 0
def c116 : List Int32 → Nat
  | [] => 0
  | w :: l => (if w = 116 then 1 else 0) + c116 l
theorem c116_app : ∀ a b : List Int32, c116 (a ++ b) = c116 a + c116 b
  | [], b => by simp [c116]
  | w :: a, b => by simp only [List.cons_append, c116, c116_app a b]; omega
theorem CD_cnt {t : rSg} {tx : Nat → Int32} {tb : Tb} {n nG nT tp : Nat} : ∀ (f i : Nat) (S : rdS) (np : Nat) (Cd : List Nat) (M : List Mn), CD t tx nG tp f i S np Cd → MR tx tb f i S M → RRun tx n f i S (.inr (nG, nT, none)) → ∃ k, nG = S.2.1 + k ∧ S.2.2.1 + c116 S.1 + 2 * tp + sR (fun g => arK (tb g).1) S.2.1 k = nT + 2 * np := by
  intro f
  induction f with
  | zero =>
    rintro i ⟨l, ng, nt, bad⟩ np Cd M h1 h2 h3
    cases l with
    | nil =>
      obtain ⟨rfl, rfl, rfl⟩ := h1
      rcases h3 with ⟨_, e⟩ | ⟨_, e⟩
      · cases e; exact ⟨0, rfl, by simp [c116, sR]⟩
      · cases e
    | cons w l => exact h1.elim
  | succ f ih =>
    rintro i ⟨l, ng, nt, bad⟩ np Cd M h1 h2 h3
    cases l with
    | nil =>
      obtain ⟨rfl, rfl, rfl⟩ := h1
      rcases h3 with ⟨_, e⟩ | ⟨_, e⟩
      · cases e; exact ⟨0, rfl, by simp [c116, sR]⟩
      · cases e
    | cons w l =>
      obtain ⟨S2, np2, Cd2, r1, c1, c2⟩ := h1
      obtain ⟨S3, M2, r2, m1, m2⟩ := h2
      have e := RStep_det r1 r2
      subst e
      rcases h3 with ⟨S4, r3, q1⟩ | ⟨_, q⟩
      · have e := RStep_det r1 r3
        subst e
        obtain ⟨k, k1, k2⟩ := ih (i + 1) S2 np2 Cd2 M2 c1 m1 q1
        show ∃ k, nG = ng + k ∧ nt + c116 (w :: l) + 2 * tp + sR _ ng k = _
        rcases c2 with ⟨w0, rfl, rfl⟩ | ⟨w0, c2⟩ | ⟨w0, hc, rfl, k9, es, r, rfl, rfl, _, _⟩
        · rcases r1 with ⟨_, _, rfl⟩ | ⟨q, _⟩ | ⟨q, _⟩
          · simp only at k1 k2
            refine ⟨k, k1, ?_⟩
            simp only [c116]
            rw [if_neg (by rw [w0]; decide)]
            omega
          · exact absurd w0 q
          · exact absurd w0 q
        · rcases r1 with ⟨q, _, _⟩ | ⟨_, _, _, rfl⟩ | ⟨_, q, _⟩
          · rw [w0] at q; exact absurd q (by decide)
          · simp only at k1 k2
            refine ⟨k, k1, ?_⟩
            simp only [c116]
            rw [if_pos w0]
            rw [c116_app] at k2
            rcases c2 with ⟨e, he, rfl, rfl⟩ | ⟨hc, rfl, a, b, r, rfl, t1, t2, rfl⟩
            · have : tAw (tx i) = [] := by unfold tAw; rw [if_neg (lfC_lt he).2]
              rw [this] at k2
              simp only [c116] at k2
              omega
            · have : c116 (tAw (tx i)) = 2 := by rw [hc]; decide
              omega
          · exact absurd w0 q
        · rcases r1 with ⟨q, _, _⟩ | ⟨_, q, _⟩ | ⟨_, _, _, rfl⟩
          · rw [w0] at q; exact absurd q (by decide)
          · rw [w0] at q; exact absurd q (by decide)
          · simp only at k1 k2
            refine ⟨k + 1, by omega, ?_⟩
            simp only [c116, sR]
            rw [if_neg (by rw [w0]; decide)]
            rw [c116_app] at k2
            have m2 : gEn tb ng (tx i) M M2 := by
              rcases m2 with ⟨q, _⟩ | ⟨q, _⟩ | ⟨_, q⟩
              · rw [w0] at q; exact absurd q (by decide)
              · rw [w0] at q; exact absurd q (by decide)
              · exact q
            have : c116 (gAw (tx i)) = arK (tb ng).1 := by
              obtain ⟨kk, z1, z2, z3⟩ := m2
              rw [z1, z2]
              rcases z3 with ⟨z, _⟩ | ⟨z, _⟩ | ⟨z, _⟩ | ⟨z, _⟩
              · rcases z with rfl | rfl | rfl <;> decide
              · subst z; decide
              · rcases z with rfl | rfl <;> decide
              · rcases z with rfl | rfl <;> decide
            omega
      · cases q
/-! weights -/
def sumG (h : Nat → Nat) : List Mn → Nat
  | [] => 0
  | .inl _ :: M => sumG h M
  | .inr q :: M => h q + sumG h M
theorem sumG_congr {h h2 : Nat → Nat} : ∀ {M : List Mn}, (∀ q, Sum.inr q ∈ M → h2 q = h q) → sumG h2 M = sumG h M
  | [], _ => rfl
  | .inl f :: M, e => sumG_congr (M := M) (fun q hq => e q (List.mem_cons_of_mem _ hq))
  | .inr q :: M, e => by
    simp only [sumG]
    rw [e q List.mem_cons_self, sumG_congr (fun q hq => e q (List.mem_cons_of_mem _ hq))]
def wEt (tb : Tb) (wt wm : Nat → Nat) (oc : Nat → Nat → Nat) (g : Nat) : Prop := 1 ≤ wt g ∧ ((tb g).1 = 38 ∨ (tb g).1 = 124 → (g < tbA tb g ∧ g < tbB tb g) ∧ wt (tbA tb g) + wt (tbB tb g) + 1 ≤ wt g ∧ wm (tbA tb g) + wm (tbB tb g) ≤ wm g ∧ ∀ q, oc (tbA tb g) q + oc (tbB tb g) q ≤ oc g q) ∧ ((tb g).1 = 77 → 1 ≤ wm g) ∧ ((tb g).1 = 35 ∨ (tb g).1 = 77 → 1 ≤ oc g g)
theorem MR_w {tx : Nat → Int32} {tb : Tb} {n nG nT : Nat} : ∀ (f i : Nat) (S : rdS) (M : List Mn), MR tx tb f i S M → RRun tx n f i S (.inr (nG, nT, none)) → ∃ (k : Nat) (wt wm : Nat → Nat) (oc : Nat → Nat → Nat), nG = S.2.1 + k ∧ (∀ g, S.2.1 ≤ g → g < nG → wEt tb wt wm oc g) ∧ sumG wt M = k ∧ sumG wm M = sR (fun g => if (tb g).1 = 77 then 1 else 0) S.2.1 k ∧ (∀ q, sumG (fun g => oc g q) M ≤ 1 ∧ (q < S.2.1 → sumG (fun g => oc g q) M = 0)) ∧ ∀ q, Sum.inr q ∈ M → S.2.1 ≤ q := by
  intro f
  induction f with
  | zero =>
    rintro i ⟨l, ng, nt, bad⟩ M h2 h3
    cases l with
    | nil =>
      have h2 : M = [] := h2
      subst h2
      rcases h3 with ⟨_, e⟩ | ⟨_, e⟩
      · cases e
        exact ⟨0, fun _ => 1, fun _ => 0, fun _ _ => 0, rfl, fun g a b => absurd b (by show ¬ g < _; have : nG ≤ g := a; omega), rfl, rfl, fun q => ⟨Nat.zero_le _, fun _ => rfl⟩, fun q hq => by cases hq⟩
      · cases e
    | cons w l => exact h2.elim
  | succ f ih =>
    rintro i ⟨l, ng, nt, bad⟩ M h2 h3
    cases l with
    | nil =>
      have h2 : M = [] := h2
      subst h2
      rcases h3 with ⟨_, e⟩ | ⟨_, e⟩
      · cases e
        exact ⟨0, fun _ => 1, fun _ => 0, fun _ _ => 0, rfl, fun g a b => absurd b (by show ¬ g < _; have : nG ≤ g := a; omega), rfl, rfl, fun q => ⟨Nat.zero_le _, fun _ => rfl⟩, fun q hq => by cases hq⟩
      · cases e
    | cons w l =>
      obtain ⟨S3, M2, r2, m1, m2⟩ := h2
      rcases h3 with ⟨S4, r3, q1⟩ | ⟨_, q⟩
      · have e := RStep_det r2 r3
        subst e
        obtain ⟨k, wt, wm, oc, k0, k1, k2, k3, k4, k5⟩ := ih (i + 1) S3 M2 m1 q1
        show ∃ (k : Nat) (wt wm : Nat → Nat) (oc : Nat → Nat → Nat), nG = ng + k ∧ (∀ g, ng ≤ g → g < nG → wEt tb wt wm oc g) ∧ sumG wt M = k ∧ sumG wm M = sR (fun g => if (tb g).1 = 77 then 1 else 0) ng k ∧ (∀ q, sumG (fun g => oc g q) M ≤ 1 ∧ (q < ng → sumG (fun g => oc g q) M = 0)) ∧ ∀ q, Sum.inr q ∈ M → ng ≤ q
        rcases m2 with ⟨w0, rfl⟩ | ⟨w0, m2⟩ | ⟨w0, m2⟩
        · have hS : S3.2.1 = ng := by
            rcases r2 with ⟨_, _, rfl⟩ | ⟨q, _⟩ | ⟨q, _⟩
            · rfl
            · exact absurd w0 q
            · exact absurd w0 q
          rw [hS] at k0 k1 k3 k4 k5
          exact ⟨k, wt, wm, oc, k0, k1, k2, k3, k4, k5⟩
        · have hS : S3.2.1 = ng := by
            rcases r2 with ⟨q, _, _⟩ | ⟨_, _, _, rfl⟩ | ⟨_, q, _⟩
            · rw [w0] at q; exact absurd q (by decide)
            · rfl
            · exact absurd w0 q
          rw [hS] at k0 k1 k3 k4 k5
          rcases m2 with ⟨g, hg, rfl⟩ | ⟨_, g1, g2, mr, rfl, rfl⟩
          · exact ⟨k, wt, wm, oc, k0, k1, k2, k3, k4, fun q hq => k5 q (by simpa using hq)⟩
          · exact ⟨k, wt, wm, oc, k0, k1, k2, k3, k4, fun q hq => k5 q (by simpa using hq)⟩
        · have hS : S3.2.1 = ng + 1 := by
            rcases r2 with ⟨q, _, _⟩ | ⟨_, q, _⟩ | ⟨_, _, _, rfl⟩
            · rw [w0] at q; exact absurd q (by decide)
            · rw [w0] at q; exact absurd q (by decide)
            · rfl
          rw [hS] at k0 k1 k3 k4 k5
          obtain ⟨kk, z1, z2, z3⟩ := m2
          -- the new goal's own weights
          have fin : ∀ (a b c : Nat) (d : Nat → Nat) (mr : List Mn), M = .inr ng :: mr → (∀ q, Sum.inr q ∈ mr → ng + 1 ≤ q) → a + sumG wt mr = k + 1 → b + sumG wm mr = (if (tb ng).1 = 77 then 1 else 0) + sumG wm M2 → (∀ q, d q + sumG (fun g => oc g q) mr ≤ (if q = ng then 1 else 0) + sumG (fun g => oc g q) M2) → 1 ≤ a → ((tb ng).1 = 38 ∨ (tb ng).1 = 124 → (ng < tbA tb ng ∧ ng < tbB tb ng) ∧ wt (tbA tb ng) + wt (tbB tb ng) + 1 ≤ a ∧ wm (tbA tb ng) + wm (tbB tb ng) ≤ b ∧ ∀ q, oc (tbA tb ng) q + oc (tbB tb ng) q ≤ d q) → ((tb ng).1 = 77 → 1 ≤ b) → ((tb ng).1 = 35 ∨ (tb ng).1 = 77 → 1 ≤ d ng) → ∃ (k : Nat) (wt wm : Nat → Nat) (oc : Nat → Nat → Nat), nG = ng + k ∧ (∀ g, ng ≤ g → g < nG → wEt tb wt wm oc g) ∧ sumG wt M = k ∧ sumG wm M = sR (fun g => if (tb g).1 = 77 then 1 else 0) ng k ∧ (∀ q, sumG (fun g => oc g q) M ≤ 1 ∧ (q < ng → sumG (fun g => oc g q) M = 0)) ∧ ∀ q, Sum.inr q ∈ M → ng ≤ q := by
            rintro a b c d mr rfl hmr ha hb hd h1 h2 h3 h4
            have u1 : ∀ g, g ≠ ng → (fun g => if g = ng then a else wt g) g = wt g := fun g hg => if_neg hg
            have u2 : ∀ g, g ≠ ng → (fun g => if g = ng then b else wm g) g = wm g := fun g hg => if_neg hg
            have u3 : ∀ g, g ≠ ng → (fun g => if g = ng then d else oc g) g = oc g := fun g hg => if_neg hg
            have v1 : (fun g => if g = ng then a else wt g) ng = a := if_pos rfl
            have v2 : (fun g => if g = ng then b else wm g) ng = b := if_pos rfl
            have v3 : (fun g => if g = ng then d else oc g) ng = d := if_pos rfl
            generalize (fun g => if g = ng then a else wt g) = wt' at u1 v1
            generalize (fun g => if g = ng then b else wm g) = wm' at u2 v2
            generalize (fun g => if g = ng then d else oc g) = oc' at u3 v3
            refine ⟨k + 1, wt', wm', oc', by omega, fun g g1 g2 => ?_, ?_, ?_, fun q => ?_, fun q hq => ?_⟩
            · by_cases q : g = ng
              · subst q
                refine ⟨by rw [v1]; exact h1, fun hk => ?_, fun hk => by rw [v2]; exact h3 hk, fun hk => by rw [v3]; exact h4 hk⟩
                obtain ⟨y1, y2, y3, y4⟩ := h2 hk
                exact ⟨y1, by rw [u1 _ (by omega), u1 _ (by omega), v1]; exact y2, by rw [u2 _ (by omega), u2 _ (by omega), v2]; exact y3, fun q => by rw [u3 _ (by omega), u3 _ (by omega), v3]; exact y4 q⟩
              · obtain ⟨x1, x2, x3, x4⟩ := k1 g (by omega) g2
                refine ⟨by rw [u1 g q]; exact x1, fun hk => ?_, fun hk => by rw [u2 g q]; exact x3 hk, fun hk => by rw [u3 g q]; exact x4 hk⟩
                obtain ⟨y1, y2, y3, y4⟩ := x2 hk
                exact ⟨y1, by rw [u1 _ (by omega), u1 _ (by omega), u1 g q]; exact y2, by rw [u2 _ (by omega), u2 _ (by omega), u2 g q]; exact y3, fun z => by rw [u3 _ (by omega), u3 _ (by omega), u3 g q]; exact y4 z⟩
            · simp only [sumG]
              rw [v1, sumG_congr (h := wt) (fun q hq => u1 q (by have := hmr q hq; omega))]
              exact ha
            · simp only [sumG, sR]
              rw [v2, sumG_congr (h := wm) (fun q hq => u2 q (by have := hmr q hq; omega)), hb, k3]
            · simp only [sumG]
              rw [v3, sumG_congr (h := fun g => oc g q) (fun z hz => by rw [u3 z (by have := hmr z hz; omega)])]
              have a1 := hd q
              have a2 := k4 q
              by_cases hq : q = ng
              · rw [if_pos hq] at a1
                have := a2.2 (by omega)
                exact ⟨by omega, fun z => by omega⟩
              · rw [if_neg hq] at a1
                exact ⟨by omega, fun z => by have := a2.2 (by omega); omega⟩
            · rcases List.mem_cons.mp hq with e | e
              · cases e; exact Nat.le_refl _
              · have := hmr q e; omega
          rcases z3 with ⟨z, mr, rfl, e⟩ | ⟨z, mr, rfl, e⟩ | ⟨z, mr, rfl, e⟩ | ⟨z, e⟩
          · refine fin 1 (if (tb ng).1 = 77 then 1 else 0) 0 (fun q => if q = ng then 1 else 0) mr e (fun q hq => k5 q (by simp [hq])) ?_ rfl (fun q => Nat.le_refl _) (Nat.le_refl _) (fun q => by omega) (fun q => by rw [if_pos q]; exact Nat.le_refl _) (fun _ => by rw [if_pos rfl]; exact Nat.le_refl _)
            simp only [sumG] at k2
            omega
          · refine fin 1 (if (tb ng).1 = 77 then 1 else 0) 0 (fun q => if q = ng then 1 else 0) mr e (fun q hq => k5 q (by simp [hq])) ?_ rfl (fun q => Nat.le_refl _) (Nat.le_refl _) (fun q => by omega) (fun q => by rw [if_pos q]; exact Nat.le_refl _) (fun _ => by rw [if_pos rfl]; exact Nat.le_refl _)
            simp only [sumG] at k2
            omega
          · have g1 := k5 (tbA tb ng) (by simp)
            have g2 := k5 (tbB tb ng) (by simp)
            refine fin (wt (tbA tb ng) + wt (tbB tb ng) + 1) (wm (tbA tb ng) + wm (tbB tb ng)) 0 (fun q => oc (tbA tb ng) q + oc (tbB tb ng) q) mr e (fun q hq => k5 q (by simp [hq])) ?_ ?_ (fun q => ?_) (by omega) (fun _ => ⟨⟨by omega, by omega⟩, Nat.le_refl _, Nat.le_refl _, fun q => Nat.le_refl _⟩) (fun q => by omega) (fun q => by omega)
            · simp only [sumG] at k2
              omega
            · simp only [sumG]
              rw [if_neg (by omega)]
              omega
            · simp only [sumG]
              omega
          · refine fin 1 0 0 (fun q => 0) M2 e k5 ?_ ?_ (fun q => ?_) (Nat.le_refl _) (fun q => by omega) (fun q => by omega) (fun q => by omega)
            · omega
            · rw [if_neg (by omega)]
            · omega
      · cases q
