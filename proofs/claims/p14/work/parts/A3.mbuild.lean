/-! THE REFERENCE: the goal of a text is built, the last sign first -/
/-- what lies on the pile, its top first: what it is (116 a term), its number -/
def stk (s : rSg) (T G : Nat) : List (Int32 × Nat) → Prop
  | [] => True
  | x :: r => s 738 r.length = nI x.2 ∧ (x.1 = 116 → x.2 < T) ∧ (x.1 ≠ 116 → x.2 < G) ∧ stk s T G r
def bal (s : rSg) : List (Int32 × Nat) → Nat
  | [] => 0
  | x :: r => (if x.1 = 116 then 0 else 2 * nh s x.2) + bal s r
def cnt : List (Int32 × Nat) → Nat
  | [] => 0
  | x :: r => (if x.1 = 116 then 0 else 1) + cnt r
theorem stk_ext {s t : rSg} {T G T2 G2 : Nat} (hT : T ≤ T2) (hG : G ≤ G2) : ∀ {r : List (Int32 × Nat)}, (∀ j, j < r.length → t 738 j = s 738 j) → stk s T G r → stk t T2 G2 r
  | [], _, _ => trivial
  | x :: r, e, ⟨h1, h2, h3, h4⟩ => ⟨by rw [e r.length (by simp)]; exact h1, fun q => by have := h2 q; omega, fun q => by have := h3 q; omega, stk_ext hT hG (fun j hj => e j (by simp; omega)) h4⟩
theorem bal_ext {s t : rSg} {T G : Nat} (h : hpG s T G) (hG : G < 2 ^ 31) (e : ∀ j, j < G → t 729 j = s 729 j ∧ t 730 j = s 730 j ∧ t 731 j = s 731 j ∧ t 732 j = s 732 j) {T1 : Nat} {r : List (Int32 × Nat)} : stk s T1 G r → bal t r = bal s r := by
  induction r with
  | nil => intro _; rfl
  | cons x r ih =>
    rintro ⟨_, _, h3, h4⟩
    simp only [bal]
    rw [ih h4]
    by_cases q : x.1 = 116
    · rw [if_pos q, if_pos q]
    · rw [if_neg q, if_neg q, nh_ext h hG e (h3 q)]
/-- how far the building is: S is what the reader awaits there -/
def BI (s0 s : rSg) (n k : Nat) (S : rdS) (nG nT : Nat) : Prop := ∃ T G its, hp s T G 1 ∧ T + S.2.2.1 ≤ 75 + nT ∧ G + S.2.1 = nG ∧ s 725 17 = nI its.length ∧ its.length + k ≤ n ∧ its.map (fun x => x.1) = S.1.filter (fun w => !decide (w = 41)) ∧ stk s T G its ∧ bal s its ≤ G + cnt its ∧ mK [727, 728, 729, 730, 731, 732, 738] [10, 11, 17] s0 s
/-- the top is taken -/
theorem ms_116 {s : rSg} {m : Nat} {x : Int32} (h17 : s 725 17 = nI (m + 1)) (hm : m < 8000) (hx1 : s 738 m = x) {P : Option rv → rSg → Prop} (hP : P (some (.inl x)) (up2 s 725 17 (nI m))) : EvS rSkel 1 116 [.inr (.inr (some 725))] s P := by
  refine w_116 s ?_
  rw [h17, show nI (m + 1) - 1 = nI m from nI_pred m, nI_clamp (by omega), hx1]
  exact ⟨rIn_nI hm (by decide), hP⟩
theorem hp.f17 {s : rSg} {T G L : Nat} {x : Int32} (hh : hp s T G L) : hp (up2 s 725 17 x) T G L := hh.keep hx_up ⟨up2_nj _ _ _ (by decide), up2_nj _ _ _ (by decide), up2_nj _ _ _ (by decide)⟩
/-- a number goes on the pile -/
theorem ms_118 {s0 s : rSg} {n k T G : Nat} {S : rdS} {nG nT : Nat} {r : List (Int32 × Nat)} {w : Int32} {i : Nat} (hn : n ≤ 96) (hh : hp s T G 1) (hT : T + S.2.2.1 ≤ 75 + nT) (hG : G + S.2.1 = nG) (h17 : s 725 17 = nI r.length) (hl : r.length + 1 + k ≤ n) (hm : w :: r.map (fun x => x.1) = S.1.filter (fun w => !decide (w = 41))) (hs : stk s T G r) (h1 : w = 116 → i < T) (h2 : w ≠ 116 → i < G) (hb : (if w = 116 then 0 else 2 * nh s i) + bal s r ≤ G + ((if w = 116 then 0 else 1) + cnt r)) (hk : mK [727, 728, 729, 730, 731, 732, 738] [10, 11, 17] s0 s) : EvS rSkel 1 118 [.inr (.inr (some 725)), .inl (nI i)] s (fun v t => v = none ∧ BI s0 t n k S nG nT) := by
  refine (ev_m_piles 0 s (nI i) h17 (by omega)).imp ?_
  rintro _ _ ⟨rfl, rfl⟩
  have k1 : mK [738] [17] s (up2 (up2 s 738 r.length (nI i)) 725 17 (nI (r.length + 1))) := (mK.rfl'.up (by simp) (by decide)).upF (by simp)
  have e8 : ∀ j, up2 (up2 s 738 r.length (nI i)) 725 17 (nI (r.length + 1)) 738 j = if j = r.length then nI i else s 738 j := fun j => by simp [up2, upd]
  have e17 : up2 (up2 s 738 r.length (nI i)) 725 17 (nI (r.length + 1)) 725 17 = nI (r.length + 1) := up2_same _ _ _ _
  generalize up2 (up2 s 738 r.length (nI i)) 725 17 (nI (r.length + 1)) = t at k1 e8 e17
  have e : hx T G 1 s t := k1.hx (fun k a b => by simp; omega)
  refine ⟨rfl, T, G, (w, i) :: r, hh.keep e ⟨k1.2 10 (by simp), k1.2 11 (by simp), k1.2 12 (by simp)⟩, hT, hG, e17, by simp only [List.length_cons]; omega, by simp only [List.map_cons]; exact hm, ⟨by rw [e8, if_pos rfl], h1, h2, stk_ext (Nat.le_refl _) (Nat.le_refl _) (fun j hj => by rw [e8, if_neg (by omega)]) hs⟩, ?_, hk.trans (k1.mono (by simp) (by simp))⟩
  simp only [bal, cnt]
  have hG9 : G < 2 ^ 31 := by have := hh.1; omega
  rw [bal_ext hh.2.2.2 hG9 e.2.1 hs]
  by_cases q : w = 116
  · rw [if_pos q, if_pos q] at hb ⊢; exact hb
  · rw [if_neg q, if_neg q] at hb ⊢
    rw [nh_ext hh.2.2.2 hG9 e.2.1 (h2 q)]
    exact hb
/-- a new goal goes on the pile -/
theorem ms_newgoal {s0 s : rSg} {n k T G ng nt : Nat} {l : List Int32} {bad : Option Nat} {nG nT : Nat} {r : List (Int32 × Nat)} {w : Int32} (hw1 : w ≠ 116) (hw2 : w ≠ 41) (hn : n ≤ 96) (hnG : nG ≤ 96) (hh : hp s T G 1) (hT : T + nt ≤ 75 + nT) (hG : G + (ng + 1) = nG) (h17 : s 725 17 = nI r.length) (hl : r.length + 1 + k ≤ n) (hm : r.map (fun x => x.1) = l.filter (fun w => !decide (w = 41))) (hs : stk s T G r) (hk : mK [727, 728, 729, 730, 731, 732, 738] [10, 11, 17] s0 s) {c : Int32} {x y d : Nat} (c1 : two2 c → x < G ∧ y < G) (c2 : ¬ two2 c → x < T ∧ y < T ∧ d < T) (hb1 : two2 c → 2 * nh s x + 2 * nh s y + bal s r ≤ G + 2 + cnt r) (hb2 : ¬ two2 c → bal s r ≤ G + cnt r) : EvS rSkel 1 120 [.inr (.inr (some 725)), .inl c, .inl (nI x), .inl (nI y), .inl (nI d)] s (fun v t => ∃ m, v = some (.inl m) ∧ EvS rSkel 1 118 [.inr (.inr (some 725)), .inl m] t (fun v t => v = none ∧ BI s0 t n k (w :: l, ng, nt, bad) nG nT)) := by
  refine (ms_120 hh (by omega) c1 c2).imp ?_
  rintro _ t ⟨rfl, w1, w2, w3, w4, w5, w6, w7⟩
  have hG9 : G < 2 ^ 31 := by omega
  refine ⟨_, rfl, ms_118 (S := (w :: l, ng, nt, bad)) (w := w) hn w1 hT (by simp only; omega) (by rw [w3.2 17 (by simp)]; exact h17) hl ?_ (stk_ext (Nat.le_refl _) (by omega) (fun j _ => by rw [w3.1 738 (by decide) (by simp)]) hs) (fun q => absurd q hw1) (fun _ => by omega) ?_ (hk.trans (w3.mono (by simp) (by simp)))⟩
  · simp only
    rw [List.filter_cons_of_pos (by simpa using hw2), hm]
  · rw [if_neg hw1, if_neg hw1, bal_ext hh.2.2.2 hG9 w2.2.1 hs]
    by_cases q : two2 c
    · have q1 := c1 q
      have q2 := hb1 q
      rw [nh_two (T := T) (G := G + 1) w1.2.2.2 (by omega) (by omega) (by rw [w4]; exact q) w5 w6 q1.1 q1.2, nh_ext hh.2.2.2 hG9 w2.2.1 q1.1, nh_ext hh.2.2.2 hG9 w2.2.1 q1.2]
      omega
    · have q2 := hb2 q
      by_cases q3 : c = 35
      · rw [nh_hash (by rw [w4]; exact q3)]; omega
      · rw [nh_none (by rw [w4]; exact q3) (by rw [w4]; exact q)]; omega
