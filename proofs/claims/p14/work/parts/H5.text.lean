/-! TEXTS: they depend on the solutions alone -/
def rl (V1 V2 : Nat → TV) (D1 D2 : Nat → Prop) (m1 m2 : Nat → Nat) (c1 c2 : Nat) : Prop := ∀ t1 t2, vSol V1 D1 t1 → vSol V2 D2 t2 → (∀ v, v < 64 → t1 (m1 v) = t2 (m2 v)) → t1 c1 = t2 c2
/-- codes that are told by what they come to -/
def eCl (V K : Nat → TV) (D E : Nat → Prop) : Prop := ∀ c, E c → D c ∧ (∀ e, V c = some (.inl e) → E e) ∧ (∀ a b, V c = some (.inr (.inr (a, b))) → E a ∧ E b) ∧ (vRes V c → K c = V c)
def vKm (V : Nat → TV) (D : Nat → Prop) (m : Nat → Nat) (K : Kx) : Prop := ∀ r, K r ↔ ∃ th, vSol V D th ∧ ∀ v, v < 64 → th (m v) = r v
section TX
variable {V1 V2 K1 K2 : Nat → TV} {D1 D2 E1 E2 : Nat → Prop} {rk1 rk2 m1 m2 : Nat → Nat} {K : Kx}
theorem rl_12 (h1 : vKm V1 D1 m1 K) (h2 : vKm V2 D2 m2 K) {t1 : Nat → Nat} (hs : vSol V1 D1 t1) : ∃ t2, vSol V2 D2 t2 ∧ ∀ v, v < 64 → t1 (m1 v) = t2 (m2 v) := by
  obtain ⟨t2, a, b⟩ := (h2 (fun v => t1 (m1 v))).mp ((h1 _).mpr ⟨t1, hs, fun v _ => rfl⟩)
  exact ⟨t2, a, fun v hv => (b v hv).symm⟩
/-- one is open only if the other is -/
theorem rl_open (ok1 : vOK V1 D1 rk1) (ok2 : vOK V2 D2 rk2) (h1 : vKm V1 D1 m1 K) (h2 : vKm V2 D2 m2 K) {c1 c2 : Nat} (hr : rl V1 V2 D1 D2 m1 m2 c1 c2) (hd2 : D2 c2) (ho : V1 c1 = none) (hv : vRes V2 c2) : V2 c2 = none := by
  obtain ⟨t1, s1, e1⟩ := vSol_any ok1 ho 0
  obtain ⟨u1, y1, f1⟩ := vSol_any ok1 ho 1
  obtain ⟨t2, s2, a2⟩ := rl_12 h1 h2 s1
  obtain ⟨u2, y2, b2⟩ := rl_12 h1 h2 y1
  have g1 := hr t1 t2 s1 s2 a2
  have g2 := hr u1 u2 y1 y2 b2
  rw [e1] at g1
  rw [f1] at g2
  match h : V2 c2 with
  | none => rfl
  | some (.inl e) => exact absurd h (hv e)
  | some (.inr (.inl n)) =>
    have k1 := (s2 c2 hd2).2.1 n h
    have k2 := (y2 c2 hd2).2.1 n h
    omega
  | some (.inr (.inr (a, b))) =>
    have k1 := (s2 c2 hd2).2.2 a b h
    have := nd_big (t2 a) (t2 b)
    omega
theorem rl_swap {c1 c2 : Nat} (hr : rl V1 V2 D1 D2 m1 m2 c1 c2) : rl V2 V1 D2 D1 m2 m1 c2 c1 := fun t1 t2 s1 s2 e => (hr t2 t1 s2 s1 (fun v hv => (e v hv).symm)).symm
theorem rl_same (ok1 : vOK V1 D1 rk1) (h1 : vKm V1 D1 m1 K) (h2 : vKm V2 D2 m2 K) {x1 c1 c2 : Nat} (hx : rl V1 V2 D1 D2 m1 m2 x1 c2) (hc : rl V1 V2 D1 D2 m1 m2 c1 c2) (ox : V1 x1 = none) (oc : V1 c1 = none) : x1 = c1 := by
  apply Classical.byContradiction
  intro hne
  obtain ⟨t1, s1, e1, _⟩ := vSol_ex ok1 (fun c => if c = x1 then 0 else 1)
  obtain ⟨t2, s2, a2⟩ := rl_12 h1 h2 s1
  have g1 := hx t1 t2 s1 s2 a2
  have g2 := hc t1 t2 s1 s2 a2
  rw [e1 x1 ox, if_pos rfl] at g1
  rw [e1 c1 oc, if_neg (fun q => hne q.symm)] at g2
  omega
def nmR (V1 V2 : Nat → TV) (D1 D2 : Nat → Prop) (m1 m2 : Nat → Nat) : List Nat → List Nat → Prop
  | [], [] => True
  | x :: l, y :: k => (rl V1 V2 D1 D2 m1 m2 x y ∧ V1 x = none ∧ V2 y = none) ∧ nmR V1 V2 D1 D2 m1 m2 l k
  | _, _ => False
def stR (V1 V2 : Nat → TV) (D1 D2 E1 E2 : Nat → Prop) (m1 m2 : Nat → Nat) : List (Nat ⊕ Int32) → List (Nat ⊕ Int32) → Prop
  | [], [] => True
  | .inr a :: l, .inr b :: k => a = b ∧ stR V1 V2 D1 D2 E1 E2 m1 m2 l k
  | .inl a :: l, .inl b :: k => (rl V1 V2 D1 D2 m1 m2 a b ∧ E1 a ∧ E2 b) ∧ stR V1 V2 D1 D2 E1 E2 m1 m2 l k
  | _, _ => False
theorem nm_ix (ok1 : vOK V1 D1 rk1) (ok2 : vOK V2 D2 rk2) (h1 : vKm V1 D1 m1 K) (h2 : vKm V2 D2 m2 K) {c1 c2 : Nat} (hr : rl V1 V2 D1 D2 m1 m2 c1 c2) (o1 : V1 c1 = none) (o2 : V2 c2 = none) : ∀ {n1 n2 : List Nat}, nmR V1 V2 D1 D2 m1 m2 n1 n2 → nmIx n1 c1 = nmIx n2 c2 ∧ (c1 ∈ n1 ↔ c2 ∈ n2)
  | [], [], _ => ⟨rfl, by simp⟩
  | x :: l, y :: k, h => by
    obtain ⟨i1, i2⟩ := nm_ix ok1 ok2 h1 h2 hr o1 o2 h.2
    have e : x = c1 ↔ y = c2 := by
      constructor
      · intro e
        subst e
        exact rl_same ok2 h2 h1 (rl_swap h.1.1) (rl_swap hr) h.1.2.2 o2
      · intro e
        subst e
        exact rl_same ok1 h1 h2 h.1.1 hr h.1.2.1 o1
    refine ⟨?_, ?_⟩
    · simp only [nmIx]
      by_cases q : x = c1
      · rw [if_pos q, if_pos (e.mp q)]
      · rw [if_neg q, if_neg (fun z => q (e.mpr z)), i1]
    · simp only [List.mem_cons]
      rw [i2]
      constructor
      · rintro (q | q)
        · exact Or.inl (e.mp q.symm).symm
        · exact Or.inr q
      · rintro (q | q)
        · exact Or.inl (e.mpr q.symm).symm
        · exact Or.inr q
  | [], _ :: _, h => h.elim
  | _ :: _, [], h => h.elim
theorem nmR_app : ∀ {n1 n2 : List Nat} {c1 c2 : Nat}, nmR V1 V2 D1 D2 m1 m2 n1 n2 → rl V1 V2 D1 D2 m1 m2 c1 c2 → V1 c1 = none → V2 c2 = none → nmR V1 V2 D1 D2 m1 m2 (n1 ++ [c1]) (n2 ++ [c2])
  | [], [], c1, c2, _, hr, o1, o2 => ⟨⟨hr, o1, o2⟩, trivial⟩
  | x :: l, y :: k, c1, c2, h, hr, o1, o2 => ⟨h.1, nmR_app h.2 hr o1 o2⟩
  | [], _ :: _, _, _, h, _, _, _ => h.elim
  | _ :: _, [], _, _, h, _, _, _ => h.elim
theorem eCl_reach (he : eCl V1 K1 D1 E1) {c x : Nat} (hc : E1 c) (hr : reach V1 c x) : E1 x := hr E1 (fun c hc => ⟨(he c hc).2.1, (he c hc).2.2.1⟩) hc
theorem WRun_same (ok1 : vOK V1 D1 rk1) (ok2 : vOK V2 D2 rk2) (h1 : vKm V1 D1 m1 K) (h2 : vKm V2 D2 m2 K) (e1 : eCl V1 K1 D1 E1) (e2 : eCl V2 K2 D2 E2) : ∀ (f : Nat) (s1 s2 : List (Nat ⊕ Int32)) (n1 n2 : List Nat) (out r1 r2 : List Int32), stR V1 V2 D1 D2 E1 E2 m1 m2 s1 s2 → nmR V1 V2 D1 D2 m1 m2 n1 n2 → WRun V1 K1 D1 f s1 n1 out r1 → WRun V2 K2 D2 f s2 n2 out r2 → r1 = r2 := by
  intro f
  induction f with
  | zero =>
    intro s1 s2 n1 n2 out r1 r2 hs hn w1 w2
    match s1, s2, hs, w1, w2 with
    | [], [], _, w1, w2 => exact (show r1 = out.take 200 from w1).trans (show r2 = out.take 200 from w2).symm
    | .inr a :: l, .inr b :: k, _, w1, w2 => exact (show 200 ≤ out.length ∧ r1 = out.take 200 from w1).2.trans (show 200 ≤ out.length ∧ r2 = out.take 200 from w2).2.symm
    | .inl a :: l, .inl b :: k, _, w1, w2 => exact (show 200 ≤ out.length ∧ r1 = out.take 200 from w1).2.trans (show 200 ≤ out.length ∧ r2 = out.take 200 from w2).2.symm
  | succ f ih =>
    intro s1 s2 n1 n2 out r1 r2 hs hn w1 w2
    match s1, s2, hs, w1, w2 with
    | [], [], _, w1, w2 => exact (show r1 = out.take 200 from w1).trans (show r2 = out.take 200 from w2).symm
    | .inr a :: l, .inr b :: k, hs, w1, w2 =>
      obtain ⟨rfl, hs⟩ := hs
      rcases w1 with ⟨a1, a2⟩ | ⟨a1, a2⟩ <;> rcases w2 with ⟨b1, b2⟩ | ⟨b1, b2⟩
      · rw [a2, b2]
      · omega
      · omega
      · exact ih _ _ _ _ _ _ _ hs hn a2 b2
    | .inl a :: l, .inl b :: k, hs, w1, w2 =>
      obtain ⟨⟨hr, ea, eb⟩, hs⟩ := hs
      rcases w1 with ⟨a1, a2⟩ | ⟨a1, x, x1, x2, x3⟩ <;> rcases w2 with ⟨b1, b2⟩ | ⟨b1, y, y1, y2, y3⟩
      · rw [a2, b2]
      · omega
      · omega
      · have ex := eCl_reach e1 ea x1.2.2.1
        have ey := eCl_reach e2 eb y1.2.2.1
        have hxy : rl V1 V2 D1 D2 m1 m2 x y := fun t1 t2 p q e => by rw [← x1.1 t1 p, ← y1.1 t2 q]; exact hr t1 t2 p q e
        have k1 := (e1 x ex).2.2.2 x2
        have k2 := (e2 y ey).2.2.2 y2
        have dx := (e1 x ex).1
        have dy := (e2 y ey).1
        rw [k1] at x3
        rw [k2] at y3
        obtain ⟨t1, st1, _⟩ := vSol_ex ok1 (fun _ => 0)
        obtain ⟨t2, st2, ag⟩ := rl_12 h1 h2 st1
        have val := hxy t1 t2 st1 st2 ag
        rcases x3 with ⟨p1, p2⟩ | ⟨n, p1, p2⟩ | ⟨a', b', p1, p2⟩
        · have o2 := rl_open ok1 ok2 h1 h2 hxy dy p1 y2
          rcases y3 with ⟨q1, q2⟩ | ⟨m, q1, q2⟩ | ⟨_, _, q1, q2⟩
          · obtain ⟨i1, i2⟩ := nm_ix ok1 ok2 h1 h2 hxy p1 o2 hn
            rw [i1] at p2
            refine ih _ _ _ _ _ _ _ hs ?_ p2 q2
            unfold nmAdd
            by_cases hm : x ∈ n1
            · rw [if_pos hm, if_pos (i2.mp hm)]; exact hn
            · rw [if_neg hm, if_neg (fun z => hm (i2.mpr z))]; exact nmR_app hn hxy p1 o2
          · rw [o2] at q1; cases q1
          · rw [o2] at q1; cases q1
        · have v1 := (st1 x dx).2.1 n p1
          rcases y3 with ⟨q1, q2⟩ | ⟨m, q1, q2⟩ | ⟨a'', b'', q1, q2⟩
          · have o1 := rl_open ok2 ok1 h2 h1 (rl_swap hxy) dx q1 x2
            rw [o1] at p1; cases p1
          · have v2 := (st2 y dy).2.1 m q1
            obtain rfl : n = m := by omega
            exact ih _ _ _ _ _ _ _ hs hn p2 q2
          · have v2 := (st2 y dy).2.2 _ _ q1
            have := nd_big (t2 a'') (t2 b'')
            have hn12 := (ok1 x dx).2.1 n p1
            omega
        · rcases y3 with ⟨q1, q2⟩ | ⟨m, q1, q2⟩ | ⟨a'', b'', q1, q2⟩
          · have o1 := rl_open ok2 ok1 h2 h1 (rl_swap hxy) dx q1 x2
            rw [o1] at p1; cases p1
          · exfalso
            have v1 := (st1 x dx).2.2 _ _ p1
            have v2 := (st2 y dy).2.1 m q1
            have := nd_big (t1 a') (t1 b')
            have := (ok2 y dy).2.1 m q1
            omega
          · have c1 := (e1 x ex).2.2.1 _ _ p1
            have c2 := (e2 y ey).2.2.1 _ _ q1
            have ch : ∀ t1 t2, vSol V1 D1 t1 → vSol V2 D2 t2 → (∀ v, v < 64 → t1 (m1 v) = t2 (m2 v)) → t1 a' = t2 a'' ∧ t1 b' = t2 b'' := fun t1 t2 p q e => by
              have z := hxy t1 t2 p q e
              rw [(p x dx).2.2 _ _ p1, (q y dy).2.2 _ _ q1] at z
              exact nd_inj z
            refine ih _ _ _ _ _ _ _ ?_ hn p2 q2
            exact ⟨⟨fun t1 t2 p q e => (ch t1 t2 p q e).1, c1.1, c2.1⟩, rfl, ⟨fun t1 t2 p q e => (ch t1 t2 p q e).2, c1.2, c2.2⟩, rfl, hs⟩
end TX
