/-! BOTH between calls: every call of both ends, and leads on -/
theorem MI.cong {s t : rSg} (h : MI s) (e : ∀ q, 725 ≤ q → t q = s q) : MI t := by
  obtain ⟨T, G, L, hd, w, a, st, g, r1, r2, r3, r4, r5, r6, r7, r8⟩ := h
  obtain ⟨t1, x⟩ := r1.keep (t := t) (fun q hq => e q (by omega)) (fun j hj => by rw [e 725 (by omega)])
  refine ⟨T, G, L, hd, w, a, st, g, t1, by rw [e 749 (by decide)]; exact r2, r3, ⟨by rw [e 725 (by decide)]; exact r4.1, r4.2.1, ?_⟩, by rw [e 725 (by decide)]; exact r5, by rw [e 725 (by decide)]; exact r6, by rw [e 725 (by decide), e 753 (by decide)]; exact r7, by rw [e 725 (by decide), e 754 (by decide)]; exact r8⟩
  rw [nh_ext r1.1.2.2.2 (by have := r1.1.1; omega) x.2.1 r4.2.1]
  exact r4.2.2
/-- between calls -/
def LI (s : rSg) : Prop := clI s ∧ MI s ∧ ∃ n, n ≤ 96 ∧ s 687 1 = nI n ∧ s 725 39 = nI n ∧ ∀ i, i < n → s 688 i = s 752 i
def opU (s : rSg) (yx ym : Nat) (as : List rv) : Prop := EvS rSkel 18 yx (.inr (.inr (some 0)) :: as) s (fun v t => ∃ r : Int32, v = some (.inl r) ∧ EvS rSkel 18 ym (.inr (.inr (some 725)) :: as) t (fun v2 u => (∃ r2 : Int32, v2 = some (.inl r2)) ∧ LI u))
def opE (s : rSg) (yx ym : Nat) (as : List rv) : Prop := EvS rSkel 18 yx (.inr (.inr (some 0)) :: as) s (fun v t => ∃ r : Int32, v = some (.inl r) ∧ EvS rSkel 18 ym (.inr (.inr (some 725)) :: as) t (fun v2 u => v2 = some (.inl r) ∧ LI u))
def opUL (s : rSg) (yx ym : Nat) (as : List rv) : Prop := EvS rSkel 18 yx (.inr (.inr (some 0)) :: as) s (fun v t => ∃ r : Int64, v = some (.inr (.inl r)) ∧ EvS rSkel 18 ym (.inr (.inr (some 725)) :: as) t (fun v2 u => (∃ r2 : Int64, v2 = some (.inr (.inl r2))) ∧ LI u))
theorem opE.u {s : rSg} {yx ym : Nat} {as : List rv} (h : opE s yx ym as) : opU s yx ym as := EvS.imp h (fun v t q => by
  obtain ⟨r, e, k⟩ := q
  exact ⟨r, e, k.imp (fun v2 u z => ⟨⟨r, z.1⟩, z.2⟩)⟩)
theorem clI.cong {s t : rSg} (h : clI s) (e : mC s t) : clI t := ⟨h.1.ext (e 6 (by decide)), h.2.1.ext (e 230 (by decide)), h.2.2.ext (e 454 (by decide))⟩
/-- the class's part done, the reference's behind it -/
theorem LI.cls {s t : rSg} {D : Nat} (h : LI s) (c : CR D s t) : LI t := by
  obtain ⟨h1, h2, n, n1, n2, n3, n4⟩ := h
  exact ⟨c.2.2, h2.cong (fun q hq => c.1 q (by omega)), n, n1, by rw [c.1 687 (by omega)]; exact n2, by rw [c.1 725 (by omega)]; exact n3, fun i hi => by rw [c.1 688 (by omega), c.1 752 (by omega)]; exact n4 i hi⟩
theorem LI.ref {t u : rSg} (h : LI t) (a : aft t u) : LI u := by
  obtain ⟨h1, h2, n, n1, n2, n3, n4⟩ := h
  exact ⟨h1.cong a.2.1, a.1, n, n1, by rw [a.2.1 687 (by decide)]; exact n2, by rw [a.2.2.2]; exact n3, fun i hi => by rw [a.2.1 688 (by decide), a.2.2.1]; exact n4 i hi⟩
theorem op_of {s : rSg} (h : LI s) {yx ym d1 d2 D : Nat} {as : List rv} (c : EvS rSkel d1 yx (.inr (.inr (some 0)) :: as) s (okI D s)) (m : ∀ t, MI t → EvS rSkel d2 ym (.inr (.inr (some 725)) :: as) t (fun v u => iRet v ∧ aft t u)) (e1 : d1 ≤ 18) (e2 : d2 ≤ 18) : opU s yx ym as := (c.up e1).imp (fun v t q => by
  obtain ⟨r, e, k⟩ := q
  have ht := h.cls k
  exact ⟨r, e, ((m t ht.2.1).up e2).imp (fun v2 u z => ⟨z.1, ht.ref z.2⟩)⟩)
theorem op_letter {s : rSg} (h : LI s) (x : Int32) : opE s 71 126 [.inl x] := by
  obtain ⟨h1, h2, n, n1, n2, n3, n4⟩ := h
  refine ((c_letter h1 n2 n1 x).up (by decide)).imp ?_
  rintro _ t ⟨rfl, t1, t2, _, t4, t5, t6⟩
  refine ⟨_, rfl, ((m_letter (h2.cong t1) (n := n) (by rw [t1 725 (by decide)]; exact n3) n1 x).up (by decide)).imp ?_⟩
  rintro _ u ⟨rfl, u1, u2, u3, u4, u5⟩
  have hl : ltN n x = n ∨ (ltN n x = n + 1 ∧ n < 96) := by
    unfold ltN
    split
    · next q => exact Or.inr ⟨rfl, q.2.2⟩
    · exact Or.inl rfl
  refine ⟨rfl, t4.cong u2, u1, ltN n x, by omega, by rw [u2 687 (by decide)]; exact t2, u3, fun i hi => ?_⟩
  rw [u2 688 (by decide)]
  by_cases q : i < n
  · rw [t5 i q, u4 i q, t1 752 (by decide)]
    exact n4 i q
  · obtain rfl : i = n := by omega
    rw [t6 (by omega), u5 (by omega)]
theorem op_goal {s : rSg} (h : LI s) : opE s 73 129 [] := by
  obtain ⟨h1, h2, n, n1, n2, n3, n4⟩ := h
  refine ((c_goal h1 n1 n2).up (by decide)).imp ?_
  rintro v t ⟨⟨r, hR, ho⟩, t1, t2, _, t4⟩
  obtain ⟨x, rfl⟩ := cOut_int ho
  refine ⟨x, rfl, ((mi_goal (h2.cong t1) (n := n) (by rw [t1 725 (by decide)]; exact n3) n1).up (by decide)).imp ?_⟩
  rintro w u ⟨⟨r2, hR2, ho2⟩, u1, u2, u3⟩
  rw [t1 752 (by decide)] at hR2
  have hR3 := RRun_congr (fun i hi => n4 i hi) n 0 _ _ (by omega) hR2
  obtain rfl := RRun_det n 0 _ _ _ hR hR3
  exact ⟨cOut_det ho2 ho, t4.cong u2, u1, 0, by decide, by rw [u2 687 (by decide)]; exact t2, u3, fun i hi => by omega⟩
theorem op_share {s : rSg} (h : LI s) (x : Int32) : opUL s 100 191 [.inl x] := ((s_100 h.1 x).up (by decide)).imp (fun v t q => by
  obtain ⟨r, e, k⟩ := q
  have ht := h.cls k
  exact ⟨r, e, ((mi_share ht.2.1 x).up (by decide)).imp (fun v2 u z => ⟨z.1, ht.ref z.2⟩)⟩)
theorem op_lots {s : rSg} (h : LI s) (x y z : Int32) : opU s 107 200 [.inl x, .inl y, .inl z] := op_of h (s_107 h.1 x y z) (fun t ht => (mi_lots ht x y z).imp (fun v u q => ⟨⟨_, q.1⟩, q.2⟩)) (by decide) (by decide)
theorem op_steps {s : rSg} (h : LI s) (x : Int32) : opU s 75 161 [.inl x] := op_of h (s_75 h.1 x) (fun t ht => mi_steps ht x) (by decide) (by decide)
theorem op_answers {s : rSg} (h : LI s) : opU s 79 162 [] := op_of h (s_79 h.1) (fun t ht => mi_answers ht) (by decide) (by decide)
theorem op_length {s : rSg} (h : LI s) (x y : Int32) : opU s 80 163 [.inl x, .inl y] := op_of h (s_80 h.1 x y) (fun t ht => mi_length ht x y) (by decide) (by decide)
theorem op_text {s : rSg} (h : LI s) (x y z : Int32) : opU s 83 172 [.inl x, .inl y, .inl z] := op_of h (s_83 h.1 x y z) (fun t ht => mi_text ht x y z) (by decide) (by decide)
theorem op_when {s : rSg} (h : LI s) (x : Int32) : opU s 84 173 [.inl x] := op_of h (s_84 h.1 x) (fun t ht => mi_when ht x) (by decide) (by decide)
theorem op_kept {s : rSg} (h : LI s) (x : Int32) : opU s 85 174 [.inl x] := op_of h (s_85 h.1 x) (fun t ht => mi_kept ht x) (by decide) (by decide)
theorem op_queue {s : rSg} (h : LI s) (x : Int32) : opU s 86 175 [.inl x] := op_of h (s_86 h.1 x) (fun t ht => mi_queue ht x) (by decide) (by decide)
theorem op_done {s : rSg} (h : LI s) : opU s 87 176 [] := op_of h (s_87 h.1) (fun t ht => mi_done ht) (by decide) (by decide)
theorem op_different {s : rSg} (h : LI s) (x : Int32) : opU s 88 177 [.inl x] := op_of h (s_88 h.1 x) (fun t ht => mi_different ht x) (by decide) (by decide)
theorem op_earliest {s : rSg} (h : LI s) (x y : Int32) : opU s 92 180 [.inl x, .inl y] := op_of h (s_92 h.1 x y) (fun t ht => mi_earliest ht x y) (by decide) (by decide)
theorem op_meet {s : rSg} (h : LI s) (x y : Int32) : opU s 93 181 [.inl x, .inl y] := op_of h (s_93 h.1 x y) (fun t ht => mi_meet ht x y) (by decide) (by decide)
theorem op_need {s : rSg} (h : LI s) (x : Int32) : opU s 95 182 [.inl x] := op_of h (s_95 h.1 x) (fun t ht => mi_need ht x) (by decide) (by decide)
theorem op_left {s : rSg} (h : LI s) (x y : Int32) : opU s 96 185 [.inl x, .inl y] := op_of h (s_96 h.1 x y) (fun t ht => mi_left ht x y) (by decide) (by decide)
theorem op_least {s : rSg} (h : LI s) (x : Int32) : opU s 98 189 [.inl x] := op_of h (s_98 h.1 x) (fun t ht => mi_least ht x) (by decide) (by decide)
theorem op_turned {s : rSg} (h : LI s) (x : Int32) : opU s 99 190 [.inl x] := op_of h (s_99 h.1 x) (fun t ht => mi_turned ht x) (by decide) (by decide)
theorem op_which {s : rSg} (h : LI s) (x : Int32) : opU s 102 194 [.inl x] := op_of h (s_102 h.1 x) (fun t ht => mi_which ht x) (by decide) (by decide)
theorem op_row {s : rSg} (h : LI s) (x : Int32) : opU s 104 197 [.inl x] := op_of h (s_104 h.1 x) (fun t ht => mi_row ht x) (by decide) (by decide)
theorem op_judge {s : rSg} (h : LI s) (x : Int32) : opU s 105 198 [.inl x] := op_of h (s_105 h.1 x) (fun t ht => mi_judge ht x) (by decide) (by decide)
theorem op_clear {s : rSg} (h : LI s) : opU s 106 199 [] := op_of h (s_106 h.1) (fun t ht => mi_clear ht) (by decide) (by decide)
theorem op_image {s : rSg} (h : LI s) : opU s 110 135 [] := op_of h (s_110 h.1) (fun t ht => mi_image ht) (by decide) (by decide)
theorem op_on {s : rSg} (h : LI s) : opU s 111 136 [] := op_of h (s_111 h.1) (fun t ht => mi_on ht) (by decide) (by decide)
theorem op_count {s : rSg} (h : LI s) (x : Int32) : opU s 112 206 [.inl x] := op_of h (s_112 h.1 x) (fun t ht => mi_count ht x) (by decide) (by decide)
theorem clI_new {s : rSg} (h : clF s) : clI s := by
  obtain ⟨a, b, c, _⟩ := h
  exact ⟨⟨0, 1, 0, a.2.2.2.2.2.1, by decide, a.2.2.2.2.2.2.1, by decide, a.2.2.2.2.2.2.2.2.1, by decide⟩, ⟨0, 1, 0, b.2.2.2.2.2.1, by decide, b.2.2.2.2.2.2.1, by decide, b.2.2.2.2.2.2.2.2.1, by decide⟩, ⟨0, 1, 0, c.2.2.2.2.2.1, by decide, c.2.2.2.2.2.2.1, by decide, c.2.2.2.2.2.2.2.2.1, by decide⟩⟩
theorem LI_new {s : rSg} (h : clF s) (m : mdF s) : LI s := ⟨clI_new h, MI_new m, 0, by decide, h.2.2.2.2.2.1, m.2.1, fun i hi => by omega⟩
