/-! LOCALS: fewer of them, or in another order, are as good -/
def Lsub (L L2 : List (Nat × rv)) : Prop := ∀ i v, rGet L i = some v → rGet L2 i = some v
def Lnd (L : List (Nat × rv)) : Prop := (L.map (fun q => q.1)).Nodup
theorem Lnd_of {L : List (Nat × rv)} (h : (L.map (fun q => q.1)).Nodup) : Lnd L := h
theorem Lnd_keys {L : List (Nat × rv)} {ks : List Nat} (h : L.map (fun q => q.1) = ks) (h2 : ks.Nodup) : Lnd L := by
  unfold Lnd
  rw [h]
  exact h2
theorem Lsub_nil {L2 : List (Nat × rv)} : Lsub [] L2 := fun i v h => by cases h
theorem Lsub_cons {i : Nat} {v : rv} {L L2 : List (Nat × rv)} (h : rGet L2 i = some v) (h2 : Lsub L L2) : Lsub ((i, v) :: L) L2 := by
  intro j w hj
  unfold rGet at hj
  rw [List.find?_cons] at hj
  by_cases hij : i = j
  · subst hij
    simp at hj
    subst hj
    exact h
  · have : ((i, v).1 == j) = false := by simpa using hij
    simp only [this] at hj
    exact h2 j w hj
theorem Lsub.rfl' {L : List (Nat × rv)} : Lsub L L := fun _ _ h => h
theorem rGet_filter {p : Nat × rv → Bool} : ∀ {L : List (Nat × rv)} {i : Nat} {v : rv}, rGet L i = some v → p (i, v) = true → rGet (L.filter p) i = some v
  | [], i, v, h, _ => by cases h
  | q :: t, i, v, h, hp => by
    unfold rGet at h
    rw [List.find?_cons] at h
    by_cases hq : q.1 = i
    · have e : (q.1 == i) = true := by simpa using hq
      simp only [e, Option.map_some] at h
      have : q = (i, v) := by
        cases q
        simp at hq h
        subst hq
        rw [h]
      subst this
      rw [List.filter_cons_of_pos hp]
      unfold rGet
      rw [List.find?_cons]
      simp
    · have e : (q.1 == i) = false := by simpa using hq
      simp only [e] at h
      have := rGet_filter (p := p) (L := t) h hp
      by_cases hpq : p q = true
      · rw [List.filter_cons_of_pos hpq]
        unfold rGet at this ⊢
        rw [List.find?_cons]
        simp only [e]
        exact this
      · rw [List.filter_cons_of_neg hpq]
        exact this
theorem rGet_mem : ∀ {L : List (Nat × rv)} {i : Nat} {v : rv}, rGet L i = some v → (i, v) ∈ L
  | [], i, v, h => by cases h
  | q :: t, i, v, h => by
    unfold rGet at h
    rw [List.find?_cons] at h
    by_cases hq : q.1 = i
    · have e : (q.1 == i) = true := by simpa using hq
      simp only [e, Option.map_some] at h
      cases q
      simp at hq h
      subst hq
      rw [h]
      exact List.mem_cons_self
    · have e : (q.1 == i) = false := by simpa using hq
      simp only [e] at h
      exact List.mem_cons_of_mem _ (rGet_mem h)
theorem rGet_of_mem : ∀ {L : List (Nat × rv)} {i : Nat} {v : rv}, Lnd L → (i, v) ∈ L → rGet L i = some v
  | q :: t, i, v, hn, h => by
    unfold rGet
    rw [List.find?_cons]
    rcases List.mem_cons.mp h with rfl | h
    · simp
    · have hn2 := List.nodup_cons.mp hn
      have hne : q.1 ≠ i := fun e => hn2.1 (List.mem_map.mpr ⟨_, h, e.symm⟩)
      have e : (q.1 == i) = false := by simpa using hne
      simp only [e]
      exact rGet_of_mem hn2.2 h
theorem Lnd.cons_filter {L : List (Nat × rv)} (h : Lnd L) (i : Nat) (v : rv) (p : Nat × rv → Bool) (hp : ∀ q, p q = true → q.1 ≠ i) : Lnd ((i, v) :: L.filter p) := by
  unfold Lnd at h ⊢
  rw [List.map_cons, List.nodup_cons]
  refine ⟨fun q => ?_, h.sublist (List.Sublist.map _ List.filter_sublist)⟩
  obtain ⟨w, hw, e⟩ := List.mem_map.mp q
  exact hp w (List.mem_filter.mp hw).2 e
theorem Lsub.cons_filter {L L2 : List (Nat × rv)} (hn : Lnd L) (h : Lsub L L2) (i : Nat) (v : rv) (p : Nat × rv → Bool) : Lsub ((i, v) :: L.filter p) ((i, v) :: L2.filter p) := by
  intro j w hj
  unfold rGet at hj ⊢
  rw [List.find?_cons] at hj ⊢
  by_cases hij : i = j
  · subst hij
    simp at hj ⊢
    exact hj
  · have e : ((i, v).1 == j) = false := by simpa using hij
    simp only [e] at hj ⊢
    have hm := List.mem_filter.mp (rGet_mem hj)
    exact rGet_filter (h j w (rGet_of_mem hn hm.1)) hm.2
theorem Lset1 {L L2 : List (Nat × rv)} (hn : Lnd L) (h : Lsub L L2) (i : Nat) (v : rv) : Lnd (rSet1 L i v) ∧ Lsub (rSet1 L i v) (rSet1 L2 i v) := ⟨hn.cons_filter i v _ (fun q hq e => by simp [e] at hq), h.cons_filter hn i v _⟩
theorem Lset2 {L L2 : List (Nat × rv)} (hn : Lnd L) (h : Lsub L L2) (i : Nat) (v : rv) : Lnd (rSet2 L i v) ∧ Lsub (rSet2 L i v) (rSet2 L2 i v) := ⟨hn.cons_filter i v _ (fun q hq e => by simp [e] at hq), h.cons_filter hn i v _⟩
/-- what an instruction gives does not look at other locals -/
def oSub : rOut → rOut → Prop
  | .inl (pc, L, S, M, c, z), o => ∃ L2, o = .inl (pc, L2, S, M, c, z) ∧ Lnd L ∧ Lsub L L2
  | o1, o => o = o1
theorem oSub.nx {pc : Nat} {L L2 : List (Nat × rv)} {S : List rv} {M : List rEnt} {o : rOut} (hn : Lnd L) (h : Lsub L L2) (e : rNx pc L S M = some o) : ∃ o2, rNx pc L2 S M = some o2 ∧ oSub o o2 := by
  unfold rNx at e ⊢
  cases e
  exact ⟨_, rfl, L2, rfl, hn, h⟩
def rLoc : Instr → Bool
  | .iload_n _ => true
  | .iload _ => true
  | .lload_n _ => true
  | .lload _ => true
  | .aload_n _ => true
  | .aload _ => true
  | .istore_n _ => true
  | .istore _ => true
  | .lstore_n _ => true
  | .lstore _ => true
  | .astore_n _ => true
  | .astore _ => true
  | .iinc _ _ => true
  | _ => false
section SUB
variable {L L2 : List (Nat × rv)}
theorem sub_jump (hn : Lnd L) (hs : Lsub L L2) {pc : Nat} {off : Int} {S : List rv} {M : List rEnt} {o : rOut} (h : rJump pc off L S M = some o) : ∃ o2, rJump pc off L2 S M = some o2 ∧ oSub o o2 := by
  unfold rJump at h ⊢
  cases hx : rTg pc off with
  | none => rw [hx] at h; cases h
  | some t => rw [hx] at h; exact oSub.nx hn hs h
theorem sub_if (hn : Lnd L) (hs : Lsub L L2) {b : Bool} {pc : Nat} {off : Int} {S : List rv} {M : List rEnt} {o : rOut} (h : rIf b pc off L S M = some o) : ∃ o2, rIf b pc off L2 S M = some o2 ∧ oSub o o2 := by
  unfold rIf at h ⊢
  cases hx : rTg pc off with
  | none => rw [hx] at h; cases h
  | some t => rw [hx] at h; exact oSub.nx hn hs h
theorem sub_li (hn : Lnd L) (hs : Lsub L L2) {i pc : Nat} {S : List rv} {M : List rEnt} {o : rOut} (h : rLoadI L i pc S M = some o) : ∃ o2, rLoadI L2 i pc S M = some o2 ∧ oSub o o2 := by
  unfold rLoadI at h ⊢
  split at h
  · next x hx => rw [hs _ _ hx]; exact oSub.nx hn hs h
  · cases h
theorem sub_ll (hn : Lnd L) (hs : Lsub L L2) {i pc : Nat} {S : List rv} {M : List rEnt} {o : rOut} (h : rLoadL L i pc S M = some o) : ∃ o2, rLoadL L2 i pc S M = some o2 ∧ oSub o o2 := by
  unfold rLoadL at h ⊢
  split at h
  · next x hx => rw [hs _ _ hx]; exact oSub.nx hn hs h
  · cases h
theorem sub_la (hn : Lnd L) (hs : Lsub L L2) {i pc : Nat} {S : List rv} {M : List rEnt} {o : rOut} (h : rLoadA L i pc S M = some o) : ∃ o2, rLoadA L2 i pc S M = some o2 ∧ oSub o o2 := by
  unfold rLoadA at h ⊢
  split at h
  · next x hx => rw [hs _ _ hx]; exact oSub.nx hn hs h
  · cases h
theorem sub_si (hn : Lnd L) (hs : Lsub L L2) {nL i pc : Nat} {S : List rv} {M : List rEnt} {o : rOut} (h : rStoreI nL L i pc S M = some o) : ∃ o2, rStoreI nL L2 i pc S M = some o2 ∧ oSub o o2 := by
  unfold rStoreI at h ⊢
  split at h
  · next x r =>
    split at h
    · next hi => simp only [hi, if_true]; exact oSub.nx (Lset1 hn hs _ _).1 (Lset1 hn hs _ _).2 h
    · cases h
  · cases h
theorem sub_sl (hn : Lnd L) (hs : Lsub L L2) {nL i pc : Nat} {S : List rv} {M : List rEnt} {o : rOut} (h : rStoreL nL L i pc S M = some o) : ∃ o2, rStoreL nL L2 i pc S M = some o2 ∧ oSub o o2 := by
  unfold rStoreL at h ⊢
  split at h
  · next x r =>
    split at h
    · next hi => simp only [hi, if_true]; exact oSub.nx (Lset2 hn hs _ _).1 (Lset2 hn hs _ _).2 h
    · cases h
  · cases h
theorem sub_sa (hn : Lnd L) (hs : Lsub L L2) {nL i pc : Nat} {S : List rv} {M : List rEnt} {o : rOut} (h : rStoreA nL L i pc S M = some o) : ∃ o2, rStoreA nL L2 i pc S M = some o2 ∧ oSub o o2 := by
  unfold rStoreA at h ⊢
  split at h
  · next x r =>
    split at h
    · next hi => simp only [hi, if_true]; exact oSub.nx (Lset1 hn hs _ _).1 (Lset1 hn hs _ _).2 h
    · cases h
  · cases h
/-- an outcome with other locals -/
theorem sub_any {f : List (Nat × rv) → Option rOut} (hf : ∀ A B, (∃ pc S M c z, f A = some (.inl (pc, A, S, M, c, z)) ∧ f B = some (.inl (pc, B, S, M, c, z))) ∨ (∃ q, f A = some (.inr q) ∧ f B = some (.inr q)) ∨ (f A = none)) {L L2 : List (Nat × rv)} (hn : Lnd L) (hs : Lsub L L2) {o : rOut} (h : f L = some o) : ∃ o2, f L2 = some o2 ∧ oSub o o2 := by
  rcases hf L L2 with ⟨pc, S, M, c, z, h1, h2⟩ | ⟨q, h1, h2⟩ | h1
  · rw [h1] at h
    cases h
    exact ⟨_, h2, L2, rfl, hn, hs⟩
  · rw [h1] at h
    cases h
    exact ⟨_, h2, rfl⟩
  · rw [h1] at h
    cases h
theorem rIns_par {G : rTab} {own nL : Nat} {ret : Option FieldType} {ini : Bool} {pc : Nat} {S : List rv} {M : List rEnt} (i : Instr) (hi : rLoc i = false) (A B : List (Nat × rv)) : (∃ pc2 S2 M2 c z, rIns G own nL ret ini pc A S M i = some (.inl (pc2, A, S2, M2, c, z)) ∧ rIns G own nL ret ini pc B S M i = some (.inl (pc2, B, S2, M2, c, z))) ∨ (∃ q, rIns G own nL ret ini pc A S M i = some (.inr q) ∧ rIns G own nL ret ini pc B S M i = some (.inr q)) ∨ (rIns G own nL ret ini pc A S M i = none) := by
  cases i
  case newarray t =>
    cases t
    all_goals first
      | exact Or.inr (Or.inr rfl)
      | (simp only [rIns, rBin, rBin0, rBinL, rBinL0, rJump, rIf, rCallOf, rNx]
         repeat' split
         all_goals first
           | exact Or.inr (Or.inr rfl)
           | exact Or.inl ⟨_, _, _, _, _, rfl, rfl⟩
           | exact Or.inr (Or.inl ⟨_, rfl, rfl⟩))
  case multianewarray i n =>
    rcases n with _ | _ | _ | n
    all_goals first
      | exact Or.inr (Or.inr rfl)
      | (simp only [rIns, rBin, rBin0, rBinL, rBinL0, rJump, rIf, rCallOf, rNx]
         repeat' split
         all_goals first
           | exact Or.inr (Or.inr rfl)
           | exact Or.inl ⟨_, _, _, _, _, rfl, rfl⟩
           | exact Or.inr (Or.inl ⟨_, rfl, rfl⟩))
  all_goals first
    | (cases hi; done)
    | exact Or.inr (Or.inr rfl)
    | exact Or.inl ⟨_, _, _, _, _, rfl, rfl⟩
    | (simp only [rIns, rBin, rBin0, rBinL, rBinL0, rJump, rIf, rCallOf, rNx]
       repeat' split
       all_goals first
         | exact Or.inr (Or.inr rfl)
         | exact Or.inl ⟨_, _, _, _, _, rfl, rfl⟩
         | exact Or.inr (Or.inl ⟨_, rfl, rfl⟩))
theorem rIns_sub (hn : Lnd L) (hs : Lsub L L2) {G : rTab} {own nL : Nat} {ret : Option FieldType} {ini : Bool} {pc : Nat} {S : List rv} {M : List rEnt} {o : rOut} (i : Instr) (h : rIns G own nL ret ini pc L S M i = some o) : ∃ o2, rIns G own nL ret ini pc L2 S M i = some o2 ∧ oSub o o2 := by
  by_cases hi : rLoc i = false
  · exact sub_any (f := fun L => rIns G own nL ret ini pc L S M i) (fun A B => rIns_par i hi A B) hn hs h
  cases i
  case iload_n k => exact sub_li hn hs h
  case iload k => exact sub_li hn hs h
  case lload_n k => exact sub_ll hn hs h
  case lload k => exact sub_ll hn hs h
  case aload_n k => exact sub_la hn hs h
  case aload k => exact sub_la hn hs h
  case istore_n k => exact sub_si hn hs h
  case istore k => exact sub_si hn hs h
  case lstore_n k => exact sub_sl hn hs h
  case lstore k => exact sub_sl hn hs h
  case astore_n k => exact sub_sa hn hs h
  case astore k => exact sub_sa hn hs h
  case iinc k n =>
    simp only [rIns] at h ⊢
    split at h
    · next x hx =>
      rw [hs _ _ hx]
      simp only
      split at h
      · next hi => simp only [hi, if_true]; exact oSub.nx (Lset1 hn hs _ _).1 (Lset1 hn hs _ _).2 h
      · cases h
    · cases h
  all_goals exact absurd rfl hi
end SUB
theorem rB_sub {G : rTab} {call : Nat → List rv → List rEnt → Option rRes} {own nL : Nat} {ret : Option FieldType} {ini : Bool} {cc : ByteArray} : ∀ (n pc : Nat) (L L2 : List (Nat × rv)) (S : List rv) (M : List rEnt) (c z : Nat) (R : rRes), Lnd L → Lsub L L2 → rB G call own nL ret ini cc n pc L S M c z = some R → rB G call own nL ret ini cc n pc L2 S M c z = some R := by
  intro n
  induction n with
  | zero => intro pc L L2 S M c z R hn hs h; cases h
  | succ n ih =>
    intro pc L L2 S M c z R hn hs h
    have key : ∀ o, rStep G own nL ret ini cc pc L S M = some o → ∃ o2, rStep G own nL ret ini cc pc L2 S M = some o2 ∧ oSub o o2 := by
      intro o ho
      unfold rStep at ho ⊢
      split at ho
      · next i k hd =>
        split at ho
        · next hl =>
          simp only [hl, if_true]
          exact rIns_sub hn hs i ho
        · cases ho
      · cases ho
    simp only [rB] at h ⊢
    split at h
    · next pc2 L3 S2 M2 dc dz e =>
      obtain ⟨o2, h1, L4, rfl, h2, h3⟩ := key _ e
      rw [h1]
      exact ih _ _ _ _ _ _ _ _ h2 h3 h
    · next r e =>
      obtain ⟨o2, h1, h2⟩ := key _ e
      cases h2
      rw [h1]
      exact h
    · next y as r e =>
      obtain ⟨o2, h1, h2⟩ := key _ e
      cases h2
      rw [h1]
      simp only
      split at h
      · next v M2 uc uz hc =>
        exact ih _ _ _ _ _ _ _ _ hn hs h
      · cases h
    · cases h
theorem GoS.sub {Sk : List rSk} {d own nL : Nat} {ret : Option FieldType} {ini : Bool} {cc : ByteArray} {pc : Nat} {L L2 : List (Nat × rv)} {S : List rv} {sg : rSg} {P : Option rv → rSg → Prop} (hn : Lnd L) (hs : Lsub L L2) (h : GoS Sk d own nL ret ini cc pc L S sg P) : GoS Sk d own nL ret ini cc pc L2 S sg P := by
  obtain ⟨v, s2, ⟨k, h1⟩, h2⟩ := h
  exact ⟨v, s2, ⟨k, fun n f hn2 hf => rB_sub _ _ _ _ _ _ _ _ _ hn hs (h1 n f hn2 hf)⟩, h2⟩
/-! what the parts of the shape are -/
def isSt (k : Nat) : Prop := 5 < k ∧ rSkel[k]? = some (.inr (.inr (5, [some (some (k + 1)), some (some (k + 2)), none, none, none]))) ∧ rSkel[k + 1]? = some (.inl 64) ∧ rSkel[k + 2]? = some (.inl 32)
def isScr (s : Nat) : Prop := 5 < s ∧ rSkel[s]? = some (.inr (.inr (3, [some (some (s + 1)), some (some (s + 2)), some (some (s + 3)), none, none, none, none, none, none]))) ∧ rSkel[s + 1]? = some (.inl 326) ∧ rSkel[s + 2]? = some (.inl 978) ∧ rSkel[s + 3]? = some (.inl 1280)
def isSea (b : Nat) : Prop := 5 < b ∧ rSkel[b]? = some (.inr (.inr (4, [some (some (b + 1)), some (some 1), some (some (b + 5)), some (some (b + 126)), some (some (b + 217)), some (some (b + 218)), some (some (b + 221)), none, none, none, none, none, none]))) ∧ rSkel[b + 5]? = some (.inr (.inl (1, 40, fun i => if i < 40 then some (b + 6 + 3 * i) else none))) ∧ rSkel[b + 126]? = some (.inr (.inl (1, 30, fun i => if i < 30 then some (b + 127 + 3 * i) else none))) ∧ rSkel[b + 217]? = some (.inl 30) ∧ isScr (b + 1) ∧ isSt (b + 218) ∧ isSt (b + 221)
def isRow (r n : Nat) : Prop := 5 < r ∧ rSkel[r]? = some (.inr (.inr (2, [some (some (r + 1)), none]))) ∧ rSkel[r + 1]? = some (.inl n)
def isArr (k n : Nat) : Prop := 5 < k ∧ rSkel[k]? = some (.inl n)
abbrev iush (x y : Int32) : Int32 := (x.toUInt32 >>> (y.toUInt32 &&& Int32.toUInt32 31)).toInt32
abbrev irem (x y : Int32) : Int32 := x - x / y * y
abbrev imax (x y : Int32) : Int32 := if x < y then y else x
abbrev imin (x y : Int32) : Int32 := if y < x then y else x
theorem rRetB {G : rTab} {own nL pc : Nat} {ini : Bool} {L : List (Nat × rv)} {M : List rEnt} {x : Int32} (h : rBool x = true) : rIns G own nL (some .boolean) ini pc L [.inl x] M .ireturn = some (.inr (.inl (some (.inl x)))) := by
  simp only [rIns]
  rw [if_pos (show rRet (some .boolean) (.inl x) = true from h)]
theorem i32_ne {x k : Int32} (h : ¬ x = k) {c : Int} (hc : k.toInt = c) : x.toInt ≠ c := fun q => h (Int32.toInt_inj.mp (q.trans hc.symm))
theorem swT_out {G : rTab} {own nL pc t : Nat} {ret : Option FieldType} {ini : Bool} {L : List (Nat × rv)} {r : List rv} {M : List rEnt} {x : Int32} {df lo hi : Int} {offs : Array Int} (h : x.toInt < lo ∨ hi < x.toInt) (ht : rTg pc df = some t) : rIns G own nL ret ini pc L (.inl x :: r) M (.tableswitch df lo hi offs) = some (.inl (t, L, r, M, 0, 0)) := by
  simp only [rIns]
  rw [if_pos h]
  unfold rJump
  rw [ht]
  rfl
theorem swL_out {G : rTab} {own nL pc t : Nat} {ret : Option FieldType} {ini : Bool} {L : List (Nat × rv)} {r : List rv} {M : List rEnt} {x : Int32} {df : Int} {ps : Array (Int × Int)} (h1 : (ps.toList.zip (ps.toList.drop 1)).all (fun (a, next) => a.1 < next.1) = true) (h2 : Op.lookupswitch.offset ps.toList df x.toInt = df) (ht : rTg pc df = some t) : rIns G own nL ret ini pc L (.inl x :: r) M (.lookupswitch df ps) = some (.inl (t, L, r, M, 0, 0)) := by
  simp only [rIns]
  rw [if_pos h1, h2]
  unfold rJump
  rw [ht]
  rfl
theorem rIns_idiv {G : rTab} {own nL pc : Nat} {ret : Option FieldType} {ini : Bool} {L : List (Nat × rv)} {r : List rv} {M : List rEnt} {x y : Int32} (h : ¬ y = 0) : rIns G own nL ret ini pc L (.inl y :: .inl x :: r) M .idiv = some (.inl (pc + 1, L, .inl (x / y) :: r, M, 0, 0)) := by
  simp only [rIns, rBin0]
  rw [if_neg h]
  rfl
theorem rIns_irem {G : rTab} {own nL pc : Nat} {ret : Option FieldType} {ini : Bool} {L : List (Nat × rv)} {r : List rv} {M : List rEnt} {x y : Int32} (h : ¬ y = 0) : rIns G own nL ret ini pc L (.inl y :: .inl x :: r) M .irem = some (.inl (pc + 1, L, .inl (irem x y) :: r, M, 0, 0)) := by
  simp only [rIns, rBin0]
  rw [if_neg h]
  rfl
theorem rIns_ldiv {G : rTab} {own nL pc : Nat} {ret : Option FieldType} {ini : Bool} {L : List (Nat × rv)} {r : List rv} {M : List rEnt} {x y : Int64} (h : ¬ y = 0) : rIns G own nL ret ini pc L (.inr (.inl y) :: .inr (.inl x) :: r) M .ldiv = some (.inl (pc + 1, L, .inr (.inl (x / y)) :: r, M, 0, 0)) := by
  simp only [rIns, rBinL0]
  rw [if_neg h]
  rfl
theorem rIns_lrem {G : rTab} {own nL pc : Nat} {ret : Option FieldType} {ini : Bool} {L : List (Nat × rv)} {r : List rv} {M : List rEnt} {x y : Int64} (h : ¬ y = 0) : rIns G own nL ret ini pc L (.inr (.inl y) :: .inr (.inl x) :: r) M .lrem = some (.inl (pc + 1, L, .inr (.inl (x - x / y * y)) :: r, M, 0, 0)) := by
  simp only [rIns, rBinL0]
  rw [if_neg h]
  rfl
theorem gsAaldN {Sk : List rSk} {d own nL : Nat} {ret : Option FieldType} {ini : Bool} {cc : ByteArray} {pc : Nat} {L : List (Nat × rv)} {sg : rSg} {P : Option rv → rSg → Prop} {k n : Nat} {x : Int32} {f : Nat → Option Nat} {r : List rv} (q : Nat) (hd : decode cc pc = .ok (.aaload, 1)) (hk : Sk[k]? = some (.inr (.inl (1, n, f)))) (hin : rIn x n = true) (hq : f x.toNatClampNeg = some q) (kk : GoS Sk d own nL ret ini cc (pc + 1) L (.inr (.inr (some q)) :: r) sg P) : GoS Sk d own nL ret ini cc pc L (.inl x :: .inr (.inr (some k)) :: r) sg P := by
  refine gsAald hd hk hin ?_
  rw [hq]
  exact kk
theorem gsAaldN2 {Sk : List rSk} {d own nL : Nat} {ret : Option FieldType} {ini : Bool} {cc : ByteArray} {pc : Nat} {L : List (Nat × rv)} {sg : rSg} {P : Option rv → rSg → Prop} {k n : Nat} {x : Int32} {f : Nat → Option Nat} {r : List rv} (q : Nat) (hd : decode cc pc = .ok (.aaload, 1)) (hk : Sk[k]? = some (.inr (.inl (2, n, f)))) (hin : rIn x n = true) (hq : f x.toNatClampNeg = some q) (kk : GoS Sk d own nL ret ini cc (pc + 1) L (.inr (.inr (some q)) :: r) sg P) : GoS Sk d own nL ret ini cc pc L (.inl x :: .inr (.inr (some k)) :: r) sg P := by
  refine gsAald2 hd hk hin ?_
  rw [hq]
  exact kk
