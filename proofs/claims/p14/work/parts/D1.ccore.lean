/-! THE CLASS: the bindings of a state, with all that unify wants -/
abbrev cTd (tp c : Nat) : Prop := c < 6 ∨ (128 ≤ c ∧ c < 139) ∨ (256 ≤ c ∧ c < 256 + tp)
def cDm (nv tp : Nat) (fs ms : List Nat) (c : Nat) : Prop := c < nv ∨ (128 ≤ c ∧ c < 139) ∨ (256 ≤ c ∧ c < 256 + tp) ∨ c ∈ fs ∨ c ∈ ms
def cLT (V : Nat → TV) (tp : Nat) (ms : List Nat) (e : Nat) : Prop := ∃ c b, ((256 ≤ c ∧ c < 256 + tp) ∨ c ∈ ms) ∧ V c = some (.inr (.inr (e, b)))
def cFr (V : Nat → TV) (tp np : Nat) (p : Nat → Nat) (nv : Nat) (fs ms : List Nat) (H : Nat → Prop) : Prop :=
  (6 ≤ nv ∧ nv ≤ 63) ∧ (∀ c ∈ fs, (256 + tp ≤ c ∧ c < 256 + np) ∧ ∃ h t, V c = some (.inr (.inr (h, t))) ∧ H h ∧ (6 ≤ t ∧ t < nv) ∧ ¬ H t) ∧ (∀ c ∈ ms, (256 + tp ≤ c ∧ c < 256 + np) ∧ ∃ x t, V c = some (.inr (.inr (x, t))) ∧ cTd tp x ∧ (6 ≤ t ∧ t < nv) ∧ ¬ H t) ∧ (∀ h, H h → 6 ≤ h ∧ h < nv) ∧ (∀ c, 256 ≤ c → c < 256 + tp → ∃ a b, V c = some (.inr (.inr (a, b))) ∧ cTd tp a ∧ cTd tp b ∧ p a + p b < p c) ∧ (∀ c, cTd tp c → 0 < p c ∧ p c ≤ 100) ∧ (∃ rk, vOK V (cDm nv tp fs ms) rk) ∧ hInv V (cDm nv tp fs ms) H (cLT V tp ms)
/-- the solutions of a view -/
def vK (V : Nat → TV) (D : Nat → Prop) (K : Kx) : Prop := ∀ r, K r ↔ ∃ th, vSol V D th ∧ ∀ v, v < 64 → th v = r v
/-- codes where lists begin: roots of what was told, own pairs -/
def cRt (tp : Nat) (p : Nat → Nat) (fs ms : List Nat) (c : Nat) : Prop := ((256 ≤ c ∧ c < 256 + tp) ∧ p c % 2 = 1) ∨ c ∈ fs ∨ c ∈ ms
def cTp (fs ms : List Nat) (c : Nat) : Prop := c ∈ fs ∨ c ∈ ms
def cAb (V : Nat → TV) (fs : List Nat) (b : Nat) : Prop := b + 2 < 128 ∧ ∃ c ∈ fs, V c = some (.inr (.inr (b, b + 2)))
def cJS (V : Nat → TV) (tp : Nat) (p : Nat → Nat) (nv : Nat) (fs ms : List Nat) (H : Nat → Prop) : Prop := JSg V (cDm nv tp fs ms) H (cRt tp p fs ms) (cAb V fs)
/-- a code that is a list: a tail, an atom, a root -/
def cAr (tp : Nat) (p : Nat → Nat) (nv : Nat) (fs ms : List Nat) (H : Nat → Prop) (c : Nat) : Prop := (c < nv ∧ ¬ H c) ∨ (128 ≤ c ∧ c < 139) ∨ cRt tp p fs ms c
def cCo (sg : rSg) (s kb tp np : Nat) (p : Nat → Nat) (nv : Nat) (fs ms : List Nat) (H : Nat → Prop) (K : Kx) : Prop := cWG sg s kb 64 np (cDm nv tp fs ms) ∧ cFr (cV sg s kb 64) tp np p nv fs ms H ∧ vK (cV sg s kb 64) (cDm nv tp fs ms) K ∧ cJS (cV sg s kb 64) tp p nv fs ms H
def dnt (V : Nat → TV) (D : Nat → Prop) (a : Nat) (f : Tf) : Prop := ∀ th, vSol V D th → ∀ r, (∀ v, v < 64 → th v = r v) → th a = f r
theorem cTd_D {nv tp : Nat} {fs ms : List Nat} (hnv : 6 ≤ nv) {c : Nat} (h : cTd tp c) : cDm nv tp fs ms c := by
  unfold cDm
  rcases h with h | h | h
  · exact Or.inl (by omega)
  · exact Or.inr (Or.inl h)
  · exact Or.inr (Or.inr (Or.inl h))
/-! what depends on a view within the domain alone -/
def vAg (D : Nat → Prop) (V W : Nat → TV) : Prop := ∀ c, D c → W c = V c
theorem vOK_ag {V W : Nat → TV} {D : Nat → Prop} {rk : Nat → Nat} (h : vAg D V W) (hok : vOK V D rk) : vOK W D rk := fun c hc => by
  rw [h c hc]
  exact hok c hc
theorem vSol_ag {V W : Nat → TV} {D : Nat → Prop} {th : Nat → Nat} (h : vAg D V W) : vSol W D th ↔ vSol V D th := by
  constructor
  · intro q c hc
    have := q c hc
    rw [h c hc] at this
    exact this
  · intro q c hc
    rw [h c hc]
    exact q c hc
theorem tgN_ag {V W : Nat → TV} {D : Nat → Prop} {rk : Nat → Nat} (h : vAg D V W) (hok : vOK V D rk) : ∀ {n c x : Nat}, D c → tgN V n c x → tgN W n c x
  | 0, c, x, hc, ⟨e, hr⟩ => ⟨e, fun y hy => hr y (by rw [← h x (e ▸ hc)]; exact hy)⟩
  | n + 1, c, x, hc, ⟨e, he, g⟩ => ⟨e, by rw [h c hc]; exact he, tgN_ag h hok ((hok c hc).1 e he).1 g⟩
theorem tg_ag {V W : Nat → TV} {D : Nat → Prop} {rk : Nat → Nat} (h : vAg D V W) (hok : vOK V D rk) {c x : Nat} (hc : D c) : tg W c x ↔ tg V c x := by
  constructor
  · rintro ⟨n, g⟩
    exact ⟨n, tgN_ag (fun c hc => (h c hc).symm) (vOK_ag h hok) hc g⟩
  · rintro ⟨n, g⟩
    exact ⟨n, tgN_ag h hok hc g⟩
theorem tg_D {V : Nat → TV} {D : Nat → Prop} {rk : Nat → Nat} (hok : vOK V D rk) {c x : Nat} (hc : D c) (h : tg V c x) : D x := by
  obtain ⟨n, h⟩ := h
  induction n generalizing c with
  | zero => obtain ⟨rfl, _⟩ := h; exact hc
  | succ n ih =>
    obtain ⟨e, he, h⟩ := h
    exact ih ((hok c hc).1 e he).1 h
theorem cLT_D {V : Nat → TV} {tp np nv : Nat} {p : Nat → Nat} {fs ms : List Nat} {H : Nat → Prop} (hf : cFr V tp np p nv fs ms H) {e : Nat} (h : cLT V tp ms e) : cTd tp e := by
  obtain ⟨c, b, hc, hv⟩ := h
  rcases hc with hc | hc
  · obtain ⟨a, b2, e1, t1, _⟩ := hf.2.2.2.2.1 c hc.1 hc.2
    rw [hv] at e1
    cases e1
    exact t1
  · obtain ⟨_, x, t, e1, t1, _⟩ := hf.2.2.1 c hc
    rw [hv] at e1
    cases e1
    exact t1
theorem hInv_ag {V W : Nat → TV} {D H L L2 : Nat → Prop} {rk : Nat → Nat} (h : vAg D V W) (hok : vOK V D rk) (hL : ∀ e, L e → L2 e ∧ D e) (hv : hInv V D H L) : hInv W D H L2 := by
  intro z dz hz
  rcases hv z dz hz with ⟨e, x, he, h1, h2⟩ | ⟨o, h1, h2, h3⟩
  · exact Or.inl ⟨e, x, (hL e he).1, (tg_ag h hok dz).mpr h1, (tg_ag h hok (hL e he).2).mpr h2⟩
  · exact Or.inr ⟨o, (tg_ag h hok dz).mpr h1, by rw [h o (tg_D hok dz h1)]; exact h2, fun v dv tv => h3 v dv ((tg_ag h hok dv).mp tv)⟩
theorem cFr_ag {V W : Nat → TV} {tp np np2 nv : Nat} {p : Nat → Nat} {fs ms : List Nat} {H : Nat → Prop} (hn : np ≤ np2) (h : vAg (cDm nv tp fs ms) V W) (hf : cFr V tp np p nv fs ms H) : cFr W tp np2 p nv fs ms H := by
  obtain ⟨h1, h2, h3, h4, h5, h6, ⟨rk, h7⟩, h8⟩ := id hf
  refine ⟨h1, fun c hc => ?_, fun c hc => ?_, h4, fun c a b => ?_, h6, ⟨rk, vOK_ag h h7⟩, hInv_ag h h7 (fun e he => ⟨?_, cTd_D h1.1 (cLT_D hf he)⟩) h8⟩
  · obtain ⟨b, x, t, e, g⟩ := h2 c hc
    exact ⟨⟨b.1, by omega⟩, x, t, by rw [h c (Or.inr (Or.inr (Or.inr (Or.inl hc))))]; exact e, g⟩
  · obtain ⟨b, x, t, e, g⟩ := h3 c hc
    exact ⟨⟨b.1, by omega⟩, x, t, by rw [h c (Or.inr (Or.inr (Or.inr (Or.inr hc))))]; exact e, g⟩
  · rw [h c (Or.inr (Or.inr (Or.inl ⟨a, b⟩)))]
    exact h5 c a b
  · obtain ⟨c, b, hc, hv⟩ := he
    refine ⟨c, b, hc, ?_⟩
    rw [h c ?_]
    · exact hv
    · rcases hc with hc | hc
      · exact Or.inr (Or.inr (Or.inl hc))
      · exact Or.inr (Or.inr (Or.inr (Or.inr hc)))
theorem vK_ag {V W : Nat → TV} {D : Nat → Prop} {K : Kx} (h : vAg D V W) (hk : vK V D K) : vK W D K := fun r => by
  rw [hk r]
  constructor
  · rintro ⟨th, h1, h2⟩; exact ⟨th, (vSol_ag h).mpr h1, h2⟩
  · rintro ⟨th, h1, h2⟩; exact ⟨th, (vSol_ag h).mp h1, h2⟩
theorem dnt_ag {V W : Nat → TV} {D : Nat → Prop} {a : Nat} {f : Tf} (h : vAg D V W) (hd : dnt V D a f) : dnt W D a f := fun th ht => hd th ((vSol_ag h).mp ht)
/-- the same bindings in another row, another script -/
def cSame (s kb s2 kb2 nv tp : Nat) (fs ms : List Nat) (sg t : rSg) : Prop := (∀ i, i < nv → t kb2 i = sg kb i) ∧ ∀ c, (256 ≤ c ∧ c < 256 + tp) ∨ c ∈ fs ∨ c ∈ ms → t (s2 + 3) (2 * (c - 256)) = sg (s + 3) (2 * (c - 256)) ∧ t (s2 + 3) (2 * (c - 256) + 1) = sg (s + 3) (2 * (c - 256) + 1)
theorem cFr_code {V : Nat → TV} {tp np nv : Nat} {p : Nat → Nat} {fs ms : List Nat} {H : Nat → Prop} (hf : cFr V tp np p nv fs ms H) (htn : tp ≤ np) {c : Nat} (hc : cDm nv tp fs ms c) : c < nv ∨ (128 ≤ c ∧ c < 139) ∨ (((256 ≤ c ∧ c < 256 + tp) ∨ c ∈ fs ∨ c ∈ ms) ∧ 256 ≤ c ∧ c < 256 + np) := by
  rcases hc with h | h | h | h | h
  · exact Or.inl h
  · exact Or.inr (Or.inl h)
  · exact Or.inr (Or.inr ⟨Or.inl h, h.1, by omega⟩)
  · have := (hf.2.1 c h).1
    exact Or.inr (Or.inr ⟨Or.inr (Or.inl h), by omega, this.2⟩)
  · have := (hf.2.2.1 c h).1
    exact Or.inr (Or.inr ⟨Or.inr (Or.inr h), by omega, this.2⟩)
theorem cSame_ag {sg t : rSg} {s kb s2 kb2 tp np nv : Nat} {p : Nat → Nat} {fs ms : List Nat} {H : Nat → Prop} (htn : tp ≤ np) (hn9 : np ≤ 640) (hf : cFr (cV sg s kb 64) tp np p nv fs ms H) (h : cSame s kb s2 kb2 nv tp fs ms sg t) : vAg (cDm nv tp fs ms) (cV sg s kb 64) (cV t s2 kb2 64) := by
  intro c hc
  have hnv := hf.1
  rcases cFr_code hf htn hc with q | q | ⟨q, q1, q2⟩
  · have g : c < 128 := by omega
    simp only [cV, if_pos g, h.1 c q]
  · have g : ¬ c < 128 := by omega
    have g2 : c < 256 := by omega
    simp only [cV, if_neg g, if_pos g2]
  · have g : ¬ c < 128 := by omega
    have g2 : ¬ c < 256 := by omega
    have g3 : c < 1280 := by omega
    simp only [cV, if_neg g, if_neg g2, if_pos g3, (h.2 c q).1, (h.2 c q).2]
theorem cJS_ag {V W : Nat → TV} {tp np nv : Nat} {p : Nat → Nat} {fs ms : List Nat} {H : Nat → Prop} (hf : cFr V tp np p nv fs ms H) (h : vAg (cDm nv tp fs ms) V W) (hj : cJS V tp p nv fs ms H) : cJS W tp p nv fs ms H := by
  intro th hs hn
  have hs2 : vSol V (cDm nv tp fs ms) th := (vSol_ag h).mp hs
  obtain ⟨g1, g2⟩ := hj th hs2 hn
  obtain ⟨rk, hok⟩ := hf.2.2.2.2.2.2.1
  obtain ⟨e1, e2⟩ := tL_same (V := V) (W := W) (D := cDm nv tp fs ms) (Hd := H) (Rt := cRt tp p fs ms) (th := th) (fun c a b hc => by rw [h c hc])
  have hA : ∀ b, cAb W fs b ↔ cAb V fs b := fun b => by
    unfold cAb
    constructor
    · rintro ⟨b2, c, hc, hv⟩
      exact ⟨b2, c, hc, by rw [← h c (Or.inr (Or.inr (Or.inr (Or.inl hc))))]; exact hv⟩
    · rintro ⟨b2, c, hc, hv⟩
      exact ⟨b2, c, hc, by rw [h c (Or.inr (Or.inr (Or.inr (Or.inl hc))))]; exact hv⟩
  have dA : ∀ b, cAb V fs b → cDm nv tp fs ms b := fun b ⟨_, c, hc, hv⟩ => by
    obtain ⟨_, x, t, e, hx, _⟩ := hf.2.1 c hc
    rw [hv] at e
    cases e
    exact Or.inl (hf.2.2.2.1 b hx).2
  rw [e1, e2]
  refine ⟨fun c e hc he => g1 c e hc (by rw [← h c hc]; exact he), ?_⟩
  have tgs : ∀ {c x}, cDm nv tp fs ms c → (tg W c x ↔ tg V c x) := fun hc => tg_ag h hok hc
  have it : ∀ {c x}, itm W (cDm nv tp fs ms) (tLR V (cDm nv tp fs ms) H (cRt tp p fs ms) th) W c x ↔ itm V (cDm nv tp fs ms) (tLR V (cDm nv tp fs ms) H (cRt tp p fs ms) th) V c x := fun {c x} => by
    constructor
    · rintro ⟨d1, d2, a, b, e, t⟩
      have e3 : V c = some (.inr (.inr (a, b))) := by rw [← h c d1]; exact e
      exact ⟨d1, d2, a, b, e3, (tgs ((hok c d1).2.2 a b e3).1.1).mp t⟩
    · rintro ⟨d1, d2, a, b, e, t⟩
      exact ⟨d1, d2, a, b, by rw [h c d1]; exact e, (tgs ((hok c d1).2.2 a b e).1.1).mpr t⟩
  have eg : ∀ {x w u}, egV (cAb W fs) th W x w u ↔ egV (cAb V fs) th V x w u := fun {x w u} => by
    constructor
    · rintro ⟨b, hb, t, q⟩
      have hb2 := (hA b).mp hb
      exact ⟨b, hb2, (tgs (dA b hb2)).mp t, q⟩
    · rintro ⟨b, hb, t, q⟩
      exact ⟨b, (hA b).mpr hb, (tgs (dA b hb)).mpr t, q⟩
  have lk : ∀ {n x w u}, lkN (cAb V fs) th V x n w u → lkN (cAb W fs) th W x n w u := by
    intro n
    induction n with
    | zero => intro x w u h; exact h
    | succ n ih =>
      rintro x w u ⟨e, q1, q2⟩
      exact ⟨e, ih q1, eg.mpr q2⟩
  have xx : ∀ {x w}, xv W (cDm nv tp fs ms) (tLR V (cDm nv tp fs ms) H (cRt tp p fs ms) th) (cAb W fs) th W x w ↔ xv V (cDm nv tp fs ms) (tLR V (cDm nv tp fs ms) H (cRt tp p fs ms) th) (cAb V fs) th V x w := fun {x w} => or_congr ⟨fun ⟨c, q, e⟩ => ⟨c, it.mp q, e⟩, fun ⟨c, q, e⟩ => ⟨c, it.mpr q, e⟩⟩ ⟨fun ⟨u, q⟩ => ⟨u, eg.mp q⟩, fun ⟨u, q⟩ => ⟨u, eg.mpr q⟩⟩
  intro x w hw
  rcases g2 x w (xx.mp hw) with ⟨u, ⟨c, q1, q2, a, b, q3, q4⟩, n, q5⟩ | ⟨q1, q2⟩
  · exact Or.inl ⟨u, ⟨c, it.mpr q1, q2, a, b, by rw [h c q1.1]; exact q3, q4⟩, n, lk q5⟩
  · refine Or.inr ⟨fun e de te => q1 e de ((tgs de).mp te), fun u hu => ?_⟩
    obtain ⟨n, q⟩ := q2 u (xx.mp hu)
    exact ⟨n, lk q⟩
theorem cCo_same {sg t : rSg} {s kb s2 kb2 tp np np2 nv : Nat} {p : Nat → Nat} {fs ms : List Nat} {H : Nat → Prop} {K : Kx} (htn : tp ≤ np) (hn : np ≤ np2) (hn9 : np2 ≤ 640) (hc : cCo sg s kb tp np p nv fs ms H K) (h : cSame s kb s2 kb2 nv tp fs ms sg t) : cCo t s2 kb2 tp np2 p nv fs ms H K := by
  obtain ⟨hw, hf, hk, hj⟩ := hc
  have ha := cSame_ag htn (by omega) hf h
  have hnv := hf.1
  refine ⟨⟨Or.inl rfl, hn9, fun c hc => ?_, fun c hc h1 h2 => ?_, fun c hc h1 => ?_, fun i hi h1 => ?_⟩, cFr_ag hn ha hf, vK_ag ha hk, cJS_ag hf ha hj⟩
  · have := hw.2.2.1 c hc
    unfold cD cF at this ⊢
    omega
  · obtain ⟨a, b, e1, e2, g⟩ := hw.2.2.2.1 c hc h1 h2
    rcases cFr_code hf htn hc with q | q | ⟨q, q1, q2⟩
    · omega
    · omega
    · rw [(h.2 c q).1, (h.2 c q).2]
      exact ⟨a, b, e1, e2, g⟩
  · exfalso
    rcases cFr_code hf htn hc with q | q | ⟨q, q1, q2⟩ <;> omega
  · rcases cFr_code hf htn hi with q | q | ⟨q, q1, q2⟩
    · rw [h.1 i q]
      exact hw.2.2.2.2.2 i hi h1
    · omega
    · omega
/-! the counts -/
def cCn (tp f m : Nat) : Prop := (tp + m ≤ 19 ∧ tp + m + f ≤ 55) ∨ (tp + m ≤ 21 ∧ tp + m + f ≤ 49)
abbrev cCs (tp : Nat) (fs ms : List Nat) : List Nat := (List.range tp).map (256 + ·) ++ (ms ++ fs)
abbrev cAs (tp : Nat) (ms : List Nat) : List Nat := (List.range tp).map (256 + ·) ++ ms
theorem cCs_mem {tp : Nat} {fs ms : List Nat} {c : Nat} : c ∈ cCs tp fs ms ↔ (256 ≤ c ∧ c < 256 + tp) ∨ c ∈ fs ∨ c ∈ ms := by
  simp only [cCs, List.mem_append, List.mem_map, List.mem_range]
  constructor
  · rintro (⟨i, h, rfl⟩ | h | h)
    · exact Or.inl (by omega)
    · exact Or.inr (Or.inr h)
    · exact Or.inr (Or.inl h)
  · rintro (h | h | h)
    · exact Or.inl ⟨c - 256, by omega, by omega⟩
    · exact Or.inr (Or.inr h)
    · exact Or.inr (Or.inl h)
theorem cAs_mem {tp : Nat} {ms : List Nat} {c : Nat} : c ∈ cAs tp ms ↔ (256 ≤ c ∧ c < 256 + tp) ∨ c ∈ ms := by
  simp only [cAs, List.mem_append, List.mem_map, List.mem_range]
  constructor
  · rintro (⟨i, h, rfl⟩ | h)
    · exact Or.inl (by omega)
    · exact Or.inr h
  · rintro (h | h)
    · exact Or.inl ⟨c - 256, by omega, by omega⟩
    · exact Or.inr h
theorem cFr_cOK {V : Nat → TV} {tp np nv : Nat} {p : Nat → Nat} {fs ms : List Nat} {H : Nat → Prop} (hf : cFr V tp np p nv fs ms H) (htn : tp ≤ np) (hva : ∀ c, c < nv ∨ (128 ≤ c ∧ c < 139) → ∀ a b, V c ≠ some (.inr (.inr (a, b)))) : cOK V (cDm nv tp fs ms) (cCs tp fs ms) := by
  refine ⟨fun c a b hc hv => ?_, fun c hc => ?_⟩
  · rcases cFr_code hf htn hc with q | q | ⟨q, _⟩
    · exact absurd hv (hva c (Or.inl q) a b)
    · exact absurd hv (hva c (Or.inr q) a b)
    · exact cCs_mem.mpr q
  · rcases cCs_mem.mp hc with q | q | q
    · obtain ⟨a, b, e, _⟩ := hf.2.2.2.2.1 c q.1 q.2
      exact ⟨Or.inr (Or.inr (Or.inl q)), a, b, e⟩
    · obtain ⟨_, a, b, e, _⟩ := hf.2.1 c q
      exact ⟨Or.inr (Or.inr (Or.inr (Or.inl q))), a, b, e⟩
    · obtain ⟨_, a, b, e, _⟩ := hf.2.2.1 c q
      exact ⟨Or.inr (Or.inr (Or.inr (Or.inr q))), a, b, e⟩
theorem cFr_sPr {V : Nat → TV} {tp np nv : Nat} {p : Nat → Nat} {fs ms : List Nat} {H : Nat → Prop} (hf : cFr V tp np p nv fs ms H) (htn : tp ≤ np) (hva : ∀ c, c < nv ∨ (128 ≤ c ∧ c < 139) → ∀ a b, V c ≠ some (.inr (.inr (a, b)))) : sPr V (cDm nv tp fs ms) H (cLT V tp ms) := by
  intro c a b hc hv
  rcases cFr_code hf htn hc with q | q | ⟨q, _⟩
  · exact absurd hv (hva c (Or.inl q) a b)
  · exact absurd hv (hva c (Or.inr q) a b)
  · rcases q with q | q | q
    · obtain ⟨a2, b2, e, _, t2, _⟩ := hf.2.2.2.2.1 c q.1 q.2
      rw [hv] at e
      cases e
      refine ⟨Or.inl ⟨c, b, Or.inl q, hv⟩, fun hb => ?_⟩
      have := hf.2.2.2.1 b hb
      have := hf.1
      omega
    · obtain ⟨_, a2, b2, e, t1, _, t3⟩ := hf.2.1 c q
      rw [hv] at e
      cases e
      exact ⟨Or.inr t1, t3⟩
    · obtain ⟨_, a2, b2, e, _, _, t3⟩ := hf.2.2.1 c q
      rw [hv] at e
      cases e
      exact ⟨Or.inl ⟨c, b, Or.inr q, hv⟩, t3⟩
theorem cV_nopair {sg : rSg} {s kb c a b : Nat} (h : c < 256) : cV sg s kb 64 c ≠ some (.inr (.inr (a, b))) := by
  unfold cV
  intro q
  split at q
  · split at q <;> cases q
  · first | (rw [if_pos h] at q; cases q) | cases q
/-- few turns -/
theorem cFr_few {sg : rSg} {s kb tp np nv : Nat} {p : Nat → Nat} {fs ms : List Nat} {H : Nat → Prop} (hf : cFr (cV sg s kb 64) tp np p nv fs ms H) (htn : tp ≤ np) (hcn : cCn tp fs.length ms.length) {a b : Nat} (ha : ¬ H a) (hb : ¬ H b) {th : Nat → Nat} (hs : vSol (cV sg s kb 64) (cDm nv tp fs ms) th) (hab : th a = th b) {n : Nat} {W : Nat → TV} {rs : List (Nat × Nat)} (hr : uRun (cDm nv tp fs ms) (cV sg s kb 64) [(a, b)] n W rs) : n < 900000 := by
  have hnv := hf.1
  have hva : ∀ c, c < nv ∨ (128 ≤ c ∧ c < 139) → ∀ a b, cV sg s kb 64 c ≠ some (.inr (.inr (a, b))) := fun c h a b => cV_nopair (by omega)
  refine uRun_few (as := cAs tp ms) (LT := cLT (cV sg s kb 64) tp ms) hf.2.2.2.2.2.2.1 (cFr_cOK hf htn hva) hs (cFr_sPr hf htn hva) (fun e he => ?_) hf.2.2.2.2.2.2.2 ?_ hab (Or.inr ⟨ha, hb⟩) hr
  · obtain ⟨c, b2, hc, hv⟩ := he
    refine ⟨c, b2, cAs_mem.mpr hc, ?_, hv⟩
    rcases hc with q | q
    · exact Or.inr (Or.inr (Or.inl q))
    · exact Or.inr (Or.inr (Or.inr (Or.inr q)))
  · unfold cCn at hcn
    simp only [cAs, cCs, List.length_append, List.length_map, List.length_range]
    omega
/-- the heads stay as they are through a run -/
theorem cFr_run {sg : rSg} {s kb tp np nv : Nat} {p : Nat → Nat} {fs ms : List Nat} {H : Nat → Prop} (hf : cFr (cV sg s kb 64) tp np p nv fs ms H) (htn : tp ≤ np) {a b : Nat} (ha : ¬ H a) (hb : ¬ H b) {th : Nat → Nat} (hs : vSol (cV sg s kb 64) (cDm nv tp fs ms) th) (hab : th a = th b) {n : Nat} {W : Nat → TV} {rs : List (Nat × Nat)} (hr : uRun (cDm nv tp fs ms) (cV sg s kb 64) [(a, b)] n W rs) : cFr W tp np p nv fs ms H := by
  have hnv := hf.1
  have hva : ∀ c, c < nv ∨ (128 ≤ c ∧ c < 139) → ∀ a b, cV sg s kb 64 c ≠ some (.inr (.inr (a, b))) := fun c h a b => cV_nopair (by omega)
  have hLT : ∀ e, cLT (cV sg s kb 64) tp ms e → ∃ c b, c ∈ cAs tp ms ∧ cDm nv tp fs ms c ∧ cV sg s kb 64 c = some (.inr (.inr (e, b))) := fun e he => by
    obtain ⟨c, b2, hc, hv⟩ := he
    refine ⟨c, b2, cAs_mem.mpr hc, ?_, hv⟩
    rcases hc with q | q
    · exact Or.inr (Or.inr (Or.inl q))
    · exact Or.inr (Or.inr (Or.inr (Or.inr q)))
  have hone : ∀ {P : Nat × Nat → Prop}, P (a, b) → ∀ q ∈ [(a, b)], P q := by
    intro P h q hq
    rcases List.mem_cons.mp hq with rfl | hq
    · exact h
    · cases hq
  let Ks : List Nat := 0 :: (cCs tp fs ms).map (kfV (cV sg s kb 64) th (cAs tp ms))
  have hK : ∀ c ∈ cCs tp fs ms, kfV (cV sg s kb 64) th (cAs tp ms) c ∈ Ks := fun c hc => List.mem_cons_of_mem _ (List.mem_map.mpr ⟨c, hc, rfl⟩)
  have hp0 := PIv_pos (V := cV sg s kb 64) (th := th) (as := cAs tp ms) (cs := cCs tp fs ms) (Ks := Ks) (w := th a)
  obtain ⟨k, hk⟩ : ∃ k, k + 1 = 2 * PIv (cV sg s kb 64) th (cAs tp ms) (cCs tp fs ms) Ks (th a) := ⟨2 * PIv (cV sg s kb 64) th (cAs tp ms) (cCs tp fs ms) Ks (th a) - 1, by omega⟩
  have hi : uInv (cV sg s kb 64) (cDm nv tp fs ms) th (cAs tp ms) (cCs tp fs ms) Ks H (cLT (cV sg s kb 64) tp ms) (cV sg s kb 64) [(a, b)] := ⟨hf.2.2.2.2.2.2.1, hf.2.2.2.2.2.2.2, fun c a b => Iff.rfl, hs, hone (P := fun q => th q.1 = th q.2) hab, hone (P := fun q => iLL H (cLT (cV sg s kb 64) tp ms) q ∨ iNN H q) (Or.inr ⟨ha, hb⟩)⟩
  obtain ⟨⟨g1, g2, g3, _⟩, _⟩ := uRun_cst (cFr_cOK hf htn hva) hs (cFr_sPr hf htn hva) hLT hK List.mem_cons_self hi (N := k + 0) ⟨k, 0, rfl, rfl, Or.inl hk⟩ hr
  obtain ⟨f1, f2, f3, f4, f5, f6, _, _⟩ := hf
  refine ⟨f1, fun c hc => ?_, fun c hc => ?_, f4, fun c c1 c2 => ?_, f6, g1, ?_⟩
  · obtain ⟨q, h, t, e, g⟩ := f2 c hc
    exact ⟨q, h, t, (g3 _ _ _).mpr e, g⟩
  · obtain ⟨q, h, t, e, g⟩ := f3 c hc
    exact ⟨q, h, t, (g3 _ _ _).mpr e, g⟩
  · obtain ⟨x, y, e, g⟩ := f5 c c1 c2
    exact ⟨x, y, (g3 _ _ _).mpr e, g⟩
  · intro h hd hh
    rcases g2 h hd hh with ⟨e, x, ⟨c, b2, hc, hv⟩, q⟩ | q
    · exact Or.inl ⟨e, x, ⟨c, b2, hc, (g3 _ _ _).mpr hv⟩, q⟩
    · exact Or.inr q
theorem cFr_pr {V : Nat → TV} {tp np nv : Nat} {p : Nat → Nat} {fs ms : List Nat} {H : Nat → Prop} (hf : cFr V tp np p nv fs ms H) {c : Nat} (hc : (256 ≤ c ∧ c < 256 + tp) ∨ c ∈ fs ∨ c ∈ ms) : ∃ a b, V c = some (.inr (.inr (a, b))) := by
  rcases hc with q | q | q
  · obtain ⟨a, b, e, _⟩ := hf.2.2.2.2.1 c q.1 q.2
    exact ⟨a, b, e⟩
  · obtain ⟨_, a, b, e, _⟩ := hf.2.1 c q
    exact ⟨a, b, e⟩
  · obtain ⟨_, a, b, e, _⟩ := hf.2.2.1 c q
    exact ⟨a, b, e⟩
theorem cFr_stru {sg : rSg} {s kb tp np nv : Nat} {p : Nat → Nat} {fs ms : List Nat} {H : Nat → Prop} (hf : cFr (cV sg s kb 64) tp np p nv fs ms H) (htn : tp ≤ np) : stru (cV sg s kb 64) (cDm nv tp fs ms) H (cRt tp p fs ms) (cTp fs ms) := by
  have hnv := hf.1
  have hH := hf.2.2.2.1
  have tdN : ∀ {a}, cTd tp a → ¬ H a ∧ ¬ cTp fs ms a ∧ (isV a → isN a) := fun {a} h => by
    refine ⟨fun q => ?_, fun q => ?_, fun q => ?_⟩
    · have := hH a q
      omega
    · rcases q with q | q
      · have := (hf.2.1 a q).1
        omega
      · have := (hf.2.2.1 a q).1
        omega
    · unfold isV at q
      unfold isN
      omega
  refine ⟨fun c a b hc hv => ?_, fun c h => ?_, fun c h => ?_, fun c n hc hv => ?_, fun c hc hn => ?_, fun c h => Or.inr h⟩
  · rcases cFr_code hf htn hc with q | q | ⟨q, q1, q2⟩
    · exact absurd hv (cV_nopair (by omega))
    · exact absurd hv (cV_nopair (by omega))
    · have hiv : ¬ isV c := by unfold isV; omega
      rcases q with q | q | q
      · obtain ⟨a2, b2, e, t1, t2, _⟩ := hf.2.2.2.2.1 c q.1 q.2
        rw [hv] at e
        cases e
        have n1 := tdN t1
        have n2 := tdN t2
        exact ⟨hiv, ⟨cTd_D hnv.1 t1, cTd_D hnv.1 t2⟩, n2.1, ⟨n1.2.1, n2.2.1⟩, fun z => absurd z n1.1, fun z => Or.inr (n1.2.2 z), fun z => Or.inl (n2.2.2 z)⟩
      · obtain ⟨_, a2, b2, e, t1, t2, t3⟩ := hf.2.1 c q
        rw [hv] at e
        cases e
        have ha := hH a t1
        have nT : ∀ {z}, z < nv → ¬ cTp fs ms z := fun {z} hz y => by
          rcases y with y | y
          · have := (hf.2.1 z y).1
            omega
          · have := (hf.2.2.1 z y).1
            omega
        exact ⟨hiv, ⟨Or.inl ha.2, Or.inl t2.2⟩, t3, ⟨nT ha.2, nT t2.2⟩, fun _ => Or.inl q, fun _ => Or.inl t1, fun _ => Or.inr (Or.inl q)⟩
      · obtain ⟨_, a2, b2, e, t1, t2, t3⟩ := hf.2.2.1 c q
        rw [hv] at e
        cases e
        have n1 := tdN t1
        have nT : ¬ cTp fs ms b := fun y => by
          rcases y with y | y
          · have := (hf.2.1 b y).1
            omega
          · have := (hf.2.2.1 b y).1
            omega
        exact ⟨hiv, ⟨cTd_D hnv.1 t1, Or.inl t2.2⟩, t3, ⟨n1.2.1, nT⟩, fun z => absurd z n1.1, fun z => Or.inr (n1.2.2 z), fun _ => Or.inr (Or.inr q)⟩
  · have := hH c h
    unfold isV isN
    omega
  · unfold isV
    rcases h with h | h | h
    · omega
    · have := (hf.2.1 c h).1
      omega
    · have := (hf.2.2.1 c h).1
      omega
  · rcases cFr_code hf htn hc with q | q | ⟨q, q1, q2⟩
    · exfalso
      have g : c < 128 := by omega
      simp only [cV, if_pos g] at hv
      split at hv <;> cases hv
    · rw [cV_atom q.1 (by omega)] at hv
      simp only [Option.some.injEq, Sum.inr.injEq, Sum.inl.injEq] at hv
      omega
    · obtain ⟨a, b, e⟩ := cFr_pr hf q
      rw [hv] at e
      cases e
  · unfold isV at hn
    rcases cFr_code hf htn hc with q | q | ⟨q, q1, q2⟩
    · omega
    · rw [cV_atom q.1 (by omega)]
      exact ⟨fun z => (by cases z), fun e z => (by cases z)⟩
    · obtain ⟨a, b, e⟩ := cFr_pr hf q
      rw [e]
      exact ⟨fun z => (by cases z), fun e z => (by cases z)⟩
/-- a list's code is one in every solution -/
theorem cAr_LR {sg : rSg} {s kb tp np nv : Nat} {p : Nat → Nat} {fs ms : List Nat} {H : Nat → Prop} (hf : cFr (cV sg s kb 64) tp np p nv fs ms H) {c : Nat} (h : cAr tp p nv fs ms H c) {th : Nat → Nat} (hs : vSol (cV sg s kb 64) (cDm nv tp fs ms) th) : tLR (cV sg s kb 64) (cDm nv tp fs ms) H (cRt tp p fs ms) th c ∧ cDm nv tp fs ms c ∧ ¬ H c := by
  have hnv := hf.1
  have hH := hf.2.2.2.1
  rcases h with h | h | h
  · have hD : cDm nv tp fs ms c := Or.inl h.1
    exact ⟨tLR_of ⟨hD, Or.inr (Or.inl ⟨by unfold isV; omega, h.2⟩)⟩, hD, h.2⟩
  · have hD : cDm nv tp fs ms c := Or.inr (Or.inl h)
    refine ⟨tLR_of ⟨hD, Or.inl ?_⟩, hD, fun q => ?_⟩
    · have := (hs c hD).2.1 (c - 128) (cV_atom h.1 (by omega))
      omega
    · have := hH c q
      omega
  · have hD : cDm nv tp fs ms c := by
      rcases h with h | h | h
      · exact Or.inr (Or.inr (Or.inl h.1))
      · exact Or.inr (Or.inr (Or.inr (Or.inl h)))
      · exact Or.inr (Or.inr (Or.inr (Or.inr h)))
    refine ⟨tLR_of ⟨hD, Or.inr (Or.inr (Or.inr h))⟩, hD, fun q => ?_⟩
    have := hH c q
    rcases h with h | h | h
    · omega
    · have := (hf.2.1 c h).1
      omega
    · have := (hf.2.2.1 c h).1
      omega
/-- links and types after unify -/
theorem cJS_run {sg : rSg} {s kb tp np nv : Nat} {p : Nat → Nat} {fs ms : List Nat} {H : Nat → Prop} (hf : cFr (cV sg s kb 64) tp np p nv fs ms H) (htn : tp ≤ np) (hj : cJS (cV sg s kb 64) tp p nv fs ms H) {a b : Nat} (la : cAr tp p nv fs ms H a) (lb : cAr tp p nv fs ms H b) {n : Nat} {W : Nat → TV} (hr : uRun (cDm nv tp fs ms) (cV sg s kb 64) [(a, b)] n W []) (hsol : ∀ th, vSol W (cDm nv tp fs ms) th → vSol (cV sg s kb 64) (cDm nv tp fs ms) th ∧ th a = th b) (hpr : ∀ c x y, W c = some (.inr (.inr (x, y))) ↔ cV sg s kb 64 c = some (.inr (.inr (x, y)))) : cJS W tp p nv fs ms H := by
  have hA : cAb W fs = cAb (cV sg s kb 64) fs := funext fun b => propext ⟨fun ⟨b2, c, hc, hv⟩ => ⟨b2, c, hc, (hpr _ _ _).mp hv⟩, fun ⟨b2, c, hc, hv⟩ => ⟨b2, c, hc, (hpr _ _ _).mpr hv⟩⟩
  unfold cJS
  rw [hA]
  refine JSg_run (cFr_stru hf htn) hf.2.2.2.2.2.2.1 hj hr (fun th hs hn q hq => ?_) (fun th hs => (hsol th hs).1)
  rcases List.mem_cons.mp hq with rfl | hq
  · have h1 := hsol th hs
    have r1 := cAr_LR hf la h1.1
    have r2 := cAr_LR hf lb h1.1
    exact ⟨h1.2, Or.inl ⟨r1.1, r2.1⟩, Or.inl ⟨r1.2.2, r2.2.2⟩⟩
  · cases hq
