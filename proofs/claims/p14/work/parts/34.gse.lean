/-! rows with the value named -/
section GSE
variable {Sk : List rSk} {d own nL : Nat} {ret : Option FieldType} {ini : Bool} {cc : ByteArray} {pc : Nat} {L : List (Nat × rv)} {S : List rv} {sg : rSg} {P : Option rv → rSg → Prop}
theorem gsGetE {i k ci j t : Nat} {fin nest : Bool} {fs : List (Option (Option Nat))} {r : List rv} (v : Int32) (hd : decode cc pc = .ok (.getfield i, 3)) (hk : Sk[k]? = some (.inr (.inr (ci, fs)))) (hf : rG.2.1 own i = some (ci, j, t, fin, nest)) (hj : fs[j]? = some none) (hv : sg k j = v) (kk : GoS Sk d own nL ret ini cc (pc + 3) L (.inl v :: r) sg P) : GoS Sk d own nL ret ini cc pc L (.inr (.inr (some k)) :: r) sg P := by
  subst hv
  exact gsGet hd hk hf hj kk
theorem gsIaldN {k n : Nat} {x : Int32} {r : List rv} (t : Nat) (v : Int32) (hd : decode cc pc = .ok (.iaload, 1)) (hk : Sk[k]? = some (.inl n)) (hin : rIn x n = true) (hx : x.toNatClampNeg = t) (hv : sg k t = v) (kk : GoS Sk d own nL ret ini cc (pc + 1) L (.inl v :: r) sg P) : GoS Sk d own nL ret ini cc pc L (.inl x :: .inr (.inr (some k)) :: r) sg P := by
  subst hx
  subst hv
  exact gsIald hd hk hin kk
theorem gsIastN {k n : Nat} {x v : Int32} {r : List rv} (t : Nat) (hd : decode cc pc = .ok (.iastore, 1)) (hk : Sk[k]? = some (.inl n)) (hin : rIn x n = true) (hx : x.toNatClampNeg = t) (kk : GoS Sk d own nL ret ini cc (pc + 1) L r (up2 sg k t v) P) : GoS Sk d own nL ret ini cc pc L (.inl v :: .inl x :: .inr (.inr (some k)) :: r) sg P := by
  subst hx
  exact gsIast hd hk hin kk
/-- the int on top is another spelling of the same -/
theorem gsTop {x y : Int32} {r : List rv} (h : x = y) (kk : GoS Sk d own nL ret ini cc pc L (.inl y :: r) sg P) : GoS Sk d own nL ret ini cc pc L (.inl x :: r) sg P := by
  subst h
  exact kk
theorem gsSg {s2 : rSg} (h : sg = s2) (kk : GoS Sk d own nL ret ini cc pc L S s2 P) : GoS Sk d own nL ret ini cc pc L S sg P := by
  subst h
  exact kk
theorem gsL {L2 : List (Nat × rv)} (h : L = L2) (kk : GoS Sk d own nL ret ini cc pc L2 S sg P) : GoS Sk d own nL ret ini cc pc L S sg P := by
  subst h
  exact kk
end GSE
theorem rIn_nI {t n : Nat} (h : t < n) (hn : n < 2 ^ 31) : rIn (nI t) n = true := by
  have h1 : ¬ nI t < 0 := nI_pos (by omega)
  have h2 : (nI t).toNatClampNeg = t := nI_clamp (by omega)
  simp [rIn, h1, h2, h]
theorem nI_m1 (t : Nat) : nI (t + 1) - 1 = nI t := nI_pred t
