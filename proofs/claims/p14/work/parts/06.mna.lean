/-! new int[n][k] -/
theorem rInner (c : ClassId) (K : Nat) : Jvm.Free.Multi.innerC c K (defaultValue .int) = vp_cell c (K, .inl (fun _ => 0)) := by
  rw [vp_cell_i]
  exact arrV_new c K (.int 0)
section RMN
variable {G : rTab} {cn : Nat → String} {Ts nw : List Cond} {p : Program} {l : Launch} {e : Env} {R : Room} {s : State} {m : MethodId} {args : Array Value} {below : List Frame} {meth : Method} {c : Code} {H : Heap} {locs : List Loc} {cells slots : Nat} {Q : State → Prop}
variable {cc : ByteArray} {pc : Nat} {ls : Array Slot} {st : List Value} {D : va_G} {cl : List vw_C} {ct : Nat → ClassId} {A : Nat → Prop} {H0 : Heap} {al0 : List Nat} {own nL : Nat} {ret : Option FieldType} {ini : Bool} {ws : va_W} {L : List (Nat × rv)} {S : List rv} {M : List rEnt}
theorem k_mna (O : rOK G cn Ts nw cl) (F : rFx cn Ts nw D cl ct p R s m args meth c own nL cc ret ini A H0) {i y : Nat} {k n : Int32} {r : List rv} (hd : decode cc pc = .ok (.multianewarray i 2, 4)) (a : rAt D cl ct A H0 al0 nL ws H locs ls st L (.inl k :: .inl n :: r) M) (hk7 : G.2.2.1 own i = some (7, y)) (hn : ¬ n < 0) (hk : ¬ k < 0) (hN : n.toNatClampNeg ≤ 100000) (hK9 : k.toNatClampNeg ≤ 100000) (hc : cells + (1 + n.toNatClampNeg) ≤ R.cells) (hz : slots + (n.toNatClampNeg + n.toNatClampNeg * k.toNatClampNeg) ≤ R.slots)
    (kk : rTo D cl ct A H0 al0 nL p l e R s m args below meth c (cells + (1 + n.toNatClampNeg)) (slots + (n.toNatClampNeg + n.toNatClampNeg * k.toNatClampNeg)) Q (pc + 4) L (.inr (.inr (some M.length)) :: r) ((M ++ [.inr (.inl (2, n.toNatClampNeg, fun j => if j < n.toNatClampNeg then some (M.length + 1 + j) else none))]) ++ rZeros n.toNatClampNeg k.toNatClampNeg)) : W p l e R s m args below meth c H locs cells slots Q (F0 m pc ls st) := by
  obtain ⟨hx, hb, hml, hown, hts, hK, -, -, hAOA, -, -, -, hA, -⟩ := F
  have hcl := hts _ ((O.2.2.2.2.1 own i 7 y hk7).2.2.2.2.2.2.2.1 rfl)
  have harr := hts _ O.2.2.2.2.2.1
  obtain ⟨lv, h1, h2, h3, h4, h5, h6, h7, h8⟩ := a
  obtain ⟨t1, rfl, h3b⟩ := rRS_int h3
  obtain ⟨t2, rfl, h3c⟩ := rRS_int h3b
  have hI : s.vm.findClass (FieldType.array .int).toString = some (ct 0) := (hK.2 0 (ct 0, .int) rfl).2
  have h5e : va_P D cl (ws ++ va_pl [] (fun _ => .inr (0, []))) H := by rw [show va_pl [] (fun _ => (.inr (0, []) : va_E)) = [] from rfl, List.append_nil]; exact h5
  have h6e : va_D A (ws ++ va_pl [] (fun _ => .inr (0, []))) := by rw [show va_pl [] (fun _ => (.inr (0, []) : va_E)) = [] from rfl, List.append_nil]; exact h6
  refine va_mna (ty := .int) hx hb hown hcl hAOA harr hI hK h5e h6e h7 hA (N' := n.toNatClampNeg) (K' := k.toNatClampNeg) (z := (k.toNatClampNeg, .inl (fun _ => 0))) hn hk rfl rfl (by omega) (by show k.toNatClampNeg * 4 ≤ 536870912; omega) (by omega) rfl rfl hc hz (fun c => rInner c _) hd (fun q rr cA H1 hinj hnot g0 g1 g2 g3 => ?_)
  have e1 : s.vm.findClass ("[" ++ (FieldType.array .int).toString) = some cA := (g0.2 3 (cA, .array .int) rfl).2
  have e2 : s.vm.findClass ("[" ++ (FieldType.array .int).toString) = some (ct 2) := (hK.2 2 (ct 2, .array .int) rfl).2
  have e3 : some cA = some (ct 2) := e1.symm.trans e2
  cases e3
  generalize hgr : (fun i => if i < n.toNatClampNeg then some (rr i) else none : Nat → Option Nat) = gr at g1 g2
  generalize hw2 : va_pl ([] ++ (List.range n.toNatClampNeg).map rr) (vr_up (fun _ => .inr (0, [])) ((List.range n.toNatClampNeg).map rr) (.inl (ct 0, k.toNatClampNeg, .inl (fun _ => 0)))) = w2 at g1 g2
  have hat : ∀ j, j < n.toNatClampNeg → w2[j]? = some (rr j, .inl (ct 0, k.toNatClampNeg, .inl (fun _ => 0))) := fun j hj => by
    rw [← hw2]
    unfold va_pl
    rw [List.nil_append, List.getElem?_map, List.getElem?_map, List.getElem?_range hj]
    show some (rr j, vr_up _ _ _ (rr j)) = _
    rw [vr_up_in (List.mem_map.mpr ⟨j, List.mem_range.mpr hj, rfl⟩)]
  have hlen : w2.length = n.toNatClampNeg := by
    rw [← hw2]
    simp [va_pl]
  have hall : rAd ((ws ++ [(q, .inl (ct 2, n.toNatClampNeg, .inr (.inr (.inr (.inr gr)))))]) ++ w2) = (rAd ws ++ [q]) ++ rAd w2 := by rw [rAd_app, rAd_app]; rfl
  have hp : rAd ws <+: rAd ((ws ++ [(q, .inl (ct 2, n.toNatClampNeg, .inr (.inr (.inr (.inr gr)))))]) ++ w2) := by rw [hall, List.append_assoc]; exact List.prefix_append _ _
  have hlw : M.length = (rAd ws).length := by rw [h4.1]; simp [rAd]
  have hM1 : rRM ct (M ++ ([.inr (.inl (2, n.toNatClampNeg, fun j => if j < n.toNatClampNeg then some (M.length + 1 + j) else none))] ++ rZeros n.toNatClampNeg k.toNatClampNeg)) (ws ++ ([(q, .inl (ct 2, n.toNatClampNeg, .inr (.inr (.inr (.inr gr)))))] ++ w2)) := by
    refine rRM_app h4 (by simp [rZeros, hlen]) fun j e he => ?_
    rw [← List.append_assoc, hall]
    cases j with
    | zero =>
      cases he
      refine ⟨q, _, rfl, gr, rfl, fun i2 => ?_⟩
      rw [← hgr]
      show rRo _ (if i2 < n.toNatClampNeg then some (M.length + 1 + i2) else none) (if i2 < n.toNatClampNeg then some (rr i2) else none)
      by_cases hi2 : i2 < n.toNatClampNeg
      · rw [if_pos hi2, if_pos hi2]
        refine Or.inr ⟨_, rr i2, rfl, ?_, rfl⟩
        rw [List.getElem?_append_right (by rw [List.length_append, ← hlw]; show M.length + 1 ≤ _; omega)]
        have e9 : M.length + 1 + i2 - (rAd ws ++ [q]).length = i2 := by rw [List.length_append, ← hlw]; simp
        rw [e9]
        exact rAd_at (hat i2 hi2)
      · rw [if_neg hi2, if_neg hi2]
        exact Or.inl ⟨rfl, rfl⟩
    | succ j =>
      have he2 : (rZeros n.toNatClampNeg k.toNatClampNeg)[j]? = some e := by simpa using he
      have hj : j < n.toNatClampNeg := by
        have := (List.getElem?_eq_some_iff.mp he2).1
        simpa [rZeros] using this
      have hee : e = .inl (k.toNatClampNeg, fun _ => 0) := by
        unfold rZeros at he2
        rw [List.getElem?_replicate, if_pos hj] at he2
        exact (Option.some.inj he2).symm
      subst hee
      exact ⟨rr j, _, by rw [List.getElem?_append_right (by simp)]; simpa using hat j hj, rfl⟩
  rw [← List.append_assoc, ← List.append_assoc] at hM1
  have hkk := kk _ H1 locs ls (.ref q :: t2) ⟨lv, h1, rRL_pre hp h2, rRS_mk (rvV_mk (by rw [hall, List.append_assoc, List.getElem?_append_right (by omega), hlw, Nat.sub_self]; rfl)) (rRS_pre hp h3c), hM1, g1, g2, g3, h8.trans hp⟩
  rw [Nat.add_assoc, Nat.add_assoc]
  exact hkk
end RMN
