/-! TOLD TREES: told codes that are lists stand among the roots' places -/
section
variable {V : Nat → TV} {D H R : Nat → Prop} {th qa qb sz : Nat → Nat} {tp : Nat}
theorem posA_nm (hT : toT (nmO th) th qa qb sz tp) {c : Nat} (hc : 256 ≤ c ∧ c < 256 + tp) (hn : nmO th (th c) = true) : posA (nmO th) th qa qb sz true c = posA (nmO th) th qa qb sz false c := by
  rw [posA_eq hT true hc, posA_eq hT false hc, hn]
  rfl
theorem tLR_pos (hT : toT (nmO th) th qa qb sz tp) (hs : vSol V D th) (hv : ∀ c, 256 ≤ c ∧ c < 256 + tp → V c = some (.inr (.inr (qa c, qb c)))) (hH : ∀ c, H c → c < 128) {U : Nat → Prop} (hr : ∀ c, 256 ≤ c ∧ c < 256 + tp → R c → ∀ d ∈ posA (nmO th) th qa qb sz true c, U d)
    (hx : ∀ d a b, D d → ¬ (256 ≤ d ∧ d < 256 + tp) → V d = some (.inr (.inr (a, b))) → (256 ≤ a ∧ a < 256 + tp → ∀ e ∈ posA (nmO th) th qa qb sz false a, U e) ∧ ¬ (256 ≤ b ∧ b < 256 + tp)) :
    (∀ c, tLR V D H R th c → 256 ≤ c ∧ c < 256 + tp → ∀ d ∈ posA (nmO th) th qa qb sz true c, U d) ∧ ∀ c, tLt V D H R th c → 256 ≤ c ∧ c < 256 + tp → nmO th (th c) = false ∧ ∀ d ∈ posA (nmO th) th qa qb sz false c, U d := by
  have big : ∀ c, D c → 256 ≤ c ∧ c < 256 + tp → ¬ th c ≤ 11 := fun c dc hc q => by
    have := (hs c dc).2.2 _ _ (hv c hc)
    have := nd_big (th (qa c)) (th (qb c))
    omega
  refine gL_ind (fun c h hc => ?_) (fun c h hc => ?_) (fun d a b dd hp => ?_)
  · rcases h.2 with q | q | q | q
    · exact absurd q (big c h.1 hc)
    · exact absurd q.1 (by unfold isV; omega)
    · exact absurd (hH c q.1) (by omega)
    · exact hr c hc q
  · rcases h.2 with q | q
    · exact absurd q (big c h.1 hc)
    · exact absurd (hH c q.1) (by omega)
  · by_cases hd : 256 ≤ d ∧ d < 256 + tp
    · rw [hv d hd] at hp
      cases hp
      have fa : (∀ e ∈ posA (nmO th) th qa qb sz false (qa d), U e) → (nmO th (th (qa d)) = true → 256 ≤ qa d ∧ qa d < 256 + tp → ∀ e ∈ posA (nmO th) th qa qb sz true (qa d), U e) ∧ (nmO th (th (qa d)) = false → 256 ≤ qa d ∧ qa d < 256 + tp → nmO th (th (qa d)) = false ∧ ∀ e ∈ posA (nmO th) th qa qb sz false (qa d), U e) := fun h => ⟨fun q hc => by rw [posA_nm hT hc q]; exact h, fun q _ => ⟨q, h⟩⟩
      refine ⟨fun g _ e he => ?_, fun g => fa (fun e he => ?_), fun g => ?_⟩
      · refine g hd e ?_
        rw [posA_eq hT true hd, if_pos (show (true || nmO th (th d)) = true from rfl)]
        exact List.mem_cons_of_mem _ (List.mem_append_right _ he)
      · rcases g with g | g
        · refine g hd e ?_
          rw [posA_eq hT true hd, if_pos (show (true || nmO th (th d)) = true from rfl)]
          exact List.mem_cons_of_mem _ (List.mem_append_left _ he)
        · obtain ⟨g1, g2⟩ := g hd
          refine g2 e ?_
          rw [posA_eq hT false hd, g1, if_neg (show ¬ (false || false) = true by decide)]
          exact List.mem_append_left _ he
      · have h : 256 ≤ qb d ∧ qb d < 256 + tp → ∀ e ∈ posA (nmO th) th qa qb sz false (qb d), U e := fun _ e he => by
          obtain ⟨g1, g2⟩ := g hd
          refine g2 e ?_
          rw [posA_eq hT false hd, g1, if_neg (show ¬ (false || false) = true by decide)]
          exact List.mem_append_right _ he
        exact ⟨fun q hc => by rw [posA_nm hT hc q]; exact h hc, fun q hc => ⟨q, h hc⟩⟩
    · obtain ⟨x1, x2⟩ := hx d a b dd hd hp
      exact ⟨fun _ hc => absurd hc x2, fun _ => ⟨fun q hc => by rw [posA_nm hT hc q]; exact x1 hc, fun q hc => ⟨q, x1 hc⟩⟩, fun _ => ⟨fun _ hc => absurd hc x2, fun _ hc => absurd hc x2⟩⟩
end
