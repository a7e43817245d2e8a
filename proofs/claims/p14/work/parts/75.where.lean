/-! WHERE THINGS LIE in the shape -/
theorem isSeaA_app {Sk T : List rSk} {b : Nat} (h : isSeaA Sk b) : isSeaA (Sk ++ T) b := by
  obtain ⟨⟨h0, a1, a2, a3, a4, ⟨c0, c1, c2, c3, c4⟩, ⟨e0, e1, e2, e3⟩, ⟨f0, f1, f2, f3⟩⟩, p, q⟩ := h
  exact ⟨⟨h0, at_l a1, at_l a2, at_l a3, at_l a4, ⟨c0, at_l c1, at_l c2, at_l c3, at_l c4⟩, ⟨e0, at_l e1, at_l e2, at_l e3⟩, ⟨f0, at_l f1, at_l f2, at_l f3⟩⟩, fun i hi => ⟨(p i hi).1, at_l (p i hi).2.1, at_l (p i hi).2.2.1, at_l (p i hi).2.2.2⟩, fun i hi => ⟨(q i hi).1, at_l (q i hi).2.1, at_l (q i hi).2.2.1, at_l (q i hi).2.2.2⟩⟩
theorem seaA6 : isSeaA rSkel 6 := by
  have h := isSeaA_mk (Sk := (.inr (.inr (8, [some (some 6), some (some 230), some (some 454), some (some 1), some (some 678), some (some 682), some (some 686), some (some 687), some (some 689), some (some 691), some (some 692), some (some 693), some (some 724), none])) : rSk) :: (([] : List rSk) ++ unSk 1)) (b := 6) (by simp [seSk_len, unSk_len]) (by decide) rfl
  have e : rSkel = (((.inr (.inr (8, [some (some 6), some (some 230), some (some 454), some (some 1), some (some 678), some (some 682), some (some 686), some (some 687), some (some 689), some (some 691), some (some 692), some (some 693), some (some 724), none])) : rSk) :: (([] : List rSk) ++ unSk 1)) ++ seSk 6) ++ (seSk 230 ++ (seSk 454 ++ (rdSk 678 231 ++ (teSk 682 ++ ([.inr (.inr (0, [none]))] ++ ([.inr (.inr (2, [some (some 688), none])), .inl 96] ++ ([.inr (.inr (2, [some (some 690), none])), .inl 32] ++ ([.inl 7] ++ ([.inl 128] ++ (([.inr (.inl (2, 30, fun j => if j < 30 then some (693 + 1 + j) else none))] ++ List.replicate 30 (.inl 200)) ++ ([.inl 30] ++ mdSk 725))))))))))) := by
    rw [← rSkel_eq, clSk, clR]
    simp only [List.append_assoc, List.cons_append]
  rw [e]
  exact isSeaA_app h
theorem sea6 : isSea 6 := seaA6.1
theorem seaA230 : isSeaA rSkel 230 := by
  have h := isSeaA_mk (Sk := (.inr (.inr (8, [some (some 6), some (some 230), some (some 454), some (some 1), some (some 678), some (some 682), some (some 686), some (some 687), some (some 689), some (some 691), some (some 692), some (some 693), some (some 724), none])) : rSk) :: ((([] : List rSk) ++ unSk 1) ++ seSk 6)) (b := 230) (by simp [seSk_len, unSk_len]) (by decide) rfl
  have e : rSkel = (((.inr (.inr (8, [some (some 6), some (some 230), some (some 454), some (some 1), some (some 678), some (some 682), some (some 686), some (some 687), some (some 689), some (some 691), some (some 692), some (some 693), some (some 724), none])) : rSk) :: ((([] : List rSk) ++ unSk 1) ++ seSk 6)) ++ seSk 230) ++ (seSk 454 ++ (rdSk 678 231 ++ (teSk 682 ++ ([.inr (.inr (0, [none]))] ++ ([.inr (.inr (2, [some (some 688), none])), .inl 96] ++ ([.inr (.inr (2, [some (some 690), none])), .inl 32] ++ ([.inl 7] ++ ([.inl 128] ++ (([.inr (.inl (2, 30, fun j => if j < 30 then some (693 + 1 + j) else none))] ++ List.replicate 30 (.inl 200)) ++ ([.inl 30] ++ mdSk 725)))))))))) := by
    rw [← rSkel_eq, clSk, clR]
    simp only [List.append_assoc, List.cons_append]
  rw [e]
  exact isSeaA_app h
theorem sea230 : isSea 230 := seaA230.1
theorem seaA454 : isSeaA rSkel 454 := by
  have h := isSeaA_mk (Sk := (.inr (.inr (8, [some (some 6), some (some 230), some (some 454), some (some 1), some (some 678), some (some 682), some (some 686), some (some 687), some (some 689), some (some 691), some (some 692), some (some 693), some (some 724), none])) : rSk) :: (((([] : List rSk) ++ unSk 1) ++ seSk 6) ++ seSk 230)) (b := 454) (by simp [seSk_len, unSk_len]) (by decide) rfl
  have e : rSkel = (((.inr (.inr (8, [some (some 6), some (some 230), some (some 454), some (some 1), some (some 678), some (some 682), some (some 686), some (some 687), some (some 689), some (some 691), some (some 692), some (some 693), some (some 724), none])) : rSk) :: (((([] : List rSk) ++ unSk 1) ++ seSk 6) ++ seSk 230)) ++ seSk 454) ++ (rdSk 678 231 ++ (teSk 682 ++ ([.inr (.inr (0, [none]))] ++ ([.inr (.inr (2, [some (some 688), none])), .inl 96] ++ ([.inr (.inr (2, [some (some 690), none])), .inl 32] ++ ([.inl 7] ++ ([.inl 128] ++ (([.inr (.inl (2, 30, fun j => if j < 30 then some (693 + 1 + j) else none))] ++ List.replicate 30 (.inl 200)) ++ ([.inl 30] ++ mdSk 725))))))))) := by
    rw [← rSkel_eq, clSk, clR]
    simp only [List.append_assoc, List.cons_append]
  rw [e]
  exact isSeaA_app h
theorem sea454 : isSea 454 := seaA454.1
theorem scr7 : isScr 7 := ⟨by decide, sk_7, sk_8, sk_9, sk_10⟩
theorem scr231 : isScr 231 := ⟨by decide, sk_231, sk_232, sk_233, sk_234⟩
theorem row687 : isRow 687 96 := ⟨by decide, sk_687, sk_688⟩
theorem row689 : isRow 689 32 := ⟨by decide, sk_689, sk_690⟩
