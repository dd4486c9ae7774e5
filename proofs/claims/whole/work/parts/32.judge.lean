theorem e_stands {k : Nat} {σ : gM} (h : pInv k σ) : σ 42 0 = σ 89 0 ∧ (σ 89 0 = nI 0 ∨ σ 89 0 = nI 1) := h.2.2.2.2.2.1
theorem op_judge {k : Nat} {x1 x2 x3 : Int32} {σ : gM} (h : pInv k σ) : pBoth (wH_judge x1 x2 x3) (wM_judge x1 x2 x3) σ (pInv k) := by
  obtain ⟨nb, nw, nl, hp, hM, hW⟩ := h.2.2.2.2.2.2.1
  have hn : nw ≤ 16 := hW.2.2.2.2.1
  have hl : nl ≤ nw := hW.2.2.2.2.2.1
  obtain ⟨es, h01⟩ := e_stands h
  have n01 : ¬ nI 1 = nI 0 := by decide
  unfold pBoth wH_judge
  rcases h01 with z | z
  · simp only [es, z, Nat.le_refl, Nat.reduceLeDiff, Nat.reduceLT, Nat.reduceEqDiff, Nat.reduceAdd, Nat.reduceMul, Nat.reduceSub, forall_eq, true_and, and_true, not_true_eq_false, not_false_eq_true, false_implies, true_implies, implies_true, if_true, if_false, ite_self, wM_judge]
    exact h
  simp only [es, z, n01, Nat.le_refl, Nat.reduceLeDiff, Nat.reduceLT, Nat.reduceEqDiff, Nat.reduceAdd, Nat.reduceMul, Nat.reduceSub, forall_eq, true_and, and_true, not_true_eq_false, not_false_eq_true, false_implies, true_implies, implies_true, if_true, if_false, ite_self, wM_judge]
  rcases i_nat x1 with h1 | ⟨r, hr, rfl⟩
  · simp (disch := first | assumption | omega | decide) only [li0, li1, li2, li3, li4, li5, li6, li7, li8, li9, li10, li11, li12, li13, li14, li16, li17, li20, li21, li22, li23, li24, li30, li32, li40, li48, li57, li59, li63, li86, li97, li99, li100, li102, li115, li122, li200, li255, li289, li320, li400, li720, li999, li1000, nI_add, pk_mul, nI_sub, nI_clamp, vinT, Nat.le_refl, Nat.reduceLeDiff, Nat.reduceLT, Nat.reduceEqDiff, Nat.reduceAdd, Nat.reduceMul, Nat.reduceSub, forall_eq, true_and, and_true, not_true_eq_false, not_false_eq_true, false_implies, true_implies, implies_true, if_true, if_false, ite_self, nI_eqI, nI_leI2, nI_ltI2, ng_lt, ng_le, ng_gt, ng_ge, ng_eq, ng_qe, eH_isNoRow, z, eM_isRow]
    exact h
  by_cases hr8 : r < 8
  · have hr7 : ¬ 7 < r := by omega
    rcases i_nat x3 with h3 | ⟨n, hn3, rfl⟩
    · simp (disch := first | assumption | omega | decide) only [li0, li1, li2, li3, li4, li5, li6, li7, li8, li9, li10, li11, li12, li13, li14, li16, li17, li20, li21, li22, li23, li24, li30, li32, li40, li48, li57, li59, li63, li86, li97, li99, li100, li102, li115, li122, li200, li255, li289, li320, li400, li720, li999, li1000, nI_add, pk_mul, nI_sub, nI_clamp, vinT, Nat.le_refl, Nat.reduceLeDiff, Nat.reduceLT, Nat.reduceEqDiff, Nat.reduceAdd, Nat.reduceMul, Nat.reduceSub, forall_eq, true_and, and_true, not_true_eq_false, not_false_eq_true, false_implies, true_implies, implies_true, if_true, if_false, ite_self, nI_eqI, nI_leI2, nI_ltI2, ng_lt, ng_le, ng_gt, ng_ge, ng_eq, ng_qe, eH_isNoRow, z, eM_isRow, hr8, hr7, Nat.not_lt_zero, eM_in]
      exact h
    by_cases hn16 : 1 ≤ n ∧ n ≤ 16
    · obtain ⟨c, c1, c2, c3, c4⟩ := e_find h.1 hr8 x2 hn3
      have c3s := fun v Q => c3 (gU σ 0 11 v) Q (gU_ne (by decide)) (gU_ne (by decide))
      have c3t := fun Q => c3 σ Q rfl rfl
      have a1 : ¬ n < 1 := by omega
      have a2 : ¬ 16 < n := by omega
      have a3 : n ≤ 16 := hn16.2
      simp (disch := first | assumption | omega | decide) only [li0, li1, li2, li3, li4, li5, li6, li7, li8, li9, li10, li11, li12, li13, li14, li16, li17, li20, li21, li22, li23, li24, li30, li32, li40, li48, li57, li59, li63, li86, li97, li99, li100, li102, li115, li122, li200, li255, li289, li320, li400, li720, li999, li1000, nI_add, pk_mul, nI_sub, nI_clamp, vinT, Nat.le_refl, Nat.reduceLeDiff, Nat.reduceLT, Nat.reduceEqDiff, Nat.reduceAdd, Nat.reduceMul, Nat.reduceSub, forall_eq, true_and, and_true, not_true_eq_false, not_false_eq_true, false_implies, true_implies, implies_true, if_true, if_false, ite_self, nI_eqI, nI_leI2, nI_ltI2, eH_isNoRow, hr8, Nat.not_lt_zero, a1, a3, c2]
      by_cases hc : c = 0
      · obtain ⟨i, rfl, hin, hit⟩ := c4 hc
        have hit2 : ∀ t, t < n → σ (2 + 2 * r + 1) (i + t) = (fun t => σ 85 (40 * r + i + t)) t := hit
        subst hc
        simp (disch := first | assumption | omega | decide) only [Nat.le_refl, Nat.reduceLeDiff, Nat.reduceLT, Nat.reduceEqDiff, Nat.reduceAdd, Nat.reduceMul, Nat.reduceSub, forall_eq, true_and, and_true, not_true_eq_false, not_false_eq_true, false_implies, true_implies, implies_true, if_true, if_false, ite_self, hM.2.2.2.1]
        refine s_below hin hit2 (fun hy => ?_) (fun hno => ?_)
        · simp (disch := first | assumption | omega | decide) only [Nat.le_refl, Nat.reduceLeDiff, Nat.reduceLT, Nat.reduceEqDiff, Nat.reduceAdd, Nat.reduceMul, Nat.reduceSub, forall_eq, true_and, and_true, not_true_eq_false, not_false_eq_true, false_implies, true_implies, implies_true, if_true, if_false, ite_self, n01, wS_firstWrong_row, nI_clamp, hM.2.2.2.2.1, vinT]
          have eh : ∀ j, j < nl → σ 51 j = nI (hp j) := fun j hj => (hM.2.2.2.2.2.2.2 j hj).trans (hW.2.2.2.2.2.2.2.2.1 j hj).2.1
          refine ⟨n + 1, s_J_H hin (by omega) eh hit2 n 0 0 nl (by omega) (by omega) (Nat.le_refl _) ?_⟩
          simp (disch := first | assumption | omega | decide) only [li0, li1, li2, li3, li4, li5, li6, li7, li8, li9, li10, li11, li12, li13, li14, li16, li17, li20, li21, li22, li23, li24, li30, li32, li40, li48, li57, li59, li63, li86, li97, li99, li100, li102, li115, li122, li200, li255, li289, li320, li400, li720, li999, li1000, nI_add, pk_mul, nI_sub, nI_clamp, vinT, Nat.le_refl, Nat.reduceLeDiff, Nat.reduceLT, Nat.reduceEqDiff, Nat.reduceAdd, Nat.reduceMul, Nat.reduceSub, forall_eq, true_and, and_true, not_true_eq_false, not_false_eq_true, false_implies, true_implies, implies_true, if_true, if_false, ite_self, nI_eqI, nI_leI2, nI_ltI2, wH_unfound, z, eM_isRow, hr7, Nat.not_lt_zero, eM_in, a1, a2, c3s, gU_ne]
          refine ⟨n + 1, s_judge_yes (c := nw) (it := fun t => σ 85 (40 * r + i + t)) hr8 hin (by rw [gU_ne (by decide)]; exact hW.2.1) hn (fun t ht => by rw [gU_ne (by decide)]) ?_ n 0 (by omega) (fun s _ hs => hy s hs)⟩
          refine ⟨n + 1, ?_⟩
          rw [gU_ne (by decide), hW.2.2.1]
          refine s_J_M hr8 hin (by omega) (fun j hj => by rw [gU_ne (by decide)]; exact (hW.2.2.2.2.2.2.2.2.1 j hj).2.1) (fun t ht => by rw [gU_ne (by decide)]) n 0 0 nl (by omega) (by omega) (Nat.le_refl _) ⟨rfl, ?_⟩
          exact pInv_st _ h
        · simp (disch := first | assumption | omega | decide) only [li0, li1, li2, li3, li4, li5, li6, li7, li8, li9, li10, li11, li12, li13, li14, li16, li17, li20, li21, li22, li23, li24, li30, li32, li40, li48, li57, li59, li63, li86, li97, li99, li100, li102, li115, li122, li200, li255, li289, li320, li400, li720, li999, li1000, nI_add, pk_mul, nI_sub, nI_clamp, vinT, Nat.le_refl, Nat.reduceLeDiff, Nat.reduceLT, Nat.reduceEqDiff, Nat.reduceAdd, Nat.reduceMul, Nat.reduceSub, forall_eq, true_and, and_true, not_true_eq_false, not_false_eq_true, false_implies, true_implies, implies_true, if_true, if_false, ite_self, nI_eqI, nI_leI2, nI_ltI2, z, eM_isRow, hr7, Nat.not_lt_zero, eM_in, a1, a2, c3t]
          exact ⟨n + 1, s_judge_no (c := nw) (it := fun t => σ 85 (40 * r + i + t)) hr8 hin hW.2.1 hn (fun t ht => rfl) ⟨rfl, h⟩ n 0 (by omega) (by obtain ⟨s, a, b⟩ := hno; exact ⟨s, by omega, a, b⟩)⟩
      · simp (disch := first | assumption | omega | decide) only [li0, li1, li2, li3, li4, li5, li6, li7, li8, li9, li10, li11, li12, li13, li14, li16, li17, li20, li21, li22, li23, li24, li30, li32, li40, li48, li57, li59, li63, li86, li97, li99, li100, li102, li115, li122, li200, li255, li289, li320, li400, li720, li999, li1000, nI_add, pk_mul, nI_sub, nI_clamp, vinT, Nat.le_refl, Nat.reduceLeDiff, Nat.reduceLT, Nat.reduceEqDiff, Nat.reduceAdd, Nat.reduceMul, Nat.reduceSub, forall_eq, true_and, and_true, not_true_eq_false, not_false_eq_true, false_implies, true_implies, implies_true, if_true, if_false, ite_self, nI_eqI, nI_leI2, nI_ltI2, hc, wH_found, z, eM_isRow, hr7, Nat.not_lt_zero, eM_in, a1, a2, c3s, gU_ne, wM_finds]
        exact pInv_st _ h
    · have a12 : n < 1 ∨ 16 < n := by omega
      rcases a12 with a1 | a2
      · simp (disch := first | assumption | omega | decide) only [li0, li1, li2, li3, li4, li5, li6, li7, li8, li9, li10, li11, li12, li13, li14, li16, li17, li20, li21, li22, li23, li24, li30, li32, li40, li48, li57, li59, li63, li86, li97, li99, li100, li102, li115, li122, li200, li255, li289, li320, li400, li720, li999, li1000, nI_add, pk_mul, nI_sub, nI_clamp, vinT, Nat.le_refl, Nat.reduceLeDiff, Nat.reduceLT, Nat.reduceEqDiff, Nat.reduceAdd, Nat.reduceMul, Nat.reduceSub, forall_eq, true_and, and_true, not_true_eq_false, not_false_eq_true, false_implies, true_implies, implies_true, if_true, if_false, ite_self, nI_eqI, nI_leI2, nI_ltI2, eH_isNoRow, z, eM_isRow, hr8, hr7, Nat.not_lt_zero, eM_in, a1]
        exact h
      · have a1 : ¬ n < 1 := by omega
        have a3 : ¬ n ≤ 16 := by omega
        simp (disch := first | assumption | omega | decide) only [li0, li1, li2, li3, li4, li5, li6, li7, li8, li9, li10, li11, li12, li13, li14, li16, li17, li20, li21, li22, li23, li24, li30, li32, li40, li48, li57, li59, li63, li86, li97, li99, li100, li102, li115, li122, li200, li255, li289, li320, li400, li720, li999, li1000, nI_add, pk_mul, nI_sub, nI_clamp, vinT, Nat.le_refl, Nat.reduceLeDiff, Nat.reduceLT, Nat.reduceEqDiff, Nat.reduceAdd, Nat.reduceMul, Nat.reduceSub, forall_eq, true_and, and_true, not_true_eq_false, not_false_eq_true, false_implies, true_implies, implies_true, if_true, if_false, ite_self, nI_eqI, nI_leI2, nI_ltI2, eH_isNoRow, z, eM_isRow, hr8, hr7, Nat.not_lt_zero, eM_in, a1, a2, a3]
        exact h
  · have hr7 : 7 < r := by omega
    simp (disch := first | assumption | omega | decide) only [li0, li1, li2, li3, li4, li5, li6, li7, li8, li9, li10, li11, li12, li13, li14, li16, li17, li20, li21, li22, li23, li24, li30, li32, li40, li48, li57, li59, li63, li86, li97, li99, li100, li102, li115, li122, li200, li255, li289, li320, li400, li720, li999, li1000, nI_add, pk_mul, nI_sub, nI_clamp, vinT, Nat.le_refl, Nat.reduceLeDiff, Nat.reduceLT, Nat.reduceEqDiff, Nat.reduceAdd, Nat.reduceMul, Nat.reduceSub, forall_eq, true_and, and_true, not_true_eq_false, not_false_eq_true, false_implies, true_implies, implies_true, if_true, if_false, ite_self, nI_eqI, nI_leI2, nI_ltI2, ng_lt, ng_le, ng_gt, ng_ge, ng_eq, ng_qe, eH_isNoRow, z, eM_isRow, hr8, hr7, Nat.not_lt_zero]
    exact h
