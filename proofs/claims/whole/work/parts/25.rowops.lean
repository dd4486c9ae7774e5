theorem pInv_rows {k : Nat} {σ σ' : gM} (h : pInv k σ) (e : ∀ a, a ≠ 0 → a ≠ 82 → (a < 2 ∨ 17 < a) → a ≠ 83 → a ≠ 84 → a ≠ 85 → σ' a = σ a) (f : ∀ j, j ≠ 11 → σ' 0 j = σ 0 j) (g : ∀ j, j ≠ 3 → σ' 82 j = σ 82 j) (hs : σ' 0 11 = σ' 82 3) (hr : pRows σ') : pInv k σ' := by
  obtain ⟨a1, a2, a3, a4, a5, a6, a7, a8, a9, a10⟩ := h
  exact ⟨hr, hs, by rw [f _ (by omega), g _ (by omega)]; exact a3,
    pTape_fr (by rw [e _ (by omega) (by omega) (by omega) (by omega) (by omega) (by omega)]) (g _ (by omega)) (e _ (by omega) (by omega) (by omega) (by omega) (by omega) (by omega)) (e _ (by omega) (by omega) (by omega) (by omega) (by omega) (by omega)) a4,
    pTrace_fr (f _ (by omega)) (g _ (by omega)) (e _ (by omega) (by omega) (by omega) (by omega) (by omega) (by omega)) (e _ (by omega) (by omega) (by omega) (by omega) (by omega) (by omega)) a5,
    pStands_fr (by rw [e _ (by omega) (by omega) (by omega) (by omega) (by omega) (by omega)]) (e _ (by omega) (by omega) (by omega) (by omega) (by omega) (by omega)) a6,
    pMkt_fr (fun a b1 b2 => e _ (by omega) (by omega) (by omega) (by omega) (by omega) (by omega)) (e _ (by omega) (by omega) (by omega) (by omega) (by omega) (by omega)) a7,
    pImg_fr (fun a b1 b2 => e _ (by omega) (by omega) (by omega) (by omega) (by omega) (by omega)) (e _ (by omega) (by omega) (by omega) (by omega) (by omega) (by omega)) (e _ (by omega) (by omega) (by omega) (by omega) (by omega) (by omega)) a8,
    pImg_fr (fun a b1 b2 => e _ (by omega) (by omega) (by omega) (by omega) (by omega) (by omega)) (e _ (by omega) (by omega) (by omega) (by omega) (by omega) (by omega)) (e _ (by omega) (by omega) (by omega) (by omega) (by omega) (by omega)) a9,
    pActs_fr (g _ (by omega)) (e _ (by omega) (by omega) (by omega) (by omega) (by omega) (by omega)) (e _ (by omega) (by omega) (by omega) (by omega) (by omega) (by omega)) (e _ (by omega) (by omega) (by omega) (by omega) (by omega) (by omega)) (e _ (by omega) (by omega) (by omega) (by omega) (by omega) (by omega)) (e _ (by omega) (by omega) (by omega) (by omega) (by omega) (by omega)) (e _ (by omega) (by omega) (by omega) (by omega) (by omega) (by omega)) a10⟩
theorem op_row {k : Nat} {x1 x2 x3 : Int32} {σ : gM} (h : pInv k σ) : pBoth (wH_row x1 x2 x3) (wM_row x1 x2 x3) σ (pInv k) := by
  unfold pBoth wH_row
  rcases i_nat x1 with h1 | ⟨r, hr, rfl⟩
  · simp (disch := first | assumption | omega | decide) only [li0, li1, li2, li3, li4, li5, li6, li7, li8, li9, li10, li11, li12, li13, li14, li16, li17, li20, li21, li22, li23, li24, li30, li32, li40, li48, li57, li59, li63, li86, li97, li99, li100, li102, li115, li122, li200, li255, li289, li320, li400, li720, li999, li1000, nI_add, pk_mul, nI_sub, nI_clamp, vinT, Nat.le_refl, Nat.reduceLeDiff, Nat.reduceLT, Nat.reduceEqDiff, Nat.reduceAdd, Nat.reduceMul, Nat.reduceSub, forall_eq, true_and, and_true, not_true_eq_false, not_false_eq_true, false_implies, true_implies, implies_true, if_true, if_false, ite_self, nI_eqI, nI_leI2, nI_ltI2, ng_lt, ng_le, ng_gt, ng_ge, ng_eq, ng_qe, wM_row, eH_isNoRow, eM_isRow]
    exact h
  · by_cases hr8 : r < 8
    · have hr7 : ¬ 7 < r := by omega
      rcases i_nat x2 with h2 | ⟨l, hl, rfl⟩
      · simp (disch := first | assumption | omega | decide) only [li0, li1, li2, li3, li4, li5, li6, li7, li8, li9, li10, li11, li12, li13, li14, li16, li17, li20, li21, li22, li23, li24, li30, li32, li40, li48, li57, li59, li63, li86, li97, li99, li100, li102, li115, li122, li200, li255, li289, li320, li400, li720, li999, li1000, nI_add, pk_mul, nI_sub, nI_clamp, vinT, Nat.le_refl, Nat.reduceLeDiff, Nat.reduceLT, Nat.reduceEqDiff, Nat.reduceAdd, Nat.reduceMul, Nat.reduceSub, forall_eq, true_and, and_true, not_true_eq_false, not_false_eq_true, false_implies, true_implies, implies_true, if_true, if_false, ite_self, nI_eqI, nI_leI2, nI_ltI2, ng_lt, ng_le, ng_gt, ng_ge, ng_eq, ng_qe, wM_row, eH_isNoRow, eM_isRow, hr8, hr7, Nat.not_lt_zero, eM_in]
        exact h
      · by_cases hl2 : 2 < l
        · simp (disch := first | assumption | omega | decide) only [li0, li1, li2, li3, li4, li5, li6, li7, li8, li9, li10, li11, li12, li13, li14, li16, li17, li20, li21, li22, li23, li24, li30, li32, li40, li48, li57, li59, li63, li86, li97, li99, li100, li102, li115, li122, li200, li255, li289, li320, li400, li720, li999, li1000, nI_add, pk_mul, nI_sub, nI_clamp, vinT, Nat.le_refl, Nat.reduceLeDiff, Nat.reduceLT, Nat.reduceEqDiff, Nat.reduceAdd, Nat.reduceMul, Nat.reduceSub, forall_eq, true_and, and_true, not_true_eq_false, not_false_eq_true, false_implies, true_implies, implies_true, if_true, if_false, ite_self, nI_eqI, nI_leI2, nI_ltI2, ng_lt, ng_le, ng_gt, ng_ge, ng_eq, ng_qe, wM_row, eH_isNoRow, eM_isRow, hr8, hr7, Nat.not_lt_zero, eM_in, hl2]
          exact h
        · rcases i_nat x3 with h3 | ⟨n, hn, rfl⟩
          · simp (disch := first | assumption | omega | decide) only [li0, li1, li2, li3, li4, li5, li6, li7, li8, li9, li10, li11, li12, li13, li14, li16, li17, li20, li21, li22, li23, li24, li30, li32, li40, li48, li57, li59, li63, li86, li97, li99, li100, li102, li115, li122, li200, li255, li289, li320, li400, li720, li999, li1000, nI_add, pk_mul, nI_sub, nI_clamp, vinT, Nat.le_refl, Nat.reduceLeDiff, Nat.reduceLT, Nat.reduceEqDiff, Nat.reduceAdd, Nat.reduceMul, Nat.reduceSub, forall_eq, true_and, and_true, not_true_eq_false, not_false_eq_true, false_implies, true_implies, implies_true, if_true, if_false, ite_self, nI_eqI, nI_leI2, nI_ltI2, ng_lt, ng_le, ng_gt, ng_ge, ng_eq, ng_qe, wM_row, eH_isNoRow, eM_isRow, hr8, hr7, Nat.not_lt_zero, eM_in, hl2, wH_found, wM_finds]
            exact ⟨trivial, pInv_st _ h⟩
          · by_cases hn40 : n ≤ 40
            · simp (disch := first | assumption | omega | decide) only [li0, li1, li2, li3, li4, li5, li6, li7, li8, li9, li10, li11, li12, li13, li14, li16, li17, li20, li21, li22, li23, li24, li30, li32, li40, li48, li57, li59, li63, li86, li97, li99, li100, li102, li115, li122, li200, li255, li289, li320, li400, li720, li999, li1000, nI_add, pk_mul, nI_sub, nI_clamp, vinT, Nat.le_refl, Nat.reduceLeDiff, Nat.reduceLT, Nat.reduceEqDiff, Nat.reduceAdd, Nat.reduceMul, Nat.reduceSub, forall_eq, true_and, and_true, not_true_eq_false, not_false_eq_true, false_implies, true_implies, implies_true, if_true, if_false, ite_self, nI_eqI, nI_leI2, nI_ltI2, ng_lt, ng_le, ng_gt, ng_ge, ng_eq, ng_qe, eH_isNoRow, hr8, hr7, Nat.not_lt_zero, Nat.zero_le, hl2, hn40]
              refine s_begin ?_
              simp (disch := first | assumption | omega | decide) only [li0, li1, li2, li3, li4, li5, li6, li7, li8, li9, li10, li11, li12, li13, li14, li16, li17, li20, li21, li22, li23, li24, li30, li32, li40, li48, li57, li59, li63, li86, li97, li99, li100, li102, li115, li122, li200, li255, li289, li320, li400, li720, li999, li1000, nI_add, pk_mul, nI_sub, nI_clamp, vinT, Nat.le_refl, Nat.reduceLeDiff, Nat.reduceLT, Nat.reduceEqDiff, Nat.reduceAdd, Nat.reduceMul, Nat.reduceSub, forall_eq, true_and, and_true, not_true_eq_false, not_false_eq_true, false_implies, true_implies, implies_true, if_true, if_false, ite_self, nI_eqI, nI_leI2, nI_ltI2, ng_lt, ng_le, ng_gt, ng_ge, ng_eq, ng_qe, wM_row, eM_isRow, hr7, Nat.not_lt_zero, Nat.zero_le, eM_in, hl2, hn40, wH_unfound]
              refine ⟨n + 1, s_M_row_l hr8 hn40 n 0 _ _ (by omega) (gFn_0 _ _ _ _).symm ⟨rfl, pInv_rows h ?_ ?_ ?_ ?_ ?_⟩⟩
              · intro a b1 b2 b3 b4 b5 b6
                simp (disch := first | assumption | omega | decide) only [gU_ne, gFn_ne]
              · intro j hj
                simp (disch := first | assumption | omega | decide) only [gU_ne, gFn_ne, gU_off]
              · intro j hj
                simp (disch := first | assumption | omega | decide) only [gU_ne, gFn_ne, gU_off]
              · simp (disch := first | assumption | omega | decide) only [gU_ne, gFn_ne, gU_eq]
              · intro r' hr'
                by_cases e : r' = r
                · subst e
                  right
                  refine ⟨?_, l, n, by omega, hn40, ?_, ?_, ?_, ?_, fun i hi => ?_⟩
                  · simp (disch := first | assumption | omega | decide) only [gU_ne, gFn_ne, gU_off, gU_eq]
                  · simp (disch := first | assumption | omega | decide) only [gU_ne, gFn_ne, gU_off, gU_eq]
                  · simp (disch := first | assumption | omega | decide) only [gU_ne, gFn_ne, gU_off, gU_eq]
                  · simp (disch := first | assumption | omega | decide) only [gU_ne, gFn_ne, gU_off, gU_eq]
                  · simp (disch := first | assumption | omega | decide) only [gU_ne, gFn_ne, gU_off, gU_eq]
                  · simp (disch := first | assumption | omega | decide) only [gU_ne, gFn_ne, gU_off, gU_eq, gFn_in]
                · simp (disch := first | assumption | omega | decide) only [gU_ne, gFn_ne, gU_off]
                  rcases h.1 r' hr' with q | ⟨q1, l2, n2, q2, q3, q4, q5, q6, q7, q8⟩
                  · exact Or.inl q
                  · refine Or.inr ⟨q1, l2, n2, q2, q3, q4, q5, q6, q7, fun i hi => ?_⟩
                    have ho : 40 * r' + i < 40 * r ∨ 40 * r + n ≤ 40 * r' + i := by omega
                    simp (disch := first | assumption | omega | decide) only [gFn_out]
                    exact q8 i hi
            · simp (disch := first | assumption | omega | decide) only [li0, li1, li2, li3, li4, li5, li6, li7, li8, li9, li10, li11, li12, li13, li14, li16, li17, li20, li21, li22, li23, li24, li30, li32, li40, li48, li57, li59, li63, li86, li97, li99, li100, li102, li115, li122, li200, li255, li289, li320, li400, li720, li999, li1000, nI_add, pk_mul, nI_sub, nI_clamp, vinT, Nat.le_refl, Nat.reduceLeDiff, Nat.reduceLT, Nat.reduceEqDiff, Nat.reduceAdd, Nat.reduceMul, Nat.reduceSub, forall_eq, true_and, and_true, not_true_eq_false, not_false_eq_true, false_implies, true_implies, implies_true, if_true, if_false, ite_self, nI_eqI, nI_leI2, nI_ltI2, ng_lt, ng_le, ng_gt, ng_ge, ng_eq, ng_qe, wM_row, eH_isNoRow, eM_isRow, hr8, hr7, Nat.not_lt_zero, eM_in, hl2, hn40]
              exact h
    · have hr7 : 7 < r := by omega
      simp (disch := first | assumption | omega | decide) only [li0, li1, li2, li3, li4, li5, li6, li7, li8, li9, li10, li11, li12, li13, li14, li16, li17, li20, li21, li22, li23, li24, li30, li32, li40, li48, li57, li59, li63, li86, li97, li99, li100, li102, li115, li122, li200, li255, li289, li320, li400, li720, li999, li1000, nI_add, pk_mul, nI_sub, nI_clamp, vinT, Nat.le_refl, Nat.reduceLeDiff, Nat.reduceLT, Nat.reduceEqDiff, Nat.reduceAdd, Nat.reduceMul, Nat.reduceSub, forall_eq, true_and, and_true, not_true_eq_false, not_false_eq_true, false_implies, true_implies, implies_true, if_true, if_false, ite_self, nI_eqI, nI_leI2, nI_ltI2, ng_lt, ng_le, ng_gt, ng_ge, ng_eq, ng_qe, wM_row, eH_isNoRow, eM_isRow, hr8, hr7, Nat.not_lt_zero]
      exact h
