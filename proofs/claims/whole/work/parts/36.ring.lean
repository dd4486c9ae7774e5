theorem op_ring {k : Nat} {x1 x2 x3 : Int32} {σ : gM} (hk : k ≤ 100) (h : pInv k σ) : pBoth (wH_ring x1 x2 x3) (wM_ring x1 x2 x3) σ (pInv k) := by
  obtain ⟨nb, nw, nl, hp, hM, hW⟩ := h.2.2.2.2.2.2.1
  have hn : nw ≤ 16 := hW.2.2.2.2.1
  have hl : nl ≤ nw := hW.2.2.2.2.2.1
  have hnb : nb ≤ 4 := hW.2.2.2.1
  have n01 : ¬ nI 1 = nI 0 := by decide
  unfold pBoth wH_ring
  rcases e_two hnb x1 x2 hM.2.2.1 hW.1 with ⟨⟨a, b, ha, hb, hab, rfl, rfl⟩, eH, eM⟩ | ⟨eH, eM⟩
  · rw [eH]
    rcases i_nat x3 with hx | ⟨y, hy, rfl⟩
    · simp (disch := first | assumption | omega | decide) only [li0, li1, li2, li3, li4, li5, li6, li7, li8, li9, li10, li11, li12, li13, li14, li16, li17, li20, li21, li22, li23, li24, li30, li32, li40, li48, li57, li59, li63, li86, li97, li99, li100, li102, li115, li122, li200, li255, li289, li320, li400, li720, li999, li1000, nI_add, pk_mul, nI_sub, nI_clamp, vinT, Nat.le_refl, Nat.reduceLeDiff, Nat.reduceLT, Nat.reduceEqDiff, Nat.reduceAdd, Nat.reduceMul, Nat.reduceSub, forall_eq, true_and, and_true, not_true_eq_false, not_false_eq_true, false_implies, true_implies, implies_true, if_true, if_false, ite_self, nI_eqI, nI_leI2, nI_ltI2, ng_lt, ng_le, ng_gt, ng_ge, ng_eq, ng_qe, wM_ring, fun Q => eM σ Q hW.1, eM_in]
      exact h
    by_cases hy1 : y ≤ 1
    · have hy2 : ¬ 1 < y := by omega
      by_cases hz : nl = 0
      · subst hz
        simp (disch := first | assumption | omega | decide) only [li0, li1, li2, li3, li4, li5, li6, li7, li8, li9, li10, li11, li12, li13, li14, li16, li17, li20, li21, li22, li23, li24, li30, li32, li40, li48, li57, li59, li63, li86, li97, li99, li100, li102, li115, li122, li200, li255, li289, li320, li400, li720, li999, li1000, nI_add, pk_mul, nI_sub, nI_clamp, vinT, Nat.le_refl, Nat.reduceLeDiff, Nat.reduceLT, Nat.reduceEqDiff, Nat.reduceAdd, Nat.reduceMul, Nat.reduceSub, forall_eq, true_and, and_true, not_true_eq_false, not_false_eq_true, false_implies, true_implies, implies_true, if_true, if_false, ite_self, nI_eqI, nI_leI2, nI_ltI2, Nat.not_lt_zero, hy1, hM.2.2.2.2.1]
        unfold wM_ring
        rw [eM σ _ hW.1]
        simp (disch := first | assumption | omega | decide) only [li0, li1, li2, li3, li4, li5, li6, li7, li8, li9, li10, li11, li12, li13, li14, li16, li17, li20, li21, li22, li23, li24, li30, li32, li40, li48, li57, li59, li63, li86, li97, li99, li100, li102, li115, li122, li200, li255, li289, li320, li400, li720, li999, li1000, nI_add, pk_mul, nI_sub, nI_clamp, vinT, Nat.le_refl, Nat.reduceLeDiff, Nat.reduceLT, Nat.reduceEqDiff, Nat.reduceAdd, Nat.reduceMul, Nat.reduceSub, forall_eq, true_and, and_true, not_true_eq_false, not_false_eq_true, false_implies, true_implies, implies_true, if_true, if_false, ite_self, nI_eqI, nI_leI2, nI_ltI2, eM_in, Nat.not_lt_zero, hy2, hW.2.2.1]
        refine ⟨1, ?_⟩
        rw [wM_ring_l40]
        simp (disch := first | assumption | omega | decide) only [li0, li1, li2, li3, li4, li5, li6, li7, li8, li9, li10, li11, li12, li13, li14, li16, li17, li20, li21, li22, li23, li24, li30, li32, li40, li48, li57, li59, li63, li86, li97, li99, li100, li102, li115, li122, li200, li255, li289, li320, li400, li720, li999, li1000, nI_add, pk_mul, nI_sub, nI_clamp, vinT, Nat.le_refl, Nat.reduceLeDiff, Nat.reduceLT, Nat.reduceEqDiff, Nat.reduceAdd, Nat.reduceMul, Nat.reduceSub, forall_eq, true_and, and_true, not_true_eq_false, not_false_eq_true, false_implies, true_implies, implies_true, if_true, if_false, ite_self, nI_eqI, nI_leI2, nI_ltI2, ite_self]
        exact h
      · simp (disch := first | assumption | omega | decide) only [li0, li1, li2, li3, li4, li5, li6, li7, li8, li9, li10, li11, li12, li13, li14, li16, li17, li20, li21, li22, li23, li24, li30, li32, li40, li48, li57, li59, li63, li86, li97, li99, li100, li102, li115, li122, li200, li255, li289, li320, li400, li720, li999, li1000, nI_add, pk_mul, nI_sub, nI_clamp, vinT, Nat.le_refl, Nat.reduceLeDiff, Nat.reduceLT, Nat.reduceEqDiff, Nat.reduceAdd, Nat.reduceMul, Nat.reduceSub, forall_eq, true_and, and_true, not_true_eq_false, not_false_eq_true, false_implies, true_implies, implies_true, if_true, if_false, ite_self, nI_eqI, nI_leI2, nI_ltI2, Nat.not_lt_zero, hy1, hM.2.2.2.2.1, hz]
        refine s_seat hM hW ha hb (fun σ1 hS => ?_)
        have hpl : ∀ j, j < nl → hp j < 16 := fun j hj => by have := (hW.2.2.2.2.2.2.2.2.1 j hj).1; omega
        have hSl : ∀ j, j < nl → hp j < 16 ∧ σ1 26 j = nI (hp j) ∧ σ1 27 (hp j) = pVT (σ 89) a (hp j) (nI 0) ∧ σ1 28 (hp j) = pVT (σ 89) b (hp j) (nI 0) := fun j hj => ⟨hpl j hj, hS.2.2.2 j hj⟩
        have hg : ∀ c, c < nl → (pG (fun i => pVT (σ 89) a (hp (pRo nl c i)) (nI 0)) (fun i => pVT (σ 89) b (hp (pRo nl c i)) (nI 0)) (fun len => pTurn (σ 89 1) (nl - len + 0)) nl 0).1.toNatClampNeg < 2147483648 ∧ (pG (fun i => pVT (σ 89) a (hp (pRo nl c i)) (nI 0)) (fun i => pVT (σ 89) b (hp (pRo nl c i)) (nI 0)) (fun len => pTurn (σ 89 1) (nl - len + 0)) nl 0).1 = nI (pG (fun i => pVT (σ 89) a (hp (pRo nl c i)) (nI 0)) (fun i => pVT (σ 89) b (hp (pRo nl c i)) (nI 0)) (fun len => pTurn (σ 89 1) (nl - len + 0)) nl 0).1.toNatClampNeg := fun c hc => by
          obtain ⟨u, v, u1, v1, e⟩ := pG_nI (tf := fun len => pTurn (σ 89 1) (nl - len + 0)) (la := fun i => pVT (σ 89) a (hp (pRo nl c i)) (nI 0)) (lb := fun i => pVT (σ 89) b (hp (pRo nl c i)) (nI 0)) nl 0 (by omega) (fun j _ hj => by
            have hw := (hW.2.2.2.2.2.2.2.2.1 _ (pRo_lt (nl := nl) (c := c) (i := j) (by omega) (by omega))).1
            exact ⟨pVT_nI (by omega) hW a hw (by omega), pVT_nI (by omega) hW b hw (by omega)⟩)
          have hbd := pBd_16 (len := nl) (by omega)
          rw [e, nI_clamp (by omega)]
          exact ⟨by omega, rfl⟩
        unfold wD_findCut
        refine ⟨nl + 1, s_cut (hp := hp) (va := fun w => pVT (σ 89) a w (nI 0)) (vb := fun w => pVT (σ 89) b w (nI 0)) (tf := fun len => pTurn (σ 89 1) (nl - len + 0)) (σ0 := σ1) (by omega) (by omega) (fun c hc => by rw [hS.2.1]; rfl) hg nl 0 none σ1 (by omega) (fun g cc e => by cases e) ⟨fun _ _ _ _ _ _ => rfl, rfl, hS.2.2.1, hSl⟩ (fun σ2 hD hcut => ?_)⟩
        have hF : ∀ c, (c < 24 ∨ 34 < c) → σ2 c = σ c := fun c hc => by
          rw [hD.1 c (by omega) (by omega) (by omega) (by omega) (by omega), hS.1 c (by omega) (by omega) (by omega) (by omega)]
        have h89 : σ2 89 = σ 89 := hF 89 (by omega)
        have hne := pRg_some (gain := fun c => (pG (fun i => pVT (σ 89) a (hp (pRo nl c i)) (nI 0)) (fun i => pVT (σ 89) b (hp (pRo nl c i)) (nI 0)) (fun len => pTurn (σ 89 1) (nl - len + 0)) nl 0).1.toNatClampNeg) nl 0 none (Or.inl (by omega))
        unfold wM_ring
        rw [eM σ2 _ (by rw [h89]; exact hW.1)]
        simp (disch := first | assumption | omega | decide) only [li0, li1, li2, li3, li4, li5, li6, li7, li8, li9, li10, li11, li12, li13, li14, li16, li17, li20, li21, li22, li23, li24, li30, li32, li40, li48, li57, li59, li63, li86, li97, li99, li100, li102, li115, li122, li200, li255, li289, li320, li400, li720, li999, li1000, nI_add, pk_mul, nI_sub, nI_clamp, vinT, Nat.le_refl, Nat.reduceLeDiff, Nat.reduceLT, Nat.reduceEqDiff, Nat.reduceAdd, Nat.reduceMul, Nat.reduceSub, forall_eq, true_and, and_true, not_true_eq_false, not_false_eq_true, false_implies, true_implies, implies_true, if_true, if_false, ite_self, nI_eqI, nI_leI2, nI_ltI2, eM_in, Nat.not_lt_zero, hy2, h89, hW.2.2.1]
        refine ⟨nl + 1, s_ring (σ0 := σ2) (N := σ 89) hW ha hb hg nl 0 none σ2 (by omega) (fun g cc e => by cases e) h89 (fun _ _ _ _ => rfl) (fun σ3 hF3 => ⟨?_, ?_⟩)⟩
        · cases hr : pRg (fun c => (pG (fun i => pVT (σ 89) a (hp (pRo nl c i)) (nI 0)) (fun i => pVT (σ 89) b (hp (pRo nl c i)) (nI 0)) (fun len => pTurn (σ 89 1) (nl - len + 0)) nl 0).1.toNatClampNeg) nl 0 none with
          | none => exact absurd hr hne
          | some gc =>
            obtain ⟨g, cc⟩ := gc
            rw [hcut g cc hr]
            by_cases q : y = 0
            · simp (disch := first | assumption | omega | decide) only [li0, li1, li2, li3, li4, li5, li6, li7, li8, li9, li10, li11, li12, li13, li14, li16, li17, li20, li21, li22, li23, li24, li30, li32, li40, li48, li57, li59, li63, li86, li97, li99, li100, li102, li115, li122, li200, li255, li289, li320, li400, li720, li999, li1000, nI_add, pk_mul, nI_sub, nI_clamp, vinT, Nat.le_refl, Nat.reduceLeDiff, Nat.reduceLT, Nat.reduceEqDiff, Nat.reduceAdd, Nat.reduceMul, Nat.reduceSub, forall_eq, true_and, and_true, not_true_eq_false, not_false_eq_true, false_implies, true_implies, implies_true, if_true, if_false, ite_self, nI_eqI, nI_leI2, nI_ltI2, q, encH, encG, encC]
            · simp (disch := first | assumption | omega | decide) only [li0, li1, li2, li3, li4, li5, li6, li7, li8, li9, li10, li11, li12, li13, li14, li16, li17, li20, li21, li22, li23, li24, li30, li32, li40, li48, li57, li59, li63, li86, li97, li99, li100, li102, li115, li122, li200, li255, li289, li320, li400, li720, li999, li1000, nI_add, pk_mul, nI_sub, nI_clamp, vinT, Nat.le_refl, Nat.reduceLeDiff, Nat.reduceLT, Nat.reduceEqDiff, Nat.reduceAdd, Nat.reduceMul, Nat.reduceSub, forall_eq, true_and, and_true, not_true_eq_false, not_false_eq_true, false_implies, true_implies, implies_true, if_true, if_false, ite_self, nI_eqI, nI_leI2, nI_ltI2, q, encH, encG, encC]
        · exact pInv_same (fun c hc => by rw [hF3 c (by omega) (by omega) (by omega), hF c (by omega)]) (fun c c1 c2 => by rw [hF3 c (by omega) (by omega) (by omega), hF c (by omega)]) (fun c c1 c2 => by rw [hF3 c (by omega) (by omega) (by omega), hF c (by omega)]) h
    · have hy2 : 1 < y := by omega
      simp (disch := first | assumption | omega | decide) only [li0, li1, li2, li3, li4, li5, li6, li7, li8, li9, li10, li11, li12, li13, li14, li16, li17, li20, li21, li22, li23, li24, li30, li32, li40, li48, li57, li59, li63, li86, li97, li99, li100, li102, li115, li122, li200, li255, li289, li320, li400, li720, li999, li1000, nI_add, pk_mul, nI_sub, nI_clamp, vinT, Nat.le_refl, Nat.reduceLeDiff, Nat.reduceLT, Nat.reduceEqDiff, Nat.reduceAdd, Nat.reduceMul, Nat.reduceSub, forall_eq, true_and, and_true, not_true_eq_false, not_false_eq_true, false_implies, true_implies, implies_true, if_true, if_false, ite_self, nI_eqI, nI_leI2, nI_ltI2, Nat.not_lt_zero, hy1]
      unfold wM_ring
      rw [eM σ _ hW.1]
      simp (disch := first | assumption | omega | decide) only [li0, li1, li2, li3, li4, li5, li6, li7, li8, li9, li10, li11, li12, li13, li14, li16, li17, li20, li21, li22, li23, li24, li30, li32, li40, li48, li57, li59, li63, li86, li97, li99, li100, li102, li115, li122, li200, li255, li289, li320, li400, li720, li999, li1000, nI_add, pk_mul, nI_sub, nI_clamp, vinT, Nat.le_refl, Nat.reduceLeDiff, Nat.reduceLT, Nat.reduceEqDiff, Nat.reduceAdd, Nat.reduceMul, Nat.reduceSub, forall_eq, true_and, and_true, not_true_eq_false, not_false_eq_true, false_implies, true_implies, implies_true, if_true, if_false, ite_self, nI_eqI, nI_leI2, nI_ltI2, eM_in, Nat.not_lt_zero, hy2]
      exact h
  · rw [eH]
    simp only [n01, Nat.le_refl, Nat.reduceLeDiff, Nat.reduceLT, Nat.reduceEqDiff, Nat.reduceAdd, Nat.reduceMul, Nat.reduceSub, forall_eq, true_and, and_true, not_true_eq_false, not_false_eq_true, false_implies, true_implies, implies_true, if_true, if_false, ite_self]
    unfold wM_ring
    rw [eM σ _ hW.1]
    simp only [Nat.le_refl, Nat.reduceLeDiff, Nat.reduceLT, Nat.reduceEqDiff, Nat.reduceAdd, Nat.reduceMul, Nat.reduceSub, forall_eq, true_and, and_true, not_true_eq_false, not_false_eq_true, false_implies, true_implies, implies_true, if_true, if_false, ite_self]
    exact h
