/-! BEST -/
/-- an answer that both refuse alike, with nothing changed -/
theorem op_best {k : Nat} {x1 x2 x3 : Int32} {σ : gM} (h : pInv k σ) : pBoth (wH_best x1 x2 x3) (wM_best x1 x2 x3) σ (pInv k) := by
  obtain ⟨nb, nw, nl, hp, hM, hW⟩ := h.2.2.2.2.2.2.1
  have hn : nw ≤ 16 := hW.2.2.2.2.1
  have hl : nl ≤ nw := hW.2.2.2.2.2.1
  have hnb : nb ≤ 4 := hW.2.2.2.1
  have n01 : ¬ nI 1 = nI 0 := by decide
  unfold pBoth wH_best
  rcases e_two hnb x1 x2 hM.2.2.1 hW.1 with ⟨⟨a, b, ha, hb, hab, rfl, rfl⟩, eH, eM⟩ | ⟨eH, eM⟩
  · rw [eH]
    by_cases hx : x3 = nI 0 ∨ x3 = nI 1 ∨ x3 = nI 2
    · have hx0 : ¬ x3 < nI 0 := by rcases hx with rfl | rfl | rfl <;> decide
      have hx2 : x3 ≤ nI 2 := by rcases hx with rfl | rfl | rfl <;> decide
      simp (disch := first | assumption | omega | decide) only [Nat.le_refl, Nat.reduceLeDiff, Nat.reduceLT, Nat.reduceEqDiff, Nat.reduceAdd, Nat.reduceMul, Nat.reduceSub, forall_eq, true_and, and_true, not_true_eq_false, not_false_eq_true, false_implies, true_implies, implies_true, if_true, if_false, ite_self, hx0, hx2]
      refine s_seat hM hW ha hb (fun σ1 hS => ?_)
      have hpl : ∀ j, j < nl → hp j < 16 := fun j hj => by have := (hW.2.2.2.2.2.2.2.2.1 j hj).1; omega
      have hSl : ∀ j, j < nl → hp j < 16 ∧ σ1 26 j = nI (hp j) ∧ σ1 27 (hp j) = pVT (σ 89) a (hp j) (nI 0) ∧ σ1 28 (hp j) = pVT (σ 89) b (hp j) (nI 0) := fun j hj => ⟨hpl j hj, hS.2.2.2 j hj⟩
      refine s_line (va := fun w => pVT (σ 89) a w (nI 0)) (vb := fun w => pVT (σ 89) b w (nI 0)) (by omega) (Or.inr rfl) hS.2.2.1 hSl (fun σ2 hL1 hL2 => ?_)
      have e4 : σ2 24 4 = nI nl := by rw [hL1 24 (by omega) (by omega)]; exact hS.2.2.1
      have e3 : σ2 24 3 = σ 89 1 := by rw [hL1 24 (by omega) (by omega)]; exact hS.2.1
      refine s_play (tf := fun len => pTurn (σ 89 1) (nl - len + 0)) (by omega) e4 (fun c hc => by rw [e3]; rfl) (fun σ3 hP1 hP2 hP3 hP4 => ?_)
      have hF : ∀ c, (c < 24 ∨ 34 < c) → σ3 c = σ c := fun c hc => by
        rw [hP1.1 c (by omega) (by omega) (by omega), hL1 c (by omega) (by omega), hS.1 c (by omega) (by omega) (by omega) (by omega)]
      have hGc : pG (σ2 29) (σ2 30) (fun len => pTurn (σ 89 1) (nl - len + 0)) nl 0 = pG (fun i => pVT (σ 89) a (hp i) (nI 0)) (fun i => pVT (σ 89) b (hp i) (nI 0)) (fun len => pTurn (σ 89 1) (nl - len + 0)) nl 0 := by
        refine pG_congr nl 0 (fun j _ hj => ?_) (fun _ _ _ => rfl)
        have := hL2 j (by omega)
        rw [show pRo nl 0 j = j by unfold pRo; rw [if_pos (by omega)]; omega] at this
        exact this
      -- the reference's own answer
      have hR : ∀ v : Int32, (x3 = nI 0 → v = σ3 31 0) → (x3 = nI 1 → v = σ3 32 0) → (x3 = nI 2 → v = σ3 24 2) → wM_best (nI a) (nI b) x3 σ3 (fun r2 σ2 => v = r2 ∧ pInv k σ2) := by
        intro v hv0 hv1 hv2
        have h89 : σ3 89 = σ 89 := hF 89 (by omega)
        have hW3 : pWF k (σ3 89) nb nw nl hp := by rw [h89]; exact hW
        unfold wM_best
        rw [eM σ3 _ (by rw [h89]; exact hW.1)]
        simp (disch := first | assumption | omega | decide) only [Nat.le_refl, Nat.reduceLeDiff, Nat.reduceLT, Nat.reduceEqDiff, Nat.reduceAdd, Nat.reduceMul, Nat.reduceSub, forall_eq, true_and, and_true, not_true_eq_false, not_false_eq_true, false_implies, true_implies, implies_true, if_true, if_false, ite_self, n01, eM_in, li0, li1, li2, li3, li4, li5, li6, li7, li8, li9, li10, li11, li12, li13, li14, li16, li17, li20, li21, li22, li23, li24, li30, li32, li40, li48, li57, li59, li63, li86, li97, li99, li100, li102, li115, li122, li200, li255, li289, li320, li400, li720, li999, li1000, hx0]
        rw [if_neg (by rw [i_nle.symm]; exact fun z => z hx2)]
        simp (disch := first | assumption | omega | decide) only [Nat.le_refl, Nat.reduceLeDiff, Nat.reduceLT, Nat.reduceEqDiff, Nat.reduceAdd, Nat.reduceMul, Nat.reduceSub, forall_eq, true_and, and_true, not_true_eq_false, not_false_eq_true, false_implies, true_implies, implies_true, if_true, if_false, ite_self, n01, wM_layHeap, h89, hW.2.2.1]
        refine ⟨nl + 1, s_layHeap (σ0 := σ3) hW3 ?_ nl 0 σ3 (by omega) (gFn_0 _ _ _ _).symm⟩
        refine s_layBest (N := σ 89) (ln := hp) (by omega) (by omega) (by omega) (by omega) (by rw [gFn_ne (by decide)]; exact h89) (fun i hi => ⟨hpl i hi, by rw [gFn_in (by omega) (by omega)]; rfl⟩) (fun σ5 g1 g2 => ?_)
        have hI : pInv k σ5 := pInv_same (fun c hc => by rw [g1 c (by omega) (by omega), gFn_ne (by omega), hF c (by omega)]) (fun c c1 c2 => by rw [g1 c (by omega) (by omega), gFn_ne (by omega), hF c (by omega)]) (fun c c1 c2 => by rw [g1 c (by omega) (by omega), gFn_ne (by omega), hF c (by omega)]) h
        have h00 : (σ5 95 0, σ5 96 0) = pG (fun i => pVT (σ 89) a (hp i) (nI 0)) (fun i => pVT (σ 89) b (hp i) (nI 0)) (fun len => pTurn (σ 89 1) (nl - len + 0)) nl 0 := g2 0 (by omega) (by omega) 0 (by omega)
        rw [← hGc, ← hP2] at h00
        rcases hx with rfl | rfl | rfl
        · simp (disch := first | assumption | omega | decide) only [li0, li1, li2, li3, li4, li5, li6, li7, li8, li9, li10, li11, li12, li13, li14, li16, li17, li20, li21, li22, li23, li24, li30, li32, li40, li48, li57, li59, li63, li86, li97, li99, li100, li102, li115, li122, li200, li255, li289, li320, li400, li720, li999, li1000, nI_add, pk_mul, nI_sub, nI_clamp, vinT, Nat.le_refl, Nat.reduceLeDiff, Nat.reduceLT, Nat.reduceEqDiff, Nat.reduceAdd, Nat.reduceMul, Nat.reduceSub, forall_eq, true_and, and_true, not_true_eq_false, not_false_eq_true, false_implies, true_implies, implies_true, if_true, if_false, ite_self, nI_eqI, nI_leI2, nI_ltI2]
          exact ⟨(hv0 rfl).trans (congrArg Prod.fst h00).symm, hI⟩
        · simp (disch := first | assumption | omega | decide) only [li0, li1, li2, li3, li4, li5, li6, li7, li8, li9, li10, li11, li12, li13, li14, li16, li17, li20, li21, li22, li23, li24, li30, li32, li40, li48, li57, li59, li63, li86, li97, li99, li100, li102, li115, li122, li200, li255, li289, li320, li400, li720, li999, li1000, nI_add, pk_mul, nI_sub, nI_clamp, vinT, Nat.le_refl, Nat.reduceLeDiff, Nat.reduceLT, Nat.reduceEqDiff, Nat.reduceAdd, Nat.reduceMul, Nat.reduceSub, forall_eq, true_and, and_true, not_true_eq_false, not_false_eq_true, false_implies, true_implies, implies_true, if_true, if_false, ite_self, nI_eqI, nI_leI2, nI_ltI2]
          exact ⟨(hv1 rfl).trans (congrArg Prod.snd h00).symm, hI⟩
        · have v2 := hv2 rfl
          cases nl with
          | zero =>
            simp (disch := first | assumption | omega | decide) only [li0, li1, li2, li3, li4, li5, li6, li7, li8, li9, li10, li11, li12, li13, li14, li16, li17, li20, li21, li22, li23, li24, li30, li32, li40, li48, li57, li59, li63, li86, li97, li99, li100, li102, li115, li122, li200, li255, li289, li320, li400, li720, li999, li1000, nI_add, pk_mul, nI_sub, nI_clamp, vinT, Nat.le_refl, Nat.reduceLeDiff, Nat.reduceLT, Nat.reduceEqDiff, Nat.reduceAdd, Nat.reduceMul, Nat.reduceSub, forall_eq, true_and, and_true, not_true_eq_false, not_false_eq_true, false_implies, true_implies, implies_true, if_true, if_false, ite_self, nI_eqI, nI_leI2, nI_ltI2]
            exact ⟨v2.trans (hP3 rfl), hI⟩
          | succ d =>
            have h94 : σ5 94 = gFn σ3 94 0 (d + 1) (fun i => nI (hp i)) 94 := g1 94 (by omega) (by omega)
            have q0 : σ5 94 0 = nI (hp 0) := by rw [h94, gFn_in (by omega) (by omega)]
            have qd : σ5 94 d = nI (hp d) := by rw [h94, gFn_in (by omega) (by omega), Nat.sub_zero]
            have h589 : σ5 89 = σ 89 := by rw [g1 89 (by omega) (by omega), gFn_ne (by decide)]; exact h89
            have a0 := hpl 0 (by omega)
            have ad := hpl d (by omega)
            have t1 := g2 1 (by omega) (by omega) 1 (by omega)
            have t0 := g2 1 (by omega) (by omega) 0 (by omega)
            have t1 : (σ5 95 17, σ5 96 17) = pG (fun i => pVT (σ 89) a (hp i) (nI 0)) (fun i => pVT (σ 89) b (hp i) (nI 0)) (fun len => pTurn (σ 89 1) (d + 1 - len + 0)) d 1 := t1
            have t0 : (σ5 95 1, σ5 96 1) = pG (fun i => pVT (σ 89) a (hp i) (nI 0)) (fun i => pVT (σ 89) b (hp i) (nI 0)) (fun len => pTurn (σ 89 1) (d + 1 - len + 0)) d 0 := t0
            simp (disch := first | assumption | omega | decide) only [li0, li1, li2, li3, li4, li5, li6, li7, li8, li9, li10, li11, li12, li13, li14, li16, li17, li20, li21, li22, li23, li24, li30, li32, li40, li48, li57, li59, li63, li86, li97, li99, li100, li102, li115, li122, li200, li255, li289, li320, li400, li720, li999, li1000, nI_add, pk_mul, nI_sub, nI_clamp, vinT, Nat.le_refl, Nat.reduceLeDiff, Nat.reduceLT, Nat.reduceEqDiff, Nat.reduceAdd, Nat.reduceMul, Nat.reduceSub, forall_eq, true_and, and_true, not_true_eq_false, not_false_eq_true, false_implies, true_implies, implies_true, if_true, if_false, ite_self, nI_eqI, nI_leI2, nI_ltI2, q0, qd, eM_worthOf, h589, Nat.add_sub_cancel]
            refine ⟨?_, hI⟩
            rw [v2, hP4 d rfl]
            have c1 := pG_congr (tf := fun len => pTurn (σ 89 1) (d + 1 - len + 0)) (tf' := fun len => pTurn (σ 89 1) (d + 1 - len + 0)) d 1 (fun j _ hj => by
              have := hL2 j (by omega)
              rw [show pRo (d + 1) 0 j = j by unfold pRo; rw [if_pos (by omega)]; omega] at this
              exact this) (fun _ _ _ => rfl)
            have c0 := pG_congr (tf := fun len => pTurn (σ 89 1) (d + 1 - len + 0)) (tf' := fun len => pTurn (σ 89 1) (d + 1 - len + 0)) d 0 (fun j _ hj => by
              have := hL2 j (by omega)
              rw [show pRo (d + 1) 0 j = j by unfold pRo; rw [if_pos (by omega)]; omega] at this
              exact this) (fun _ _ _ => rfl)
            rw [c1, c0, ← t1, ← t0]
            have tt : pTurn (σ 89 1) (d + 1 - (d + 1) + 0) = true := by
              rw [Nat.sub_self]
              unfold pTurn
              split <;> rfl
            have l0 := hL2 0 (by omega)
            have ld := hL2 d (by omega)
            rw [show pRo (d + 1) 0 0 = 0 by unfold pRo; rw [if_pos (by omega)]] at l0
            rw [show pRo (d + 1) 0 d = d by unfold pRo; rw [if_pos (by omega)]; omega] at ld
            unfold pStE
            simp only [tt, if_true, Nat.zero_add, l0.1, ld.1]
            by_cases hc : pVT (σ 89) a (hp d) (nI 0) + σ5 95 1 ≤ pVT (σ 89) a (hp 0) (nI 0) + σ5 95 17
            · rw [if_pos hc, if_neg (nlt_of_le hc)]
            · rw [if_neg hc, if_pos (i_nle.mp hc)]
      rcases hx with rfl | rfl | rfl
      · simp (disch := first | assumption | omega | decide) only [li0, li1, li2, li3, li4, li5, li6, li7, li8, li9, li10, li11, li12, li13, li14, li16, li17, li20, li21, li22, li23, li24, li30, li32, li40, li48, li57, li59, li63, li86, li97, li99, li100, li102, li115, li122, li200, li255, li289, li320, li400, li720, li999, li1000, nI_add, pk_mul, nI_sub, nI_clamp, vinT, Nat.le_refl, Nat.reduceLeDiff, Nat.reduceLT, Nat.reduceEqDiff, Nat.reduceAdd, Nat.reduceMul, Nat.reduceSub, forall_eq, true_and, and_true, not_true_eq_false, not_false_eq_true, false_implies, true_implies, implies_true, if_true, if_false, ite_self, nI_eqI, nI_leI2, nI_ltI2, wD_gainOfA]
        exact hR _ (fun _ => rfl) (fun q => absurd q (by decide)) (fun q => absurd q (by decide))
      · simp (disch := first | assumption | omega | decide) only [li0, li1, li2, li3, li4, li5, li6, li7, li8, li9, li10, li11, li12, li13, li14, li16, li17, li20, li21, li22, li23, li24, li30, li32, li40, li48, li57, li59, li63, li86, li97, li99, li100, li102, li115, li122, li200, li255, li289, li320, li400, li720, li999, li1000, nI_add, pk_mul, nI_sub, nI_clamp, vinT, Nat.le_refl, Nat.reduceLeDiff, Nat.reduceLT, Nat.reduceEqDiff, Nat.reduceAdd, Nat.reduceMul, Nat.reduceSub, forall_eq, true_and, and_true, not_true_eq_false, not_false_eq_true, false_implies, true_implies, implies_true, if_true, if_false, ite_self, nI_eqI, nI_leI2, nI_ltI2, wD_gainOfB]
        exact hR _ (fun q => absurd q (by decide)) (fun _ => rfl) (fun q => absurd q (by decide))
      · simp (disch := first | assumption | omega | decide) only [li0, li1, li2, li3, li4, li5, li6, li7, li8, li9, li10, li11, li12, li13, li14, li16, li17, li20, li21, li22, li23, li24, li30, li32, li40, li48, li57, li59, li63, li86, li97, li99, li100, li102, li115, li122, li200, li255, li289, li320, li400, li720, li999, li1000, nI_add, pk_mul, nI_sub, nI_clamp, vinT, Nat.le_refl, Nat.reduceLeDiff, Nat.reduceLT, Nat.reduceEqDiff, Nat.reduceAdd, Nat.reduceMul, Nat.reduceSub, forall_eq, true_and, and_true, not_true_eq_false, not_false_eq_true, false_implies, true_implies, implies_true, if_true, if_false, ite_self, nI_eqI, nI_leI2, nI_ltI2]
        exact hR _ (fun q => absurd q (by decide)) (fun q => absurd q (by decide)) (fun _ => rfl)
    · have hxx : x3 < nI 0 ∨ ¬ x3 ≤ nI 2 := by
        rcases i_nat x3 with q | ⟨j, hj, rfl⟩
        · exact Or.inl q
        · refine Or.inr (fun q => hx ?_)
          rw [nI_leI hj (by omega)] at q
          have : j = 0 ∨ j = 1 ∨ j = 2 := by omega
          rcases this with rfl | rfl | rfl <;> simp
      have hm : wM_best (nI a) (nI b) x3 σ (fun r2 σ2 => (-1000001 : Int32) = r2 ∧ pInv k σ2) := by
        unfold wM_best
        rw [eM σ _ hW.1]
        rw [eM_in]
        have : (if x3 < nI 0 then nI 0 else if nI 2 < x3 then nI 0 else nI 1) = nI 0 := by
          rcases hxx with q | q
          · rw [if_pos q]
          · rw [if_pos (i_nle.mp q), ite_self]
        rw [this]
        simp only [n01, Nat.le_refl, Nat.reduceLeDiff, Nat.reduceLT, Nat.reduceEqDiff, Nat.reduceAdd, Nat.reduceMul, Nat.reduceSub, forall_eq, true_and, and_true, not_true_eq_false, not_false_eq_true, false_implies, true_implies, implies_true, if_true, if_false, ite_self]
        exact h
      rcases hxx with q | q
      · simp (disch := first | assumption | omega | decide) only [Nat.le_refl, Nat.reduceLeDiff, Nat.reduceLT, Nat.reduceEqDiff, Nat.reduceAdd, Nat.reduceMul, Nat.reduceSub, forall_eq, true_and, and_true, not_true_eq_false, not_false_eq_true, false_implies, true_implies, implies_true, if_true, if_false, ite_self, q]
        exact hm
      · by_cases q0 : x3 < nI 0
        · simp (disch := first | assumption | omega | decide) only [Nat.le_refl, Nat.reduceLeDiff, Nat.reduceLT, Nat.reduceEqDiff, Nat.reduceAdd, Nat.reduceMul, Nat.reduceSub, forall_eq, true_and, and_true, not_true_eq_false, not_false_eq_true, false_implies, true_implies, implies_true, if_true, if_false, ite_self, q0]
          exact hm
        · simp (disch := first | assumption | omega | decide) only [Nat.le_refl, Nat.reduceLeDiff, Nat.reduceLT, Nat.reduceEqDiff, Nat.reduceAdd, Nat.reduceMul, Nat.reduceSub, forall_eq, true_and, and_true, not_true_eq_false, not_false_eq_true, false_implies, true_implies, implies_true, if_true, if_false, ite_self, q0, q]
          exact hm
  · rw [eH]
    simp only [n01, Nat.le_refl, Nat.reduceLeDiff, Nat.reduceLT, Nat.reduceEqDiff, Nat.reduceAdd, Nat.reduceMul, Nat.reduceSub, forall_eq, true_and, and_true, not_true_eq_false, not_false_eq_true, false_implies, true_implies, implies_true, if_true, if_false, ite_self]
    unfold wM_best
    rw [eM σ _ hW.1]
    simp only [Nat.le_refl, Nat.reduceLeDiff, Nat.reduceLT, Nat.reduceEqDiff, Nat.reduceAdd, Nat.reduceMul, Nat.reduceSub, forall_eq, true_and, and_true, not_true_eq_false, not_false_eq_true, false_implies, true_implies, implies_true, if_true, if_false, ite_self]
    exact h
