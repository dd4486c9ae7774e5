theorem pInv_image_0 {k : Nat} {σ σ1 σ2 : gM} (h : pInv k σ) (z : σ 89 0 = nI 1) (hB : pBec 42 62 σ σ1) (f1 : ∀ c, c ≠ 90 → c ≠ 91 → σ2 c = σ1 c) (f2 : ∀ i, i < 102 → σ2 90 (102 * 0 + i) = σ1 89 i) (f3 : ∀ p, (p < 102 * 0 ∨ 102 * 0 + 102 ≤ p) → σ2 90 p = σ1 90 p) (f4 : σ2 91 0 = nI 1) (f5 : ∀ p, p ≠ 0 → σ2 91 p = σ1 91 p) : pInv k σ2 := by
  obtain ⟨a1, a2, a3, a4, a5, a6, a7, a8, a9, a10⟩ := h
  have e : ∀ c, (c < 62 ∨ 62 + 9 < c) → c ≠ 90 → c ≠ 91 → σ2 c = σ c := fun c c1 c2 c3 => by rw [f1 c c2 c3]; exact hB.2.2 c c1
  have himg : pImg k 0 σ2 := by
    obtain ⟨nb, nw, nl, hp, hM, hW⟩ := a7
    have b1 := hW.2.2.2.1
    have b2 := hW.2.2.2.2.1
    have b3 := hW.2.2.2.2.2.1
    have s0 : σ2 62 0 = nI 1 := by rw [f1 62 (by omega) (by omega), hB.1 0 (by omega), a6.1]; exact z
    have e89 : σ1 89 = σ 89 := hB.2.2 89 (by omega)
    have hq : pEq (σ 89) (fun i => σ2 90 (102 * 0 + i)) := fun i hi => by rw [← e89]; exact f2 i hi
    exact Or.inr ⟨s0, f4, (hq 0 (by omega)).trans z, nb, nw, nl, hp, pMk_eq b1 b2 (by omega) hq (pMk_fr (fun i _ _ => by rw [f1 62 (by omega) (by omega)]) (fun a c1 c2 => f1 a (by omega) (by omega)) (pBec_mk b1 b2 (by omega) hB hM)), pWF_eq hq hW⟩
  have hoth : pImg k 1 σ → pImg k 1 σ2 := fun hh => pImg_fr2 (fun a c1 c2 => e a (by omega) (by omega) (by omega)) (fun i hi => by rw [f3 _ (by omega), hB.2.2 90 (by omega)]) (by rw [f5 _ (by omega), hB.2.2 91 (by omega)]) hh
  have hr : pRows σ2 := pRows_fr a1 (fun r hr => e _ (by omega) (by omega) (by omega)) (fun r hr => e _ (by omega) (by omega) (by omega)) (e _ (by omega) (by omega) (by omega)) (e _ (by omega) (by omega) (by omega)) (e _ (by omega) (by omega) (by omega))
  refine ⟨hr, by rw [e 0 (by omega) (by omega) (by omega), e 82 (by omega) (by omega) (by omega)]; exact a2, by rw [e 0 (by omega) (by omega) (by omega), e 82 (by omega) (by omega) (by omega)]; exact a3,
    pTape_fr (by rw [e 18 (by omega) (by omega) (by omega)]) (by rw [e 82 (by omega) (by omega) (by omega)]) (e 19 (by omega) (by omega) (by omega)) (e 86 (by omega) (by omega) (by omega)) a4,
    pTrace_fr (by rw [e 0 (by omega) (by omega) (by omega)]) (by rw [e 82 (by omega) (by omega) (by omega)]) (e 40 (by omega) (by omega) (by omega)) (e 93 (by omega) (by omega) (by omega)) a5,
    pStands_fr (by rw [e 42 (by omega) (by omega) (by omega)]) (e 89 (by omega) (by omega) (by omega)) a6,
    pMkt_fr (fun a c1 c2 => e a (by omega) (by omega) (by omega)) (e 89 (by omega) (by omega) (by omega)) a7, ?_, ?_,
    pActs_fr (by rw [e 82 (by omega) (by omega) (by omega)]) (e _ (by omega) (by omega) (by omega)) (e _ (by omega) (by omega) (by omega)) (e _ (by omega) (by omega) (by omega)) (e _ (by omega) (by omega) (by omega)) (e _ (by omega) (by omega) (by omega)) (e _ (by omega) (by omega) (by omega)) a10⟩
  · first | exact himg | exact hoth a8
  · first | exact himg | exact hoth a9
theorem pInv_restore_0 {k : Nat} {σ σ1 σ2 : gM} (h : pInv k σ) (z : σ 62 0 = nI 1) (hB : pBec 62 42 σ σ1) (f1 : ∀ c, c ≠ 89 → c ≠ 82 → σ2 c = gU σ1 20 3 (nI 0) c) (f2 : ∀ i, i < 102 → σ2 89 i = σ1 90 (102 * 0 + i)) (f4 : σ2 82 20 = nI 0) (f5 : ∀ p, p ≠ 20 → σ2 82 p = σ1 82 p) : pInv k σ2 := by
  obtain ⟨a1, a2, a3, a4, a5, a6, a7, a8, a9, a10⟩ := h
  have e : ∀ c, (c < 42 ∨ 51 < c) → c ≠ 89 → c ≠ 82 → c ≠ 20 → σ2 c = σ c := fun c c1 c2 c3 c4 => by rw [f1 c c2 c3, gU_ne c4]; exact hB.2.2 c (by omega)
  have g : ∀ p, p ≠ 20 → σ2 82 p = σ 82 p := fun p hp => by rw [f5 p hp, hB.2.2 82 (by omega)]
  have himg : pImg k 0 σ := by first | exact a8 | exact a9
  have e90 : σ1 90 = σ 90 := hB.2.2 90 (by omega)
  have e42 : ∀ c, 42 ≤ c → c ≤ 51 → σ2 c = σ1 c := fun c c1 c2 => by rw [f1 c (by omega) (by omega), gU_ne (by omega)]
  rcases himg with ⟨i1, i2⟩ | ⟨i1, i2, i3, nb, nw, nl, hp, hM, hW⟩
  · exact absurd (z.symm.trans i1) (by decide)
  have b1 := hW.2.2.2.1
  have b2 := hW.2.2.2.2.1
  have b3 := hW.2.2.2.2.2.1
  have hq : pEq (fun i => σ 90 (102 * 0 + i)) (σ2 89) := fun i hi => by rw [f2 i hi, e90]
  have hM2 : pMk σ2 42 (σ2 89) nb nw nl := pMk_eq b1 b2 (by omega) hq (pMk_fr (fun i _ _ => by rw [e42 42 (by omega) (by omega)]) (fun a c1 c2 => e42 a (by omega) (by omega)) (pBec_mk b1 b2 (by omega) hB hM))
  have s0 : σ2 42 0 = nI 1 := by rw [e42 42 (by omega) (by omega), hB.1 0 (by omega)]; exact z
  have s1 : σ2 89 0 = nI 1 := by rw [hq 0 (by omega)]; exact i3
  have hr : pRows σ2 := pRows_fr a1 (fun r hr => e _ (by omega) (by omega) (by omega) (by omega)) (fun r hr => e _ (by omega) (by omega) (by omega) (by omega)) (e _ (by omega) (by omega) (by omega) (by omega)) (e _ (by omega) (by omega) (by omega) (by omega)) (e _ (by omega) (by omega) (by omega) (by omega))
  obtain ⟨n, nx, n1, n2, n3, n4, n5, n6, n7⟩ := a10
  have e20 : ∀ p, p ≠ 3 → σ2 20 p = σ 20 p := fun p hp => by rw [f1 20 (by omega) (by omega), gU_off hp, hB.2.2 20 (by omega)]
  refine ⟨hr, by rw [e 0 (by omega) (by omega) (by omega) (by omega), g _ (by omega)]; exact a2, by rw [e 0 (by omega) (by omega) (by omega) (by omega), g _ (by omega)]; exact a3,
    pTape_fr (by rw [e 18 (by omega) (by omega) (by omega) (by omega)]) (g _ (by omega)) (e 19 (by omega) (by omega) (by omega) (by omega)) (e 86 (by omega) (by omega) (by omega) (by omega)) a4,
    pTrace_fr (by rw [e 0 (by omega) (by omega) (by omega) (by omega)]) (g _ (by omega)) (e 40 (by omega) (by omega) (by omega) (by omega)) (e 93 (by omega) (by omega) (by omega) (by omega)) a5,
    ⟨by rw [s0, s1], Or.inr s1⟩, ⟨nb, nw, nl, hp, hM2, pWF_eq hq hW⟩,
    pImg_fr2 (fun a c1 c2 => e a (by omega) (by omega) (by omega) (by omega)) (fun i hi => by rw [e 90 (by omega) (by omega) (by omega) (by omega)]) (by rw [e 91 (by omega) (by omega) (by omega) (by omega)]) a8,
    pImg_fr2 (fun a c1 c2 => e a (by omega) (by omega) (by omega) (by omega)) (fun i hi => by rw [e 90 (by omega) (by omega) (by omega) (by omega)]) (by rw [e 91 (by omega) (by omega) (by omega) (by omega)]) a9,
    ⟨0, nx, by omega, n2, f4, ?_, ?_, fun j hj => absurd hj (by omega), trivial⟩⟩
  · rw [f1 20 (by omega) (by omega)]; exact gU_eq
  · rw [e20 4 (by omega)]; exact n5
theorem pInv_image_1 {k : Nat} {σ σ1 σ2 : gM} (h : pInv k σ) (z : σ 89 0 = nI 1) (hB : pBec 42 72 σ σ1) (f1 : ∀ c, c ≠ 90 → c ≠ 91 → σ2 c = σ1 c) (f2 : ∀ i, i < 102 → σ2 90 (102 * 1 + i) = σ1 89 i) (f3 : ∀ p, (p < 102 * 1 ∨ 102 * 1 + 102 ≤ p) → σ2 90 p = σ1 90 p) (f4 : σ2 91 1 = nI 1) (f5 : ∀ p, p ≠ 1 → σ2 91 p = σ1 91 p) : pInv k σ2 := by
  obtain ⟨a1, a2, a3, a4, a5, a6, a7, a8, a9, a10⟩ := h
  have e : ∀ c, (c < 72 ∨ 72 + 9 < c) → c ≠ 90 → c ≠ 91 → σ2 c = σ c := fun c c1 c2 c3 => by rw [f1 c c2 c3]; exact hB.2.2 c c1
  have himg : pImg k 1 σ2 := by
    obtain ⟨nb, nw, nl, hp, hM, hW⟩ := a7
    have b1 := hW.2.2.2.1
    have b2 := hW.2.2.2.2.1
    have b3 := hW.2.2.2.2.2.1
    have s0 : σ2 72 0 = nI 1 := by rw [f1 72 (by omega) (by omega), hB.1 0 (by omega), a6.1]; exact z
    have e89 : σ1 89 = σ 89 := hB.2.2 89 (by omega)
    have hq : pEq (σ 89) (fun i => σ2 90 (102 * 1 + i)) := fun i hi => by rw [← e89]; exact f2 i hi
    exact Or.inr ⟨s0, f4, (hq 0 (by omega)).trans z, nb, nw, nl, hp, pMk_eq b1 b2 (by omega) hq (pMk_fr (fun i _ _ => by rw [f1 72 (by omega) (by omega)]) (fun a c1 c2 => f1 a (by omega) (by omega)) (pBec_mk b1 b2 (by omega) hB hM)), pWF_eq hq hW⟩
  have hoth : pImg k 0 σ → pImg k 0 σ2 := fun hh => pImg_fr2 (fun a c1 c2 => e a (by omega) (by omega) (by omega)) (fun i hi => by rw [f3 _ (by omega), hB.2.2 90 (by omega)]) (by rw [f5 _ (by omega), hB.2.2 91 (by omega)]) hh
  have hr : pRows σ2 := pRows_fr a1 (fun r hr => e _ (by omega) (by omega) (by omega)) (fun r hr => e _ (by omega) (by omega) (by omega)) (e _ (by omega) (by omega) (by omega)) (e _ (by omega) (by omega) (by omega)) (e _ (by omega) (by omega) (by omega))
  refine ⟨hr, by rw [e 0 (by omega) (by omega) (by omega), e 82 (by omega) (by omega) (by omega)]; exact a2, by rw [e 0 (by omega) (by omega) (by omega), e 82 (by omega) (by omega) (by omega)]; exact a3,
    pTape_fr (by rw [e 18 (by omega) (by omega) (by omega)]) (by rw [e 82 (by omega) (by omega) (by omega)]) (e 19 (by omega) (by omega) (by omega)) (e 86 (by omega) (by omega) (by omega)) a4,
    pTrace_fr (by rw [e 0 (by omega) (by omega) (by omega)]) (by rw [e 82 (by omega) (by omega) (by omega)]) (e 40 (by omega) (by omega) (by omega)) (e 93 (by omega) (by omega) (by omega)) a5,
    pStands_fr (by rw [e 42 (by omega) (by omega) (by omega)]) (e 89 (by omega) (by omega) (by omega)) a6,
    pMkt_fr (fun a c1 c2 => e a (by omega) (by omega) (by omega)) (e 89 (by omega) (by omega) (by omega)) a7, ?_, ?_,
    pActs_fr (by rw [e 82 (by omega) (by omega) (by omega)]) (e _ (by omega) (by omega) (by omega)) (e _ (by omega) (by omega) (by omega)) (e _ (by omega) (by omega) (by omega)) (e _ (by omega) (by omega) (by omega)) (e _ (by omega) (by omega) (by omega)) (e _ (by omega) (by omega) (by omega)) a10⟩
  · first | exact himg | exact hoth a8
  · first | exact himg | exact hoth a9
theorem pInv_restore_1 {k : Nat} {σ σ1 σ2 : gM} (h : pInv k σ) (z : σ 72 0 = nI 1) (hB : pBec 72 42 σ σ1) (f1 : ∀ c, c ≠ 89 → c ≠ 82 → σ2 c = gU σ1 20 3 (nI 0) c) (f2 : ∀ i, i < 102 → σ2 89 i = σ1 90 (102 * 1 + i)) (f4 : σ2 82 20 = nI 0) (f5 : ∀ p, p ≠ 20 → σ2 82 p = σ1 82 p) : pInv k σ2 := by
  obtain ⟨a1, a2, a3, a4, a5, a6, a7, a8, a9, a10⟩ := h
  have e : ∀ c, (c < 42 ∨ 51 < c) → c ≠ 89 → c ≠ 82 → c ≠ 20 → σ2 c = σ c := fun c c1 c2 c3 c4 => by rw [f1 c c2 c3, gU_ne c4]; exact hB.2.2 c (by omega)
  have g : ∀ p, p ≠ 20 → σ2 82 p = σ 82 p := fun p hp => by rw [f5 p hp, hB.2.2 82 (by omega)]
  have himg : pImg k 1 σ := by first | exact a8 | exact a9
  have e90 : σ1 90 = σ 90 := hB.2.2 90 (by omega)
  have e42 : ∀ c, 42 ≤ c → c ≤ 51 → σ2 c = σ1 c := fun c c1 c2 => by rw [f1 c (by omega) (by omega), gU_ne (by omega)]
  rcases himg with ⟨i1, i2⟩ | ⟨i1, i2, i3, nb, nw, nl, hp, hM, hW⟩
  · exact absurd (z.symm.trans i1) (by decide)
  have b1 := hW.2.2.2.1
  have b2 := hW.2.2.2.2.1
  have b3 := hW.2.2.2.2.2.1
  have hq : pEq (fun i => σ 90 (102 * 1 + i)) (σ2 89) := fun i hi => by rw [f2 i hi, e90]
  have hM2 : pMk σ2 42 (σ2 89) nb nw nl := pMk_eq b1 b2 (by omega) hq (pMk_fr (fun i _ _ => by rw [e42 42 (by omega) (by omega)]) (fun a c1 c2 => e42 a (by omega) (by omega)) (pBec_mk b1 b2 (by omega) hB hM))
  have s0 : σ2 42 0 = nI 1 := by rw [e42 42 (by omega) (by omega), hB.1 0 (by omega)]; exact z
  have s1 : σ2 89 0 = nI 1 := by rw [hq 0 (by omega)]; exact i3
  have hr : pRows σ2 := pRows_fr a1 (fun r hr => e _ (by omega) (by omega) (by omega) (by omega)) (fun r hr => e _ (by omega) (by omega) (by omega) (by omega)) (e _ (by omega) (by omega) (by omega) (by omega)) (e _ (by omega) (by omega) (by omega) (by omega)) (e _ (by omega) (by omega) (by omega) (by omega))
  obtain ⟨n, nx, n1, n2, n3, n4, n5, n6, n7⟩ := a10
  have e20 : ∀ p, p ≠ 3 → σ2 20 p = σ 20 p := fun p hp => by rw [f1 20 (by omega) (by omega), gU_off hp, hB.2.2 20 (by omega)]
  refine ⟨hr, by rw [e 0 (by omega) (by omega) (by omega) (by omega), g _ (by omega)]; exact a2, by rw [e 0 (by omega) (by omega) (by omega) (by omega), g _ (by omega)]; exact a3,
    pTape_fr (by rw [e 18 (by omega) (by omega) (by omega) (by omega)]) (g _ (by omega)) (e 19 (by omega) (by omega) (by omega) (by omega)) (e 86 (by omega) (by omega) (by omega) (by omega)) a4,
    pTrace_fr (by rw [e 0 (by omega) (by omega) (by omega) (by omega)]) (g _ (by omega)) (e 40 (by omega) (by omega) (by omega) (by omega)) (e 93 (by omega) (by omega) (by omega) (by omega)) a5,
    ⟨by rw [s0, s1], Or.inr s1⟩, ⟨nb, nw, nl, hp, hM2, pWF_eq hq hW⟩,
    pImg_fr2 (fun a c1 c2 => e a (by omega) (by omega) (by omega) (by omega)) (fun i hi => by rw [e 90 (by omega) (by omega) (by omega) (by omega)]) (by rw [e 91 (by omega) (by omega) (by omega) (by omega)]) a8,
    pImg_fr2 (fun a c1 c2 => e a (by omega) (by omega) (by omega) (by omega)) (fun i hi => by rw [e 90 (by omega) (by omega) (by omega) (by omega)]) (by rw [e 91 (by omega) (by omega) (by omega) (by omega)]) a9,
    ⟨0, nx, by omega, n2, f4, ?_, ?_, fun j hj => absurd hj (by omega), trivial⟩⟩
  · rw [f1 20 (by omega) (by omega)]; exact gU_eq
  · rw [e20 4 (by omega)]; exact n5
theorem op_image {k : Nat} {x1 : Int32} {σ : gM} (h : pInv k σ) : pBoth (wH_image x1) (wM_image x1) σ (pInv k) := by
  obtain ⟨es, h01⟩ := e_stands h
  have n01 : ¬ nI 1 = nI 0 := by decide
  unfold pBoth wH_image
  rcases i_nat x1 with h1 | ⟨x, hx, rfl⟩
  · simp (disch := first | assumption | omega | decide) only [li0, li1, li2, li3, li4, li5, li6, li7, li8, li9, li10, li11, li12, li13, li14, li16, li17, li20, li21, li22, li23, li24, li30, li32, li40, li48, li57, li59, li63, li86, li97, li99, li100, li102, li115, li122, li200, li255, li289, li320, li400, li720, li999, li1000, nI_add, pk_mul, nI_sub, nI_clamp, vinT, Nat.le_refl, Nat.reduceLeDiff, Nat.reduceLT, Nat.reduceEqDiff, Nat.reduceAdd, Nat.reduceMul, Nat.reduceSub, forall_eq, true_and, and_true, not_true_eq_false, not_false_eq_true, false_implies, true_implies, implies_true, if_true, if_false, ite_self, nI_eqI, nI_leI2, nI_ltI2, ng_lt, ng_le, ng_gt, ng_ge, ng_eq, ng_qe, wM_image, eM_in]
    exact h
  by_cases hx2 : x < 2
  · have hx1 : ¬ 1 < x := by omega
    rcases h01 with z | z
    · simp (disch := first | assumption | omega | decide) only [li0, li1, li2, li3, li4, li5, li6, li7, li8, li9, li10, li11, li12, li13, li14, li16, li17, li20, li21, li22, li23, li24, li30, li32, li40, li48, li57, li59, li63, li86, li97, li99, li100, li102, li115, li122, li200, li255, li289, li320, li400, li720, li999, li1000, nI_add, pk_mul, nI_sub, nI_clamp, vinT, Nat.le_refl, Nat.reduceLeDiff, Nat.reduceLT, Nat.reduceEqDiff, Nat.reduceAdd, Nat.reduceMul, Nat.reduceSub, forall_eq, true_and, and_true, not_true_eq_false, not_false_eq_true, false_implies, true_implies, implies_true, if_true, if_false, ite_self, nI_eqI, nI_leI2, nI_ltI2, hx2, hx1, Nat.not_lt_zero, es, z, wM_image, eM_in]
      exact h
    · have hx01 : x = 0 ∨ x = 1 := by omega
      rcases hx01 with rfl | rfl
      · simp (disch := first | assumption | omega | decide) only [li0, li1, li2, li3, li4, li5, li6, li7, li8, li9, li10, li11, li12, li13, li14, li16, li17, li20, li21, li22, li23, li24, li30, li32, li40, li48, li57, li59, li63, li86, li97, li99, li100, li102, li115, li122, li200, li255, li289, li320, li400, li720, li999, li1000, nI_add, pk_mul, nI_sub, nI_clamp, vinT, Nat.le_refl, Nat.reduceLeDiff, Nat.reduceLT, Nat.reduceEqDiff, Nat.reduceAdd, Nat.reduceMul, Nat.reduceSub, forall_eq, true_and, and_true, not_true_eq_false, not_false_eq_true, false_implies, true_implies, implies_true, if_true, if_false, ite_self, nI_eqI, nI_leI2, nI_ltI2, Nat.not_lt_zero, es, z, or_false, true_or]
        refine s_become_62_42 (by rw [es]; exact Or.inr z) (fun σ1 hB => ?_)
        unfold wM_image
        simp (disch := first | assumption | omega | decide) only [li0, li1, li2, li3, li4, li5, li6, li7, li8, li9, li10, li11, li12, li13, li14, li16, li17, li20, li21, li22, li23, li24, li30, li32, li40, li48, li57, li59, li63, li86, li97, li99, li100, li102, li115, li122, li200, li255, li289, li320, li400, li720, li999, li1000, nI_add, pk_mul, nI_sub, nI_clamp, vinT, Nat.le_refl, Nat.reduceLeDiff, Nat.reduceLT, Nat.reduceEqDiff, Nat.reduceAdd, Nat.reduceMul, Nat.reduceSub, forall_eq, true_and, and_true, not_true_eq_false, not_false_eq_true, false_implies, true_implies, implies_true, if_true, if_false, ite_self, nI_eqI, nI_leI2, nI_ltI2, Nat.not_lt_zero, eM_in, hB.2.2 89 (by omega), z]
        exact ⟨103, s_M_image (x := 0) (by omega) (σ0 := σ1) (fun σ2 f1 f2 f3 f4 f5 => ⟨rfl, pInv_image_0 h z hB f1 f2 f3 f4 f5⟩) 102 0 σ1 (by omega) (fun _ _ => rfl) (fun j hj => absurd hj (by omega)) (fun _ _ => rfl)⟩
      · simp (disch := first | assumption | omega | decide) only [li0, li1, li2, li3, li4, li5, li6, li7, li8, li9, li10, li11, li12, li13, li14, li16, li17, li20, li21, li22, li23, li24, li30, li32, li40, li48, li57, li59, li63, li86, li97, li99, li100, li102, li115, li122, li200, li255, li289, li320, li400, li720, li999, li1000, nI_add, pk_mul, nI_sub, nI_clamp, vinT, Nat.le_refl, Nat.reduceLeDiff, Nat.reduceLT, Nat.reduceEqDiff, Nat.reduceAdd, Nat.reduceMul, Nat.reduceSub, forall_eq, true_and, and_true, not_true_eq_false, not_false_eq_true, false_implies, true_implies, implies_true, if_true, if_false, ite_self, nI_eqI, nI_leI2, nI_ltI2, Nat.not_lt_zero, es, z, or_true]
        refine s_become_72_42 (by rw [es]; exact Or.inr z) (fun σ1 hB => ?_)
        unfold wM_image
        simp (disch := first | assumption | omega | decide) only [li0, li1, li2, li3, li4, li5, li6, li7, li8, li9, li10, li11, li12, li13, li14, li16, li17, li20, li21, li22, li23, li24, li30, li32, li40, li48, li57, li59, li63, li86, li97, li99, li100, li102, li115, li122, li200, li255, li289, li320, li400, li720, li999, li1000, nI_add, pk_mul, nI_sub, nI_clamp, vinT, Nat.le_refl, Nat.reduceLeDiff, Nat.reduceLT, Nat.reduceEqDiff, Nat.reduceAdd, Nat.reduceMul, Nat.reduceSub, forall_eq, true_and, and_true, not_true_eq_false, not_false_eq_true, false_implies, true_implies, implies_true, if_true, if_false, ite_self, nI_eqI, nI_leI2, nI_ltI2, Nat.not_lt_zero, eM_in, hB.2.2 89 (by omega), z]
        exact ⟨103, s_M_image (x := 1) (by omega) (σ0 := σ1) (fun σ2 f1 f2 f3 f4 f5 => ⟨rfl, pInv_image_1 h z hB f1 f2 f3 f4 f5⟩) 102 0 σ1 (by omega) (fun _ _ => rfl) (fun j hj => absurd hj (by omega)) (fun _ _ => rfl)⟩
  · have hx1 : 1 < x := by omega
    simp (disch := first | assumption | omega | decide) only [li0, li1, li2, li3, li4, li5, li6, li7, li8, li9, li10, li11, li12, li13, li14, li16, li17, li20, li21, li22, li23, li24, li30, li32, li40, li48, li57, li59, li63, li86, li97, li99, li100, li102, li115, li122, li200, li255, li289, li320, li400, li720, li999, li1000, nI_add, pk_mul, nI_sub, nI_clamp, vinT, Nat.le_refl, Nat.reduceLeDiff, Nat.reduceLT, Nat.reduceEqDiff, Nat.reduceAdd, Nat.reduceMul, Nat.reduceSub, forall_eq, true_and, and_true, not_true_eq_false, not_false_eq_true, false_implies, true_implies, implies_true, if_true, if_false, ite_self, nI_eqI, nI_leI2, nI_ltI2, hx2, hx1, Nat.not_lt_zero, wM_image, eM_in]
    exact h
theorem op_restore {k : Nat} {x1 : Int32} {σ : gM} (h : pInv k σ) : pBoth (wH_restore x1) (wM_restore x1) σ (pInv k) := by
  have n01 : ¬ nI 1 = nI 0 := by decide
  unfold pBoth wH_restore
  rcases i_nat x1 with h1 | ⟨x, hx, rfl⟩
  · simp (disch := first | assumption | omega | decide) only [li0, li1, li2, li3, li4, li5, li6, li7, li8, li9, li10, li11, li12, li13, li14, li16, li17, li20, li21, li22, li23, li24, li30, li32, li40, li48, li57, li59, li63, li86, li97, li99, li100, li102, li115, li122, li200, li255, li289, li320, li400, li720, li999, li1000, nI_add, pk_mul, nI_sub, nI_clamp, vinT, Nat.le_refl, Nat.reduceLeDiff, Nat.reduceLT, Nat.reduceEqDiff, Nat.reduceAdd, Nat.reduceMul, Nat.reduceSub, forall_eq, true_and, and_true, not_true_eq_false, not_false_eq_true, false_implies, true_implies, implies_true, if_true, if_false, ite_self, nI_eqI, nI_leI2, nI_ltI2, ng_lt, ng_le, ng_gt, ng_ge, ng_eq, ng_qe, wM_restore, eM_in]
    exact h
  by_cases hx2 : x < 2
  · have hx01 : x = 0 ∨ x = 1 := by omega
    rcases hx01 with rfl | rfl
    · have q := h.2.2.2.2.2.2.2.1
      rcases q with ⟨i1, i2⟩ | ⟨i1, i2, i3, -⟩
      · have i1 : σ 62 0 = nI 0 := i1
        simp (disch := first | assumption | omega | decide) only [li0, li1, li2, li3, li4, li5, li6, li7, li8, li9, li10, li11, li12, li13, li14, li16, li17, li20, li21, li22, li23, li24, li30, li32, li40, li48, li57, li59, li63, li86, li97, li99, li100, li102, li115, li122, li200, li255, li289, li320, li400, li720, li999, li1000, nI_add, pk_mul, nI_sub, nI_clamp, vinT, Nat.le_refl, Nat.reduceLeDiff, Nat.reduceLT, Nat.reduceEqDiff, Nat.reduceAdd, Nat.reduceMul, Nat.reduceSub, forall_eq, true_and, and_true, not_true_eq_false, not_false_eq_true, false_implies, true_implies, implies_true, if_true, if_false, ite_self, nI_eqI, nI_leI2, nI_ltI2, Nat.not_lt_zero, or_false, true_or, i1, wM_restore, eM_in, i2]
        exact h
      · have i1 : σ 62 0 = nI 1 := i1
        simp (disch := first | assumption | omega | decide) only [li0, li1, li2, li3, li4, li5, li6, li7, li8, li9, li10, li11, li12, li13, li14, li16, li17, li20, li21, li22, li23, li24, li30, li32, li40, li48, li57, li59, li63, li86, li97, li99, li100, li102, li115, li122, li200, li255, li289, li320, li400, li720, li999, li1000, nI_add, pk_mul, nI_sub, nI_clamp, vinT, Nat.le_refl, Nat.reduceLeDiff, Nat.reduceLT, Nat.reduceEqDiff, Nat.reduceAdd, Nat.reduceMul, Nat.reduceSub, forall_eq, true_and, and_true, not_true_eq_false, not_false_eq_true, false_implies, true_implies, implies_true, if_true, if_false, ite_self, nI_eqI, nI_leI2, nI_ltI2, Nat.not_lt_zero, or_false, true_or, i1]
        refine s_become_42_62 (Or.inr i1) (fun σ1 hB => ?_)
        have e91 : gU σ1 20 3 (nI 0) 91 = σ 91 := by rw [gU_ne (by decide), hB.2.2 91 (by omega)]
        simp (disch := first | assumption | omega | decide) only [li0, li1, li2, li3, li4, li5, li6, li7, li8, li9, li10, li11, li12, li13, li14, li16, li17, li20, li21, li22, li23, li24, li30, li32, li40, li48, li57, li59, li63, li86, li97, li99, li100, li102, li115, li122, li200, li255, li289, li320, li400, li720, li999, li1000, nI_add, pk_mul, nI_sub, nI_clamp, vinT, Nat.le_refl, Nat.reduceLeDiff, Nat.reduceLT, Nat.reduceEqDiff, Nat.reduceAdd, Nat.reduceMul, Nat.reduceSub, forall_eq, true_and, and_true, not_true_eq_false, not_false_eq_true, false_implies, true_implies, implies_true, if_true, if_false, ite_self, nI_eqI, nI_leI2, nI_ltI2, Nat.not_lt_zero, wA_forget, wM_restore, eM_in, e91, i2]
        refine ⟨103, s_M_restore (x := 0) (by omega) (σ0 := gU σ1 20 3 (nI 0)) (fun σ2 f1 f2 f3 f4 => ⟨rfl, pInv_restore_0 h i1 hB f1 (fun i hi => by rw [f2 i hi, gU_ne (by decide)]) f3 (fun p hp => by rw [f4 p hp, gU_ne (by decide)])⟩) 102 0 _ (by omega) (fun _ _ => rfl) (fun j hj => absurd hj (by omega))⟩
    · have q := h.2.2.2.2.2.2.2.2.1
      rcases q with ⟨i1, i2⟩ | ⟨i1, i2, i3, -⟩
      · have i1 : σ 72 0 = nI 0 := i1
        simp (disch := first | assumption | omega | decide) only [li0, li1, li2, li3, li4, li5, li6, li7, li8, li9, li10, li11, li12, li13, li14, li16, li17, li20, li21, li22, li23, li24, li30, li32, li40, li48, li57, li59, li63, li86, li97, li99, li100, li102, li115, li122, li200, li255, li289, li320, li400, li720, li999, li1000, nI_add, pk_mul, nI_sub, nI_clamp, vinT, Nat.le_refl, Nat.reduceLeDiff, Nat.reduceLT, Nat.reduceEqDiff, Nat.reduceAdd, Nat.reduceMul, Nat.reduceSub, forall_eq, true_and, and_true, not_true_eq_false, not_false_eq_true, false_implies, true_implies, implies_true, if_true, if_false, ite_self, nI_eqI, nI_leI2, nI_ltI2, Nat.not_lt_zero, or_true, i1, wM_restore, eM_in, i2]
        exact h
      · have i1 : σ 72 0 = nI 1 := i1
        simp (disch := first | assumption | omega | decide) only [li0, li1, li2, li3, li4, li5, li6, li7, li8, li9, li10, li11, li12, li13, li14, li16, li17, li20, li21, li22, li23, li24, li30, li32, li40, li48, li57, li59, li63, li86, li97, li99, li100, li102, li115, li122, li200, li255, li289, li320, li400, li720, li999, li1000, nI_add, pk_mul, nI_sub, nI_clamp, vinT, Nat.le_refl, Nat.reduceLeDiff, Nat.reduceLT, Nat.reduceEqDiff, Nat.reduceAdd, Nat.reduceMul, Nat.reduceSub, forall_eq, true_and, and_true, not_true_eq_false, not_false_eq_true, false_implies, true_implies, implies_true, if_true, if_false, ite_self, nI_eqI, nI_leI2, nI_ltI2, Nat.not_lt_zero, or_true, i1]
        refine s_become_42_72 (Or.inr i1) (fun σ1 hB => ?_)
        have e91 : gU σ1 20 3 (nI 0) 91 = σ 91 := by rw [gU_ne (by decide), hB.2.2 91 (by omega)]
        simp (disch := first | assumption | omega | decide) only [li0, li1, li2, li3, li4, li5, li6, li7, li8, li9, li10, li11, li12, li13, li14, li16, li17, li20, li21, li22, li23, li24, li30, li32, li40, li48, li57, li59, li63, li86, li97, li99, li100, li102, li115, li122, li200, li255, li289, li320, li400, li720, li999, li1000, nI_add, pk_mul, nI_sub, nI_clamp, vinT, Nat.le_refl, Nat.reduceLeDiff, Nat.reduceLT, Nat.reduceEqDiff, Nat.reduceAdd, Nat.reduceMul, Nat.reduceSub, forall_eq, true_and, and_true, not_true_eq_false, not_false_eq_true, false_implies, true_implies, implies_true, if_true, if_false, ite_self, nI_eqI, nI_leI2, nI_ltI2, Nat.not_lt_zero, wA_forget, wM_restore, eM_in, e91, i2]
        refine ⟨103, s_M_restore (x := 1) (by omega) (σ0 := gU σ1 20 3 (nI 0)) (fun σ2 f1 f2 f3 f4 => ⟨rfl, pInv_restore_1 h i1 hB f1 (fun i hi => by rw [f2 i hi, gU_ne (by decide)]) f3 (fun p hp => by rw [f4 p hp, gU_ne (by decide)])⟩) 102 0 _ (by omega) (fun _ _ => rfl) (fun j hj => absurd hj (by omega))⟩
  · have hx1 : 1 < x := by omega
    simp (disch := first | assumption | omega | decide) only [li0, li1, li2, li3, li4, li5, li6, li7, li8, li9, li10, li11, li12, li13, li14, li16, li17, li20, li21, li22, li23, li24, li30, li32, li40, li48, li57, li59, li63, li86, li97, li99, li100, li102, li115, li122, li200, li255, li289, li320, li400, li720, li999, li1000, nI_add, pk_mul, nI_sub, nI_clamp, vinT, Nat.le_refl, Nat.reduceLeDiff, Nat.reduceLT, Nat.reduceEqDiff, Nat.reduceAdd, Nat.reduceMul, Nat.reduceSub, forall_eq, true_and, and_true, not_true_eq_false, not_false_eq_true, false_implies, true_implies, implies_true, if_true, if_false, ite_self, nI_eqI, nI_leI2, nI_ltI2, hx2, hx1, Nat.not_lt_zero, wM_restore, eM_in]
    exact h
