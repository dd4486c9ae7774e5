theorem pInv_rows {k : Nat} {σ σ' : gM} (h : pInv k σ) (e : ∀ a, a ≠ 0 → a ≠ 82 → (a < 2 ∨ 17 < a) → a ≠ 83 → a ≠ 84 → a ≠ 85 → σ' a = σ a) (f : ∀ j, j ≠ 11 → σ' 0 j = σ 0 j) (g : ∀ j, j ≠ 3 → σ' 82 j = σ 82 j) (hs : σ' 0 11 = σ' 82 3) (hr : pRows σ') : pInv k σ' := by
  obtain ⟨a1, a2, a3, a4, a5, a6, a7, a8, a9, a10⟩ := h
  exact ⟨hr, hs, by rw [f _ (by omega), g _ (by omega)]; exact a3,
    pTape_fr (by rw [e _ (by omega) (by omega) (by omega) (by omega) (by omega) (by omega)]) (g _ (by omega)) (e _ (by omega) (by omega) (by omega) (by omega) (by omega) (by omega)) (e _ (by omega) (by omega) (by omega) (by omega) (by omega) (by omega)) a4,
    pTrace_fr (f _ (by omega)) (g _ (by omega)) (e _ (by omega) (by omega) (by omega) (by omega) (by omega) (by omega)) (e _ (by omega) (by omega) (by omega) (by omega) (by omega) (by omega)) a5,
    pStands_fr (by rw [e _ (by omega) (by omega) (by omega) (by omega) (by omega) (by omega)]) (e _ (by omega) (by omega) (by omega) (by omega) (by omega) (by omega)) a6,
    pMkt_fr (fun a b1 b2 => e _ (by omega) (by omega) (by omega) (by omega) (by omega) (by omega)) (e _ (by omega) (by omega) (by omega) (by omega) (by omega) (by omega)) a7,
    pImg_fr (fun a b1 b2 => e _ (by omega) (by omega) (by omega) (by omega) (by omega) (by omega)) (e _ (by omega) (by omega) (by omega) (by omega) (by omega) (by omega)) (e _ (by omega) (by omega) (by omega) (by omega) (by omega) (by omega)) a8,
    pImg_fr (fun a b1 b2 => e _ (by omega) (by omega) (by omega) (by omega) (by omega) (by omega)) (e _ (by omega) (by omega) (by omega) (by omega) (by omega) (by omega)) (e _ (by omega) (by omega) (by omega) (by omega) (by omega) (by omega)) a9,
    pActs_fr (g _ (by omega)) (e _ (by omega) (by omega) (by omega) (by omega) (by omega) (by omega)) (e _ (by omega) (by omega) (by omega) (by omega) (by omega) (by omega)) (e _ (by omega) (by omega) (by omega) (by omega) (by omega) (by omega)) (e _ (by omega) (by omega) (by omega) (by omega) (by omega) (by omega)) (e _ (by omega) (by omega) (by omega) (by omega) (by omega) (by omega)) (e _ (by omega) (by omega) (by omega) (by omega) (by omega) (by omega)) a10⟩
theorem op_row {k : Nat} {x1 x2 x3 : Int32} {σ : gM} (h : pInv k σ) : pBoth (wH_row x1 x2 x3) (wM_row x1 x2 x3) σ (pInv k) := by
  unfold pBoth wH_row
  rcases i_nat x1 with h1 | ⟨r, hr, rfl⟩
  · simp (disch := first | assumption | omega | decide) only [li0, li1, li2, li3, li4, li5, li6, li7, li8, li9, li10, li11, li12, li13, li14, li16, li17, li20, li21, li22, li23, li24, li30, li32, li40, li48, li57, li59, li63, li86, li97, li99, li100, li102, li115, li122, li200, li255, li289, li320, li400, li720, li999, li1000, nI_add, pk_mul, nI_sub, nI_clamp, vinT, Nat.le_refl, Nat.reduceLeDiff, Nat.reduceLT, Nat.reduceEqDiff, Nat.reduceAdd, Nat.reduceMul, Nat.reduceSub, forall_eq, true_and, and_true, not_true_eq_false, not_false_eq_true, false_implies, true_implies, implies_true, if_true, if_false, ite_self, nI_eqI, nI_leI2, nI_ltI2, ng_lt, ng_le, ng_gt, ng_ge, ng_eq, ng_qe, wM_row, eH_isNoRow, eM_isRow]
    exact h
  · by_cases hr8 : r < 8
    · have hr7 : ¬ 7 < r := by omega
      rcases i_nat x2 with h2 | ⟨l, hl, rfl⟩
      · simp (disch := first | assumption | omega | decide) only [li0, li1, li2, li3, li4, li5, li6, li7, li8, li9, li10, li11, li12, li13, li14, li16, li17, li20, li21, li22, li23, li24, li30, li32, li40, li48, li57, li59, li63, li86, li97, li99, li100, li102, li115, li122, li200, li255, li289, li320, li400, li720, li999, li1000, nI_add, pk_mul, nI_sub, nI_clamp, vinT, Nat.le_refl, Nat.reduceLeDiff, Nat.reduceLT, Nat.reduceEqDiff, Nat.reduceAdd, Nat.reduceMul, Nat.reduceSub, forall_eq, true_and, and_true, not_true_eq_false, not_false_eq_true, false_implies, true_implies, implies_true, if_true, if_false, ite_self, nI_eqI, nI_leI2, nI_ltI2, ng_lt, ng_le, ng_gt, ng_ge, ng_eq, ng_qe, wM_row, eH_isNoRow, eM_isRow, hr8, hr7, Nat.not_lt_zero, eM_in]
        exact h
      · by_cases hl2 : 2 < l
        · simp (disch := first | assumption | omega | decide) only [li0, li1, li2, li3, li4, li5, li6, li7, li8, li9, li10, li11, li12, li13, li14, li16, li17, li20, li21, li22, li23, li24, li30, li32, li40, li48, li57, li59, li63, li86, li97, li99, li100, li102, li115, li122, li200, li255, li289, li320, li400, li720, li999, li1000, nI_add, pk_mul, nI_sub, nI_clamp, vinT, Nat.le_refl, Nat.reduceLeDiff, Nat.reduceLT, Nat.reduceEqDiff, Nat.reduceAdd, Nat.reduceMul, Nat.reduceSub, forall_eq, true_and, and_true, not_true_eq_false, not_false_eq_true, false_implies, true_implies, implies_true, if_true, if_false, ite_self, nI_eqI, nI_leI2, nI_ltI2, ng_lt, ng_le, ng_gt, ng_ge, ng_eq, ng_qe, wM_row, eH_isNoRow, eM_isRow, hr8, hr7, Nat.not_lt_zero, eM_in, hl2]
          exact h
        · rcases i_nat x3 with h3 | ⟨n, hn, rfl⟩
          · simp (disch := first | assumption | omega | decide) only [li0, li1, li2, li3, li4, li5, li6, li7, li8, li9, li10, li11, li12, li13, li14, li16, li17, li20, li21, li22, li23, li24, li30, li32, li40, li48, li57, li59, li63, li86, li97, li99, li100, li102, li115, li122, li200, li255, li289, li320, li400, li720, li999, li1000, nI_add, pk_mul, nI_sub, nI_clamp, vinT, Nat.le_refl, Nat.reduceLeDiff, Nat.reduceLT, Nat.reduceEqDiff, Nat.reduceAdd, Nat.reduceMul, Nat.reduceSub, forall_eq, true_and, and_true, not_true_eq_false, not_false_eq_true, false_implies, true_implies, implies_true, if_true, if_false, ite_self, nI_eqI, nI_leI2, nI_ltI2, ng_lt, ng_le, ng_gt, ng_ge, ng_eq, ng_qe, wM_row, eH_isNoRow, eM_isRow, hr8, hr7, Nat.not_lt_zero, eM_in, hl2, wH_found, wM_finds]
            exact pInv_st _ h
          · by_cases hn40 : n ≤ 40
            · simp (disch := first | assumption | omega | decide) only [li0, li1, li2, li3, li4, li5, li6, li7, li8, li9, li10, li11, li12, li13, li14, li16, li17, li20, li21, li22, li23, li24, li30, li32, li40, li48, li57, li59, li63, li86, li97, li99, li100, li102, li115, li122, li200, li255, li289, li320, li400, li720, li999, li1000, nI_add, pk_mul, nI_sub, nI_clamp, vinT, Nat.le_refl, Nat.reduceLeDiff, Nat.reduceLT, Nat.reduceEqDiff, Nat.reduceAdd, Nat.reduceMul, Nat.reduceSub, forall_eq, true_and, and_true, not_true_eq_false, not_false_eq_true, false_implies, true_implies, implies_true, if_true, if_false, ite_self, nI_eqI, nI_leI2, nI_ltI2, ng_lt, ng_le, ng_gt, ng_ge, ng_eq, ng_qe, eH_isNoRow, hr8, hr7, Nat.not_lt_zero, Nat.zero_le, hl2, hn40]
              refine s_begin ?_
              simp (disch := first | assumption | omega | decide) only [li0, li1, li2, li3, li4, li5, li6, li7, li8, li9, li10, li11, li12, li13, li14, li16, li17, li20, li21, li22, li23, li24, li30, li32, li40, li48, li57, li59, li63, li86, li97, li99, li100, li102, li115, li122, li200, li255, li289, li320, li400, li720, li999, li1000, nI_add, pk_mul, nI_sub, nI_clamp, vinT, Nat.le_refl, Nat.reduceLeDiff, Nat.reduceLT, Nat.reduceEqDiff, Nat.reduceAdd, Nat.reduceMul, Nat.reduceSub, forall_eq, true_and, and_true, not_true_eq_false, not_false_eq_true, false_implies, true_implies, implies_true, if_true, if_false, ite_self, nI_eqI, nI_leI2, nI_ltI2, ng_lt, ng_le, ng_gt, ng_ge, ng_eq, ng_qe, wM_row, eM_isRow, hr7, Nat.not_lt_zero, Nat.zero_le, eM_in, hl2, hn40, wH_unfound]
              refine ⟨n + 1, s_M_row_l hr8 hn40 n 0 _ _ (by omega) (gFn_0 _ _ _ _).symm ⟨rfl, pInv_rows h ?_ ?_ ?_ ?_ ?_⟩⟩
              · intro a b1 b2 b3 b4 b5 b6
                simp (disch := first | assumption | omega | decide) only [gU_ne, gFn_ne]
              · intro j hj
                simp (disch := first | assumption | omega | decide) only [gU_ne, gFn_ne, gU_off]
              · intro j hj
                simp (disch := first | assumption | omega | decide) only [gU_ne, gFn_ne, gU_off]
              · simp (disch := first | assumption | omega | decide) only [gU_ne, gFn_ne, gU_eq]
              · intro r' hr'
                by_cases e : r' = r
                · subst e
                  right
                  refine ⟨?_, l, n, by omega, hn40, ?_, ?_, ?_, ?_, fun i hi => ?_⟩
                  · simp (disch := first | assumption | omega | decide) only [gU_ne, gFn_ne, gU_off, gU_eq]
                  · simp (disch := first | assumption | omega | decide) only [gU_ne, gFn_ne, gU_off, gU_eq]
                  · simp (disch := first | assumption | omega | decide) only [gU_ne, gFn_ne, gU_off, gU_eq]
                  · simp (disch := first | assumption | omega | decide) only [gU_ne, gFn_ne, gU_off, gU_eq]
                  · simp (disch := first | assumption | omega | decide) only [gU_ne, gFn_ne, gU_off, gU_eq]
                  · simp (disch := first | assumption | omega | decide) only [gU_ne, gFn_ne, gU_off, gU_eq, gFn_in]
                · simp (disch := first | assumption | omega | decide) only [gU_ne, gFn_ne, gU_off]
                  rcases h.1 r' hr' with q | ⟨q1, l2, n2, q2, q3, q4, q5, q6, q7, q8⟩
                  · exact Or.inl q
                  · refine Or.inr ⟨q1, l2, n2, q2, q3, q4, q5, q6, q7, fun i hi => ?_⟩
                    have ho : 40 * r' + i < 40 * r ∨ 40 * r + n ≤ 40 * r' + i := by omega
                    simp (disch := first | assumption | omega | decide) only [gFn_out, gU_ne, gFn_ne]
                    exact q8 i hi
            · simp (disch := first | assumption | omega | decide) only [li0, li1, li2, li3, li4, li5, li6, li7, li8, li9, li10, li11, li12, li13, li14, li16, li17, li20, li21, li22, li23, li24, li30, li32, li40, li48, li57, li59, li63, li86, li97, li99, li100, li102, li115, li122, li200, li255, li289, li320, li400, li720, li999, li1000, nI_add, pk_mul, nI_sub, nI_clamp, vinT, Nat.le_refl, Nat.reduceLeDiff, Nat.reduceLT, Nat.reduceEqDiff, Nat.reduceAdd, Nat.reduceMul, Nat.reduceSub, forall_eq, true_and, and_true, not_true_eq_false, not_false_eq_true, false_implies, true_implies, implies_true, if_true, if_false, ite_self, nI_eqI, nI_leI2, nI_ltI2, ng_lt, ng_le, ng_gt, ng_ge, ng_eq, ng_qe, wM_row, eH_isNoRow, eM_isRow, hr8, hr7, Nat.not_lt_zero, eM_in, hl2, hn40]
              exact h
    · have hr7 : 7 < r := by omega
      simp (disch := first | assumption | omega | decide) only [li0, li1, li2, li3, li4, li5, li6, li7, li8, li9, li10, li11, li12, li13, li14, li16, li17, li20, li21, li22, li23, li24, li30, li32, li40, li48, li57, li59, li63, li86, li97, li99, li100, li102, li115, li122, li200, li255, li289, li320, li400, li720, li999, li1000, nI_add, pk_mul, nI_sub, nI_clamp, vinT, Nat.le_refl, Nat.reduceLeDiff, Nat.reduceLT, Nat.reduceEqDiff, Nat.reduceAdd, Nat.reduceMul, Nat.reduceSub, forall_eq, true_and, and_true, not_true_eq_false, not_false_eq_true, false_implies, true_implies, implies_true, if_true, if_false, ite_self, nI_eqI, nI_leI2, nI_ltI2, ng_lt, ng_le, ng_gt, ng_ge, ng_eq, ng_qe, wM_row, eH_isNoRow, eM_isRow, hr8, hr7, Nat.not_lt_zero]
      exact h
/-- the rows' words in an order that a call can use -/
theorem pRows_at {σ : gM} (h : pRows σ) {r : Nat} (hr : r < 8) : (σ (2 + 2 * r) 1 = nI 0 ∧ σ 83 r < nI 0) ∨ (σ (2 + 2 * r) 1 = nI 1 ∧ ∃ l n : Nat, l ≤ 2 ∧ n ≤ 40 ∧ σ (2 + 2 * r) 2 = nI l ∧ σ 83 r = nI l ∧ σ (2 + 2 * r) 3 = nI n ∧ σ 84 r = nI n ∧ ∀ i, i < n → σ (2 + 2 * r + 1) i = σ 85 (40 * r + i)) := h r hr
theorem eM_isNull {r : Nat} {σ : gM} {Q : Int32 → gM → Prop} (hr : r < 8) : wM_isNull (nI r) σ Q = Q (if nI 0 ≤ σ 83 r then nI 0 else nI 1) σ := by
  unfold wM_isNull
  simp (disch := first | assumption | omega | decide) only [li0, li1, li2, li3, li4, li5, li6, li7, li8, li9, li10, li11, li12, li13, li14, li16, li17, li20, li21, li22, li23, li24, li30, li32, li40, li48, li57, li59, li63, li86, li97, li99, li100, li102, li115, li122, li200, li255, li289, li320, li400, li720, li999, li1000, nI_add, pk_mul, nI_sub, nI_clamp, vinT, Nat.le_refl, Nat.reduceLeDiff, Nat.reduceLT, Nat.reduceEqDiff, Nat.reduceAdd, Nat.reduceMul, Nat.reduceSub, forall_eq, true_and, and_true, not_true_eq_false, not_false_eq_true, false_implies, true_implies, implies_true, if_true, if_false, ite_self, nI_eqI, nI_leI2, nI_ltI2]
  by_cases q : nI 0 ≤ σ 83 r <;> simp [q]
theorem ng_nle {x : Int32} (h : x < nI 0) : ¬ nI 0 ≤ x := by
  rw [ng_ge h (by omega)]
  exact id
/-- n items from i on, in a row of m: it reaches, or not -/
def pRch (i n m : Int32) : Bool := !(decide (i < nI 0) || decide (n < nI 0) || decide (m < i) || decide (m - i < n))
theorem eR_reaches {r : Nat} {i n m : Int32} {σ : gM} {Q : Int32 → gM → Prop} (hm : σ (2 + 2 * r) 3 = m) : wR_reaches r i n σ Q = Q (if pRch i n m = true then nI 1 else nI 0) σ := by
  unfold wR_reaches pRch
  simp only [forall_eq, hm]
  by_cases h1 : i < nI 0
  · simp [h1]
  · by_cases h2 : n < nI 0
    · simp [h1, h2]
    · by_cases h3 : m < i
      · simp [h1, h2, h3]
      · by_cases h4 : m - i < n
        · simp [h1, h2, h3, h4]
        · simp [h1, h2, h3, h4]
theorem pRch_of {i n : Int32} {m : Nat} (hm : m ≤ 40) (h : pRch i n (nI m) = true) : ∃ i' n' : Nat, i = nI i' ∧ n = nI n' ∧ i' + n' ≤ m := by
  unfold pRch at h
  simp only [Bool.not_eq_true', Bool.or_eq_false_iff, decide_eq_false_iff_not] at h
  obtain ⟨⟨⟨h1, h2⟩, h3⟩, h4⟩ := h
  rcases i_nat i with a | ⟨i', hi, rfl⟩
  · exact absurd a h1
  · rcases i_nat n with a | ⟨n', hn, rfl⟩
    · exact absurd a h2
    · rw [nI_ltI2 (by omega) (by omega)] at h3
      rw [nI_sub (by omega), nI_ltI2 (by omega) (by omega)] at h4
      exact ⟨i', n', rfl, rfl, by omega⟩
theorem pRch_iff {i' n' m : Nat} (hm : m ≤ 40) (hi : i' < 2147483648) (hn : n' < 2147483648) : pRch (nI i') (nI n') (nI m) = decide (i' + n' ≤ m) := by
  by_cases h : i' + n' ≤ m
  · unfold pRch
    rw [nI_sub (by omega)]
    simp (disch := first | assumption | omega | decide) only [li0, li1, li2, li3, li4, li5, li6, li7, li8, li9, li10, li11, li12, li13, li14, li16, li17, li20, li21, li22, li23, li24, li30, li32, li40, li48, li57, li59, li63, li86, li97, li99, li100, li102, li115, li122, li200, li255, li289, li320, li400, li720, li999, li1000, nI_add, pk_mul, nI_sub, nI_clamp, vinT, Nat.le_refl, Nat.reduceLeDiff, Nat.reduceLT, Nat.reduceEqDiff, Nat.reduceAdd, Nat.reduceMul, Nat.reduceSub, forall_eq, true_and, and_true, not_true_eq_false, not_false_eq_true, false_implies, true_implies, implies_true, if_true, if_false, ite_self, nI_eqI, nI_leI2, nI_ltI2, nI_ltI2, Nat.not_lt_zero, h, decide_true, decide_false]
    simp
    omega
  · simp only [h, decide_false]
    cases e : pRch (nI i') (nI n') (nI m) with
    | false => rfl
    | true =>
      obtain ⟨i2, n2, a1, a2, a3⟩ := pRch_of hm e
      have b1 := nI_inj hi (by omega) a1
      have b2 := nI_inj hn (by omega) a2
      omega
theorem op_drop {k : Nat} {x1 : Int32} {σ : gM} (h : pInv k σ) : pBoth (wH_drop x1) (wM_drop x1) σ (pInv k) := by
  unfold pBoth wH_drop
  rcases i_nat x1 with h1 | ⟨r, hr, rfl⟩
  · simp (disch := first | assumption | omega | decide) only [li0, li1, li2, li3, li4, li5, li6, li7, li8, li9, li10, li11, li12, li13, li14, li16, li17, li20, li21, li22, li23, li24, li30, li32, li40, li48, li57, li59, li63, li86, li97, li99, li100, li102, li115, li122, li200, li255, li289, li320, li400, li720, li999, li1000, nI_add, pk_mul, nI_sub, nI_clamp, vinT, Nat.le_refl, Nat.reduceLeDiff, Nat.reduceLT, Nat.reduceEqDiff, Nat.reduceAdd, Nat.reduceMul, Nat.reduceSub, forall_eq, true_and, and_true, not_true_eq_false, not_false_eq_true, false_implies, true_implies, implies_true, if_true, if_false, ite_self, nI_eqI, nI_leI2, nI_ltI2, ng_lt, ng_le, ng_gt, ng_ge, ng_eq, ng_qe, wM_drop, eH_isNoRow, eM_isRow]
    exact h
  · by_cases hr8 : r < 8
    · have hr7 : ¬ 7 < r := by omega
      rcases pRows_at h.1 hr8 with ⟨q1, q2⟩ | ⟨q1, l, n, q2, q3, q4, q5, q6, q7, q8⟩
      · have q3 := ng_nle q2
        simp (disch := first | assumption | omega | decide) only [li0, li1, li2, li3, li4, li5, li6, li7, li8, li9, li10, li11, li12, li13, li14, li16, li17, li20, li21, li22, li23, li24, li30, li32, li40, li48, li57, li59, li63, li86, li97, li99, li100, li102, li115, li122, li200, li255, li289, li320, li400, li720, li999, li1000, nI_add, pk_mul, nI_sub, nI_clamp, vinT, Nat.le_refl, Nat.reduceLeDiff, Nat.reduceLT, Nat.reduceEqDiff, Nat.reduceAdd, Nat.reduceMul, Nat.reduceSub, forall_eq, true_and, and_true, not_true_eq_false, not_false_eq_true, false_implies, true_implies, implies_true, if_true, if_false, ite_self, nI_eqI, nI_leI2, nI_ltI2, ng_lt, ng_le, ng_gt, ng_ge, ng_eq, ng_qe, gU_ne, gU_eq, gU_off, wM_drop, eH_isNoRow, eM_isRow, hr8, hr7, Nat.not_lt_zero, q1, q3, eM_isNull, wH_found, wM_finds]
        exact pInv_st _ h
      · simp (disch := first | assumption | omega | decide) only [li0, li1, li2, li3, li4, li5, li6, li7, li8, li9, li10, li11, li12, li13, li14, li16, li17, li20, li21, li22, li23, li24, li30, li32, li40, li48, li57, li59, li63, li86, li97, li99, li100, li102, li115, li122, li200, li255, li289, li320, li400, li720, li999, li1000, nI_add, pk_mul, nI_sub, nI_clamp, vinT, Nat.le_refl, Nat.reduceLeDiff, Nat.reduceLT, Nat.reduceEqDiff, Nat.reduceAdd, Nat.reduceMul, Nat.reduceSub, forall_eq, true_and, and_true, not_true_eq_false, not_false_eq_true, false_implies, true_implies, implies_true, if_true, if_false, ite_self, nI_eqI, nI_leI2, nI_ltI2, ng_lt, ng_le, ng_gt, ng_ge, ng_eq, ng_qe, gU_ne, gU_eq, gU_off, wM_drop, eH_isNoRow, eM_isRow, hr8, hr7, Nat.not_lt_zero, Nat.zero_le, q1, q5, eM_isNull, wH_unfound, wM_did, q6, q7]
        refine pInv_rows h ?_ ?_ ?_ ?_ ?_
        · intro a b1 b2 b3 b4 b5 b6
          simp (disch := first | assumption | omega | decide) only [gU_ne]
        · intro j hj
          simp (disch := first | assumption | omega | decide) only [gU_ne, gU_off]
        · intro j hj
          simp (disch := first | assumption | omega | decide) only [gU_ne, gU_off]
        · simp (disch := first | assumption | omega | decide) only [gU_ne, gU_eq]
        · intro r' hr'
          by_cases e : r' = r
          · subst e
            left
            simp (disch := first | assumption | omega | decide) only [gU_ne, gU_eq]
            exact ⟨trivial, by decide⟩
          · simp (disch := first | assumption | omega | decide) only [gU_ne, gU_off]
            exact h.1 r' hr'
    · have hr7 : 7 < r := by omega
      simp (disch := first | assumption | omega | decide) only [li0, li1, li2, li3, li4, li5, li6, li7, li8, li9, li10, li11, li12, li13, li14, li16, li17, li20, li21, li22, li23, li24, li30, li32, li40, li48, li57, li59, li63, li86, li97, li99, li100, li102, li115, li122, li200, li255, li289, li320, li400, li720, li999, li1000, nI_add, pk_mul, nI_sub, nI_clamp, vinT, Nat.le_refl, Nat.reduceLeDiff, Nat.reduceLT, Nat.reduceEqDiff, Nat.reduceAdd, Nat.reduceMul, Nat.reduceSub, forall_eq, true_and, and_true, not_true_eq_false, not_false_eq_true, false_implies, true_implies, implies_true, if_true, if_false, ite_self, nI_eqI, nI_leI2, nI_ltI2, ng_lt, ng_le, ng_gt, ng_ge, ng_eq, ng_qe, wM_drop, eH_isNoRow, eM_isRow, hr8, hr7, Nat.not_lt_zero]
      exact h
theorem op_set {k : Nat} {x1 x2 x3 : Int32} {σ : gM} (h : pInv k σ) : pBoth (wH_set x1 x2 x3) (wM_set x1 x2 x3) σ (pInv k) := by
  unfold pBoth wH_set
  rcases i_nat x1 with h1 | ⟨r, hr, rfl⟩
  · simp (disch := first | assumption | omega | decide) only [li0, li1, li2, li3, li4, li5, li6, li7, li8, li9, li10, li11, li12, li13, li14, li16, li17, li20, li21, li22, li23, li24, li30, li32, li40, li48, li57, li59, li63, li86, li97, li99, li100, li102, li115, li122, li200, li255, li289, li320, li400, li720, li999, li1000, nI_add, pk_mul, nI_sub, nI_clamp, vinT, Nat.le_refl, Nat.reduceLeDiff, Nat.reduceLT, Nat.reduceEqDiff, Nat.reduceAdd, Nat.reduceMul, Nat.reduceSub, forall_eq, true_and, and_true, not_true_eq_false, not_false_eq_true, false_implies, true_implies, implies_true, if_true, if_false, ite_self, nI_eqI, nI_leI2, nI_ltI2, ng_lt, ng_le, ng_gt, ng_ge, ng_eq, ng_qe, wM_set, eH_isNoRow, eM_isRow]
    exact h
  · by_cases hr8 : r < 8
    · have hr7 : ¬ 7 < r := by omega
      rcases pRows_at h.1 hr8 with ⟨q1, q2⟩ | ⟨q1, l, n, q2, q3, q4, q5, q6, q7, q8⟩
      · have q3 := ng_nle q2
        simp (disch := first | assumption | omega | decide) only [li0, li1, li2, li3, li4, li5, li6, li7, li8, li9, li10, li11, li12, li13, li14, li16, li17, li20, li21, li22, li23, li24, li30, li32, li40, li48, li57, li59, li63, li86, li97, li99, li100, li102, li115, li122, li200, li255, li289, li320, li400, li720, li999, li1000, nI_add, pk_mul, nI_sub, nI_clamp, vinT, Nat.le_refl, Nat.reduceLeDiff, Nat.reduceLT, Nat.reduceEqDiff, Nat.reduceAdd, Nat.reduceMul, Nat.reduceSub, forall_eq, true_and, and_true, not_true_eq_false, not_false_eq_true, false_implies, true_implies, implies_true, if_true, if_false, ite_self, nI_eqI, nI_leI2, nI_ltI2, ng_lt, ng_le, ng_gt, ng_ge, ng_eq, ng_qe, gU_ne, gU_eq, gU_off, wM_set, eH_isNoRow, eM_isRow, hr8, hr7, Nat.not_lt_zero, q1, q3, eM_isNull, wH_found, wM_finds, wH_findingOf]
        exact pInv_st _ h
      · rcases i_in x2 n (by omega) with ⟨i, hi, rfl⟩ | ⟨e1, e2⟩
        · have hR : pRch (nI i) (nI 1) (nI n) = true := by rw [pRch_iff q3 (by omega) (by omega)]; exact decide_eq_true (by omega)
          have hn1 : 1 ≤ n := by omega
          have hn2 : ¬ n - 1 < i := by omega
          have hl : l = 0 ∨ l = 1 ∨ l = 2 := by omega
          obtain ⟨v, hv⟩ : ∃ v : Int32, v = (if nI l = nI 0 then x3.toInt8.toInt32 else if nI l = nI 1 then x3.toInt16.toInt32 else x3) := ⟨_, rfl⟩
          have goal : pInv k (gU (gU (gU (gU σ (2 + 2 * r + 1) i v) 0 11 (nI 0)) 85 (40 * r + i) v) 82 3 (nI 0)) := by
            refine pInv_rows h ?_ ?_ ?_ ?_ ?_
            · intro a b1 b2 b3 b4 b5 b6
              simp (disch := first | assumption | omega | decide) only [gU_ne]
            · intro j hj
              simp (disch := first | assumption | omega | decide) only [gU_ne, gU_off]
            · intro j hj
              simp (disch := first | assumption | omega | decide) only [gU_ne, gU_off]
            · simp (disch := first | assumption | omega | decide) only [gU_ne, gU_eq]
            · intro r' hr'
              by_cases e : r' = r
              · subst e
                right
                simp (disch := first | assumption | omega | decide) only [gU_ne]
                refine ⟨q1, l, n, q2, q3, q4, q5, q6, q7, fun j hj => ?_⟩
                by_cases ej : j = i
                · subst ej
                  simp only [gU_eq]
                · have ej2 : 40 * r' + j ≠ 40 * r' + i := by omega
                  simp (disch := first | assumption | omega | decide) only [gU_off, gU_ne]
                  exact q8 j hj
              · simp (disch := first | assumption | omega | decide) only [gU_ne]
                rcases h.1 r' hr' with q | ⟨p1, l2, n2, p2, p3, p4, p5, p6, p7, p8⟩
                · exact Or.inl q
                · refine Or.inr ⟨p1, l2, n2, p2, p3, p4, p5, p6, p7, fun j hj => ?_⟩
                  have ho : 40 * r' + j ≠ 40 * r + i := by omega
                  simp (disch := first | assumption | omega | decide) only [gU_off, gU_ne]
                  exact p8 j hj
          rcases hl with rfl | rfl | rfl <;>
          · simp (disch := first | assumption | omega | decide) only [li0, li1, li2, li3, li4, li5, li6, li7, li8, li9, li10, li11, li12, li13, li14, li16, li17, li20, li21, li22, li23, li24, li30, li32, li40, li48, li57, li59, li63, li86, li97, li99, li100, li102, li115, li122, li200, li255, li289, li320, li400, li720, li999, li1000, nI_add, pk_mul, nI_sub, nI_clamp, vinT, Nat.le_refl, Nat.reduceLeDiff, Nat.reduceLT, Nat.reduceEqDiff, Nat.reduceAdd, Nat.reduceMul, Nat.reduceSub, forall_eq, true_and, and_true, not_true_eq_false, not_false_eq_true, false_implies, true_implies, implies_true, if_true, if_false, ite_self, nI_eqI, nI_leI2, nI_ltI2] at hv
            subst hv
            simp (disch := first | assumption | omega | decide) only [li0, li1, li2, li3, li4, li5, li6, li7, li8, li9, li10, li11, li12, li13, li14, li16, li17, li20, li21, li22, li23, li24, li30, li32, li40, li48, li57, li59, li63, li86, li97, li99, li100, li102, li115, li122, li200, li255, li289, li320, li400, li720, li999, li1000, nI_add, pk_mul, nI_sub, nI_clamp, vinT, Nat.le_refl, Nat.reduceLeDiff, Nat.reduceLT, Nat.reduceEqDiff, Nat.reduceAdd, Nat.reduceMul, Nat.reduceSub, forall_eq, true_and, and_true, not_true_eq_false, not_false_eq_true, false_implies, true_implies, implies_true, if_true, if_false, ite_self, nI_eqI, nI_leI2, nI_ltI2, ng_lt, ng_le, ng_gt, ng_ge, ng_eq, ng_qe, gU_ne, gU_eq, gU_off, wM_set, eH_isNoRow, eM_isRow, hr8, hr7, Nat.not_lt_zero, Nat.zero_le, q1, q4, q5, q6, q7, eM_isNull, wH_unfound, wM_did, wH_findingOf, eR_reaches, hR, wR_put, wR_cutToLane, eM_in, hn2]
            exact goal
        · have hR : pRch x2 (nI 1) (nI n) = false := by
            cases e : pRch x2 (nI 1) (nI n) with
            | false => rfl
            | true =>
              obtain ⟨i2, n2, a1, a2, a3⟩ := pRch_of q3 e
              have b2 := nI_inj (by omega) (by omega) a2
              rw [a1, pB_in (by omega) (by omega)] at e1
              exact absurd e1 (by decide)
          have e3 := e_inRange (x := x2) (n := n) (by omega)
          rw [e1] at e3
          simp (disch := first | assumption | omega | decide) only [Nat.le_refl, Nat.reduceLeDiff, Nat.reduceLT, Nat.reduceEqDiff, Nat.reduceAdd, Nat.reduceMul, Nat.reduceSub, forall_eq, true_and, and_true, not_true_eq_false, not_false_eq_true, false_implies, true_implies, implies_true, if_true, if_false, ite_self, ng_lt, ng_le, ng_gt, ng_ge, ng_eq, ng_qe, gU_ne, gU_eq, gU_off, nI_eqI, vinT, nI_clamp, wM_set, eH_isNoRow, eM_isRow, hr8, hr7, Nat.not_lt_zero, Nat.zero_le, q1, q5, q6, q7, eM_isNull, wH_found, wM_finds, wH_findingOf, eR_reaches, hR, eM_in, Bool.false_eq_true, e3, nI_ltI2, nI_leI2]
          exact pInv_st _ h
    · have hr7 : 7 < r := by omega
      simp (disch := first | assumption | omega | decide) only [li0, li1, li2, li3, li4, li5, li6, li7, li8, li9, li10, li11, li12, li13, li14, li16, li17, li20, li21, li22, li23, li24, li30, li32, li40, li48, li57, li59, li63, li86, li97, li99, li100, li102, li115, li122, li200, li255, li289, li320, li400, li720, li999, li1000, nI_add, pk_mul, nI_sub, nI_clamp, vinT, Nat.le_refl, Nat.reduceLeDiff, Nat.reduceLT, Nat.reduceEqDiff, Nat.reduceAdd, Nat.reduceMul, Nat.reduceSub, forall_eq, true_and, and_true, not_true_eq_false, not_false_eq_true, false_implies, true_implies, implies_true, if_true, if_false, ite_self, nI_eqI, nI_leI2, nI_ltI2, ng_lt, ng_le, ng_gt, ng_ge, ng_eq, ng_qe, wM_set, eH_isNoRow, eM_isRow, hr8, hr7, Nat.not_lt_zero]
      exact h
