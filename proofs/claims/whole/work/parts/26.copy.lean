theorem sub_I {a b : Nat} (ha : a < 2147483648) (hb : b < 2147483648) : (nI a - nI b).toInt = (a : Int) - (b : Int) := by
  rw [Int32.toInt_sub, nI_I ha, nI_I hb]
  unfold Int.bmod
  simp only
  split <;> omega
theorem lt_sub {a b c : Nat} (ha : a < 2147483648) (hb : b < 2147483648) (hc : c < 2147483648) : (nI a - nI b < nI c) = (a < b + c) := propext (by rw [i_lt, sub_I ha hb, nI_I hc]; omega)
theorem le_sub {a b c : Nat} (ha : a < 2147483648) (hb : b < 2147483648) (hc : c < 2147483648) : (nI c ≤ nI a - nI b) = (b + c ≤ a) := propext (by rw [i_le, sub_I ha hb, nI_I hc]; omega)
theorem add_m1 (x : Int32) : x + (-1) = x - nI 1 := by rw [Int32.sub_eq_add_neg]; rfl
theorem add_m1n (x : Int32) : x + -nI 1 = x - nI 1 := add_m1 x
theorem gCp_ne {σ : gM} {a sp b dp n c : Nat} (h : c ≠ b) : gCp σ a sp b dp n c = σ c := by funext j; simp [gCp, h]
theorem gCp_in {σ : gM} {a sp b dp n j : Nat} (h1 : dp ≤ j) (h2 : j < dp + n) : gCp σ a sp b dp n b j = σ a (sp + (j - dp)) := by simp only [gCp, if_true]; exact pk_cpy_in h1 h2
theorem gCp_out {σ : gM} {a sp b dp n j : Nat} (h : j < dp ∨ dp + n ≤ j) : gCp σ a sp b dp n b j = σ b j := by simp only [gCp, if_true]; exact pk_cpy_out h
section Copy
variable {r s i j n : Nat} {Q : Int32 → gM → Prop}
theorem s_M_copyF (hr : r < 8) (hs : s < 8) (hi : i + n ≤ 40) (hj : j + n ≤ 40) (hd : 40 * s + j ≤ 40 * r + i) : ∀ (m c : Nat) (σ σ0 : gM), c + m = n → σ = gFn σ0 85 (40 * s + j) c (fun t => σ0 85 (40 * r + i + t)) → Q (nI n) (gU (gFn σ0 85 (40 * s + j) n (fun t => σ0 85 (40 * r + i + t))) 82 3 (nI 0)) → wM_copy_l175 Q (m + 1) (nI r) (nI i) (nI s) (nI j) (nI n) (nI c) σ := by
  intro m
  induction m with
  | zero =>
    intro c σ σ0 hc hσ h
    have : c = n := by omega
    subst this
    subst hσ
    rw [wM_copy_l175]
    simp (disch := first | assumption | omega | decide) only [li0, li1, li2, li3, li4, li5, li6, li7, li8, li9, li10, li11, li12, li13, li14, li16, li17, li20, li21, li22, li23, li24, li30, li32, li40, li48, li57, li59, li63, li86, li97, li99, li100, li102, li115, li122, li200, li255, li289, li320, li400, li720, li999, li1000, nI_add, pk_mul, nI_sub, nI_clamp, vinT, Nat.le_refl, Nat.reduceLeDiff, Nat.reduceLT, Nat.reduceEqDiff, Nat.reduceAdd, Nat.reduceMul, Nat.reduceSub, forall_eq, true_and, and_true, not_true_eq_false, not_false_eq_true, false_implies, true_implies, implies_true, if_true, if_false, ite_self, nI_eqI, nI_leI2, nI_ltI2, wM_did]
    exact h
  | succ m ih =>
    intro c σ σ0 hc hσ h
    have h1 : ¬ n ≤ c := by omega
    rw [wM_copy_l175]
    simp (disch := first | assumption | omega | decide) only [li0, li1, li2, li3, li4, li5, li6, li7, li8, li9, li10, li11, li12, li13, li14, li16, li17, li20, li21, li22, li23, li24, li30, li32, li40, li48, li57, li59, li63, li86, li97, li99, li100, li102, li115, li122, li200, li255, li289, li320, li400, li720, li999, li1000, nI_add, pk_mul, nI_sub, nI_clamp, vinT, Nat.le_refl, Nat.reduceLeDiff, Nat.reduceLT, Nat.reduceEqDiff, Nat.reduceAdd, Nat.reduceMul, Nat.reduceSub, forall_eq, true_and, and_true, not_true_eq_false, not_false_eq_true, false_implies, true_implies, implies_true, if_true, if_false, ite_self, nI_eqI, nI_leI2, nI_ltI2, h1]
    refine ih (c + 1) _ σ0 (by omega) ?_ h
    subst hσ
    rw [gFn_out (Or.inr (by omega))]
    exact gFn_succ σ0 85 (40 * s + j) c (fun t => σ0 85 (40 * r + i + t))
theorem gFn_back (σ : gM) (o lo k : Nat) (f : Nat → Int32) : gU (gFn σ o (lo + 1) k (fun t => f (t + 1))) o lo (f 0) = gFn σ o lo (k + 1) f := by
  funext a b
  simp only [gFn, gU]
  by_cases ha : a = o
  · by_cases hb : b = lo
    · subst hb
      rw [if_pos ⟨ha, rfl⟩, if_pos ⟨ha, by omega, by omega⟩, Nat.sub_self]
    · rw [if_neg (fun h => hb h.2)]
      by_cases h2 : lo + 1 ≤ b ∧ b < lo + 1 + k
      · rw [if_pos ⟨ha, h2⟩, if_pos ⟨ha, by omega, by omega⟩]
        congr 1
        omega
      · rw [if_neg (fun h => h2 h.2), if_neg (fun h => h2 ⟨by omega, by omega⟩)]
  · rw [if_neg (fun h => ha h.1), if_neg (fun h => ha h.1), if_neg (fun h => ha h.1)]
theorem s_M_copyB (hr : r < 8) (hs : s < 8) (hi : i + n ≤ 40) (hj : j + n ≤ 40) (hd : 40 * r + i < 40 * s + j) : ∀ (m : Nat) (σ σ0 : gM), m ≤ n → σ = gFn σ0 85 (40 * s + j + m) (n - m) (fun t => σ0 85 (40 * r + i + m + t)) → Q (nI n) (gU (gFn σ0 85 (40 * s + j) n (fun t => σ0 85 (40 * r + i + t))) 82 3 (nI 0)) → wM_copy_l129 Q (m + 1) (nI r) (nI i) (nI s) (nI j) (nI n) (nI m - nI 1) σ := by
  intro m
  induction m with
  | zero =>
    intro σ σ0 hc hσ h
    subst hσ
    rw [wM_copy_l129]
    have e : nI 0 - nI 1 < nI 0 := by rw [lt_sub (by omega) (by omega) (by omega)]; omega
    simp only [e, wM_did, Nat.le_refl, Nat.reduceLeDiff, Nat.reduceLT, Nat.reduceEqDiff, Nat.reduceAdd, Nat.reduceMul, Nat.reduceSub, forall_eq, true_and, and_true, not_true_eq_false, not_false_eq_true, false_implies, true_implies, implies_true, if_true, if_false, ite_self, forall_eq]
    exact h
  | succ m ih =>
    intro σ σ0 hc hσ h
    rw [wM_copy_l129]
    simp (disch := first | assumption | omega | decide) only [li0, li1, li2, li3, li4, li5, li6, li7, li8, li9, li10, li11, li12, li13, li14, li16, li17, li20, li21, li22, li23, li24, li30, li32, li40, li48, li57, li59, li63, li86, li97, li99, li100, li102, li115, li122, li200, li255, li289, li320, li400, li720, li999, li1000, nI_add, pk_mul, nI_sub, nI_clamp, vinT, Nat.le_refl, Nat.reduceLeDiff, Nat.reduceLT, Nat.reduceEqDiff, Nat.reduceAdd, Nat.reduceMul, Nat.reduceSub, forall_eq, true_and, and_true, not_true_eq_false, not_false_eq_true, false_implies, true_implies, implies_true, if_true, if_false, ite_self, nI_eqI, nI_leI2, nI_ltI2, Nat.add_sub_cancel, Nat.not_lt_zero, add_m1, add_m1n]
    refine ih _ σ0 (by omega) ?_ h
    subst hσ
    rw [gFn_out (Or.inl (by omega))]
    have e1 := gFn_back σ0 85 (40 * s + j + m) (n - (m + 1)) (fun t => σ0 85 (40 * r + i + m + t))
    have e2 : n - (m + 1) + 1 = n - m := by omega
    rw [e2] at e1
    rw [← e1, show 40 * r + i + m + 0 = 40 * r + i + m from rfl, show 40 * s + j + (m + 1) = 40 * s + j + m + 1 from rfl]
    congr 2
    funext t
    congr 1
    omega
end Copy
theorem op_copy {k : Nat} {x1 x2 x3 x4 x5 : Int32} {σ : gM} (h : pInv k σ) : pBoth (wH_copy x1 x2 x3 x4 x5) (wM_copy x1 x2 x3 x4 x5) σ (pInv k) := by
  unfold pBoth wH_copy
  rcases i_nat x1 with h1 | ⟨r, hr, rfl⟩
  · simp (disch := first | assumption | omega | decide) only [li0, li1, li2, li3, li4, li5, li6, li7, li8, li9, li10, li11, li12, li13, li14, li16, li17, li20, li21, li22, li23, li24, li30, li32, li40, li48, li57, li59, li63, li86, li97, li99, li100, li102, li115, li122, li200, li255, li289, li320, li400, li720, li999, li1000, nI_add, pk_mul, nI_sub, nI_clamp, vinT, Nat.le_refl, Nat.reduceLeDiff, Nat.reduceLT, Nat.reduceEqDiff, Nat.reduceAdd, Nat.reduceMul, Nat.reduceSub, forall_eq, true_and, and_true, not_true_eq_false, not_false_eq_true, false_implies, true_implies, implies_true, if_true, if_false, ite_self, nI_eqI, nI_leI2, nI_ltI2, ng_lt, ng_le, ng_gt, ng_ge, ng_eq, ng_qe, wM_copy, eH_isNoRow, eM_isRow]
    exact h
  by_cases hr8 : r < 8
  rotate_left
  · have hr7 : 7 < r := by omega
    simp (disch := first | assumption | omega | decide) only [li0, li1, li2, li3, li4, li5, li6, li7, li8, li9, li10, li11, li12, li13, li14, li16, li17, li20, li21, li22, li23, li24, li30, li32, li40, li48, li57, li59, li63, li86, li97, li99, li100, li102, li115, li122, li200, li255, li289, li320, li400, li720, li999, li1000, nI_add, pk_mul, nI_sub, nI_clamp, vinT, Nat.le_refl, Nat.reduceLeDiff, Nat.reduceLT, Nat.reduceEqDiff, Nat.reduceAdd, Nat.reduceMul, Nat.reduceSub, forall_eq, true_and, and_true, not_true_eq_false, not_false_eq_true, false_implies, true_implies, implies_true, if_true, if_false, ite_self, nI_eqI, nI_leI2, nI_ltI2, ng_lt, ng_le, ng_gt, ng_ge, ng_eq, ng_qe, wM_copy, eH_isNoRow, eM_isRow, hr8, hr7, Nat.not_lt_zero]
    exact h
  have hr7 : ¬ 7 < r := by omega
  rcases i_nat x3 with h3 | ⟨s, hs, rfl⟩
  · simp (disch := first | assumption | omega | decide) only [li0, li1, li2, li3, li4, li5, li6, li7, li8, li9, li10, li11, li12, li13, li14, li16, li17, li20, li21, li22, li23, li24, li30, li32, li40, li48, li57, li59, li63, li86, li97, li99, li100, li102, li115, li122, li200, li255, li289, li320, li400, li720, li999, li1000, nI_add, pk_mul, nI_sub, nI_clamp, vinT, Nat.le_refl, Nat.reduceLeDiff, Nat.reduceLT, Nat.reduceEqDiff, Nat.reduceAdd, Nat.reduceMul, Nat.reduceSub, forall_eq, true_and, and_true, not_true_eq_false, not_false_eq_true, false_implies, true_implies, implies_true, if_true, if_false, ite_self, nI_eqI, nI_leI2, nI_ltI2, ng_lt, ng_le, ng_gt, ng_ge, ng_eq, ng_qe, wM_copy, eH_isNoRow, eM_isRow, hr8, hr7, Nat.not_lt_zero]
    exact h
  by_cases hs8 : s < 8
  rotate_left
  · have hs7 : 7 < s := by omega
    simp (disch := first | assumption | omega | decide) only [li0, li1, li2, li3, li4, li5, li6, li7, li8, li9, li10, li11, li12, li13, li14, li16, li17, li20, li21, li22, li23, li24, li30, li32, li40, li48, li57, li59, li63, li86, li97, li99, li100, li102, li115, li122, li200, li255, li289, li320, li400, li720, li999, li1000, nI_add, pk_mul, nI_sub, nI_clamp, vinT, Nat.le_refl, Nat.reduceLeDiff, Nat.reduceLT, Nat.reduceEqDiff, Nat.reduceAdd, Nat.reduceMul, Nat.reduceSub, forall_eq, true_and, and_true, not_true_eq_false, not_false_eq_true, false_implies, true_implies, implies_true, if_true, if_false, ite_self, nI_eqI, nI_leI2, nI_ltI2, ng_lt, ng_le, ng_gt, ng_ge, ng_eq, ng_qe, wM_copy, eH_isNoRow, eM_isRow, hr8, hr7, hs8, hs7, Nat.not_lt_zero]
    exact h
  have hs7 : ¬ 7 < s := by omega
  rcases pRows_at h.1 hr8 with ⟨q1, q2⟩ | ⟨q1, l, n, q2, q3, q4, q5, q6, q7, q8⟩
  · have q3 := ng_nle q2
    simp (disch := first | assumption | omega | decide) only [li0, li1, li2, li3, li4, li5, li6, li7, li8, li9, li10, li11, li12, li13, li14, li16, li17, li20, li21, li22, li23, li24, li30, li32, li40, li48, li57, li59, li63, li86, li97, li99, li100, li102, li115, li122, li200, li255, li289, li320, li400, li720, li999, li1000, nI_add, pk_mul, nI_sub, nI_clamp, vinT, Nat.le_refl, Nat.reduceLeDiff, Nat.reduceLT, Nat.reduceEqDiff, Nat.reduceAdd, Nat.reduceMul, Nat.reduceSub, forall_eq, true_and, and_true, not_true_eq_false, not_false_eq_true, false_implies, true_implies, implies_true, if_true, if_false, ite_self, nI_eqI, nI_leI2, nI_ltI2, ng_lt, ng_le, ng_gt, ng_ge, ng_eq, ng_qe, gU_ne, gU_eq, gU_off, wM_copy, eH_isNoRow, eM_isRow, hr8, hr7, hs8, hs7, Nat.not_lt_zero, q1, q3, eM_isNull, wH_found, wM_finds]
    exact pInv_st _ h
  rcases pRows_at h.1 hs8 with ⟨p1, p2⟩ | ⟨p1, l2, n2, p2, p3, p4, p5, p6, p7, p8⟩
  · have p3 := ng_nle p2
    simp (disch := first | assumption | omega | decide) only [li0, li1, li2, li3, li4, li5, li6, li7, li8, li9, li10, li11, li12, li13, li14, li16, li17, li20, li21, li22, li23, li24, li30, li32, li40, li48, li57, li59, li63, li86, li97, li99, li100, li102, li115, li122, li200, li255, li289, li320, li400, li720, li999, li1000, nI_add, pk_mul, nI_sub, nI_clamp, vinT, Nat.le_refl, Nat.reduceLeDiff, Nat.reduceLT, Nat.reduceEqDiff, Nat.reduceAdd, Nat.reduceMul, Nat.reduceSub, forall_eq, true_and, and_true, not_true_eq_false, not_false_eq_true, false_implies, true_implies, implies_true, if_true, if_false, ite_self, nI_eqI, nI_leI2, nI_ltI2, ng_lt, ng_le, ng_gt, ng_ge, ng_eq, ng_qe, gU_ne, gU_eq, gU_off, wM_copy, eH_isNoRow, eM_isRow, hr8, hr7, hs8, hs7, Nat.not_lt_zero, Nat.zero_le, q1, q5, p1, p3, eM_isNull, wH_found, wM_finds]
    exact pInv_st _ h
  by_cases hl : l = l2
  rotate_left
  · simp (disch := first | assumption | omega | decide) only [li0, li1, li2, li3, li4, li5, li6, li7, li8, li9, li10, li11, li12, li13, li14, li16, li17, li20, li21, li22, li23, li24, li30, li32, li40, li48, li57, li59, li63, li86, li97, li99, li100, li102, li115, li122, li200, li255, li289, li320, li400, li720, li999, li1000, nI_add, pk_mul, nI_sub, nI_clamp, vinT, Nat.le_refl, Nat.reduceLeDiff, Nat.reduceLT, Nat.reduceEqDiff, Nat.reduceAdd, Nat.reduceMul, Nat.reduceSub, forall_eq, true_and, and_true, not_true_eq_false, not_false_eq_true, false_implies, true_implies, implies_true, if_true, if_false, ite_self, nI_eqI, nI_leI2, nI_ltI2, ng_lt, ng_le, ng_gt, ng_ge, ng_eq, ng_qe, gU_ne, gU_eq, gU_off, wM_copy, eH_isNoRow, eM_isRow, hr8, hr7, hs8, hs7, Nat.not_lt_zero, Nat.zero_le, q1, q4, q5, p1, p4, p5, hl, eM_isNull, wH_found, wM_finds]
    exact pInv_st _ h
  subst hl
  rcases i_nat x2 with h2 | ⟨i, hi, rfl⟩
  · have e : pRch x2 x5 (nI n) = false := by simp [pRch, h2]
    simp (disch := first | assumption | omega | decide) only [li0, li1, li2, li3, li4, li5, li6, li7, li8, li9, li10, li11, li12, li13, li14, li16, li17, li20, li21, li22, li23, li24, li30, li32, li40, li48, li57, li59, li63, li86, li97, li99, li100, li102, li115, li122, li200, li255, li289, li320, li400, li720, li999, li1000, nI_add, pk_mul, nI_sub, nI_clamp, vinT, Nat.le_refl, Nat.reduceLeDiff, Nat.reduceLT, Nat.reduceEqDiff, Nat.reduceAdd, Nat.reduceMul, Nat.reduceSub, forall_eq, true_and, and_true, not_true_eq_false, not_false_eq_true, false_implies, true_implies, implies_true, if_true, if_false, ite_self, nI_eqI, nI_leI2, nI_ltI2, ng_lt, ng_le, ng_gt, ng_ge, ng_eq, ng_qe, gU_ne, gU_eq, gU_off, wM_copy, eH_isNoRow, eM_isRow, hr8, hr7, hs8, hs7, Nat.not_lt_zero, Nat.zero_le, q1, q4, q5, p1, p4, p5, eM_isNull, wH_found, wM_finds, eR_reaches, q6, q7, p6, p7, e, Bool.false_eq_true]
    exact pInv_st _ h
  rcases i_nat x5 with h5 | ⟨c, hc, rfl⟩
  · have e : pRch (nI i) x5 (nI n) = false := by simp [pRch, h5]
    rcases i_nat x4 with h4 | ⟨j, hj, rfl⟩
    · simp (disch := first | assumption | omega | decide) only [li0, li1, li2, li3, li4, li5, li6, li7, li8, li9, li10, li11, li12, li13, li14, li16, li17, li20, li21, li22, li23, li24, li30, li32, li40, li48, li57, li59, li63, li86, li97, li99, li100, li102, li115, li122, li200, li255, li289, li320, li400, li720, li999, li1000, nI_add, pk_mul, nI_sub, nI_clamp, vinT, Nat.le_refl, Nat.reduceLeDiff, Nat.reduceLT, Nat.reduceEqDiff, Nat.reduceAdd, Nat.reduceMul, Nat.reduceSub, forall_eq, true_and, and_true, not_true_eq_false, not_false_eq_true, false_implies, true_implies, implies_true, if_true, if_false, ite_self, nI_eqI, nI_leI2, nI_ltI2, ng_lt, ng_le, ng_gt, ng_ge, ng_eq, ng_qe, gU_ne, gU_eq, gU_off, wM_copy, eH_isNoRow, eM_isRow, hr8, hr7, hs8, hs7, Nat.not_lt_zero, Nat.zero_le, q1, q4, q5, p1, p4, p5, eM_isNull, wH_found, wM_finds, eR_reaches, q6, q7, p6, p7, e, Bool.false_eq_true]
      exact pInv_st _ h
    · simp (disch := first | assumption | omega | decide) only [li0, li1, li2, li3, li4, li5, li6, li7, li8, li9, li10, li11, li12, li13, li14, li16, li17, li20, li21, li22, li23, li24, li30, li32, li40, li48, li57, li59, li63, li86, li97, li99, li100, li102, li115, li122, li200, li255, li289, li320, li400, li720, li999, li1000, nI_add, pk_mul, nI_sub, nI_clamp, vinT, Nat.le_refl, Nat.reduceLeDiff, Nat.reduceLT, Nat.reduceEqDiff, Nat.reduceAdd, Nat.reduceMul, Nat.reduceSub, forall_eq, true_and, and_true, not_true_eq_false, not_false_eq_true, false_implies, true_implies, implies_true, if_true, if_false, ite_self, nI_eqI, nI_leI2, nI_ltI2, ng_lt, ng_le, ng_gt, ng_ge, ng_eq, ng_qe, gU_ne, gU_eq, gU_off, wM_copy, eH_isNoRow, eM_isRow, hr8, hr7, hs8, hs7, Nat.not_lt_zero, Nat.zero_le, q1, q4, q5, p1, p4, p5, eM_isNull, wH_found, wM_finds, eR_reaches, q6, q7, p6, p7, e, Bool.false_eq_true]
      exact pInv_st _ h
  rcases i_nat x4 with h4 | ⟨j, hj, rfl⟩
  · have e : pRch x4 (nI c) (nI n2) = false := by simp [pRch, h4]
    by_cases hA : i + c ≤ n
    · have e2 : pRch (nI i) (nI c) (nI n) = true := by rw [pRch_iff q3 hi hc]; exact decide_eq_true hA
      simp (disch := first | assumption | omega | decide) only [li0, li1, li2, li3, li4, li5, li6, li7, li8, li9, li10, li11, li12, li13, li14, li16, li17, li20, li21, li22, li23, li24, li30, li32, li40, li48, li57, li59, li63, li86, li97, li99, li100, li102, li115, li122, li200, li255, li289, li320, li400, li720, li999, li1000, nI_add, pk_mul, nI_sub, nI_clamp, vinT, Nat.le_refl, Nat.reduceLeDiff, Nat.reduceLT, Nat.reduceEqDiff, Nat.reduceAdd, Nat.reduceMul, Nat.reduceSub, forall_eq, true_and, and_true, not_true_eq_false, not_false_eq_true, false_implies, true_implies, implies_true, if_true, if_false, ite_self, nI_eqI, nI_leI2, nI_ltI2, ng_lt, ng_le, ng_gt, ng_ge, ng_eq, ng_qe, gU_ne, gU_eq, gU_off, wM_copy, eH_isNoRow, eM_isRow, hr8, hr7, hs8, hs7, Nat.not_lt_zero, Nat.zero_le, q1, q4, q5, p1, p4, p5, eM_isNull, wH_found, wM_finds, eR_reaches, q6, q7, p6, p7, e, e2, Bool.false_eq_true]
      exact pInv_st _ h
    · have e2 : pRch (nI i) (nI c) (nI n) = false := by rw [pRch_iff q3 hi hc]; exact decide_eq_false hA
      simp (disch := first | assumption | omega | decide) only [li0, li1, li2, li3, li4, li5, li6, li7, li8, li9, li10, li11, li12, li13, li14, li16, li17, li20, li21, li22, li23, li24, li30, li32, li40, li48, li57, li59, li63, li86, li97, li99, li100, li102, li115, li122, li200, li255, li289, li320, li400, li720, li999, li1000, nI_add, pk_mul, nI_sub, nI_clamp, vinT, Nat.le_refl, Nat.reduceLeDiff, Nat.reduceLT, Nat.reduceEqDiff, Nat.reduceAdd, Nat.reduceMul, Nat.reduceSub, forall_eq, true_and, and_true, not_true_eq_false, not_false_eq_true, false_implies, true_implies, implies_true, if_true, if_false, ite_self, nI_eqI, nI_leI2, nI_ltI2, ng_lt, ng_le, ng_gt, ng_ge, ng_eq, ng_qe, gU_ne, gU_eq, gU_off, wM_copy, eH_isNoRow, eM_isRow, hr8, hr7, hs8, hs7, Nat.not_lt_zero, Nat.zero_le, q1, q4, q5, p1, p4, p5, eM_isNull, wH_found, wM_finds, eR_reaches, q6, q7, p6, p7, e, e2, Bool.false_eq_true]
      exact pInv_st _ h
  have eA := pRch_iff q3 hi hc
  have eB := pRch_iff p3 hj hc
  by_cases hA : i + c ≤ n
  rotate_left
  · have hA2 : n < i + c := by omega
    simp (disch := first | assumption | omega | decide) only [Nat.le_refl, Nat.reduceLeDiff, Nat.reduceLT, Nat.reduceEqDiff, Nat.reduceAdd, Nat.reduceMul, Nat.reduceSub, forall_eq, true_and, and_true, not_true_eq_false, not_false_eq_true, false_implies, true_implies, implies_true, if_true, if_false, ite_self, ng_lt, ng_le, ng_gt, ng_ge, ng_eq, ng_qe, gU_ne, gU_eq, gU_off, vinT, nI_clamp, nI_eqI, nI_leI2, nI_ltI2, lt_sub, le_sub, wM_copy, eH_isNoRow, eM_isRow, hr8, hr7, hs8, hs7, Nat.not_lt_zero, Nat.zero_le, q1, q4, q5, p1, p4, p5, eM_isNull, wH_found, wM_finds, eR_reaches, q6, q7, p6, p7, eA, hA, hA2, decide_false, Bool.false_eq_true]
    exact pInv_st _ h
  have hA2 : ¬ n < i + c := by omega
  by_cases hB : j + c ≤ n2
  rotate_left
  · simp (disch := first | assumption | omega | decide) only [Nat.le_refl, Nat.reduceLeDiff, Nat.reduceLT, Nat.reduceEqDiff, Nat.reduceAdd, Nat.reduceMul, Nat.reduceSub, forall_eq, true_and, and_true, not_true_eq_false, not_false_eq_true, false_implies, true_implies, implies_true, if_true, if_false, ite_self, ng_lt, ng_le, ng_gt, ng_ge, ng_eq, ng_qe, gU_ne, gU_eq, gU_off, vinT, nI_clamp, nI_eqI, nI_leI2, nI_ltI2, lt_sub, le_sub, wM_copy, eH_isNoRow, eM_isRow, hr8, hr7, hs8, hs7, Nat.not_lt_zero, Nat.zero_le, q1, q4, q5, p1, p4, p5, eM_isNull, wH_found, wM_finds, eR_reaches, q6, q7, p6, p7, eA, eB, hA, hA2, hB, decide_false, decide_true, Bool.false_eq_true]
    exact pInv_st _ h
  have goal : ∀ σ', σ' = gU (gU (gCp σ (2 + 2 * r + 1) i (2 + 2 * s + 1) j c) 0 11 (nI 0)) 82 3 (nI 0) → pInv k (gU (gFn (gU (gCp σ (2 + 2 * r + 1) i (2 + 2 * s + 1) j c) 0 11 (nI 0)) 85 (40 * s + j) c (fun t => (gU (gCp σ (2 + 2 * r + 1) i (2 + 2 * s + 1) j c) 0 11 (nI 0)) 85 (40 * r + i + t))) 82 3 (nI 0)) := by
    intro σ' _
    refine pInv_rows h ?_ ?_ ?_ ?_ ?_
    · intro a b1 b2 b3 b4 b5 b6
      simp (disch := first | assumption | omega | decide) only [gU_ne, gFn_ne, gCp_ne]
    · intro j hj
      simp (disch := first | assumption | omega | decide) only [gU_ne, gU_off, gFn_ne, gCp_ne]
    · intro j hj
      simp (disch := first | assumption | omega | decide) only [gU_ne, gU_off, gFn_ne, gCp_ne]
    · simp (disch := first | assumption | omega | decide) only [gU_ne, gU_eq, gFn_ne]
    · intro r' hr'
      by_cases e : r' = s
      · subst e
        right
        refine ⟨?_, l, n2, p2, p3, ?_, ?_, ?_, ?_, fun t ht => ?_⟩
        · simp (disch := first | assumption | omega | decide) only [gU_ne, gFn_ne, gCp_ne]; exact p1
        · simp (disch := first | assumption | omega | decide) only [gU_ne, gFn_ne, gCp_ne]; exact p4
        · simp (disch := first | assumption | omega | decide) only [gU_ne, gFn_ne, gCp_ne]; exact p5
        · simp (disch := first | assumption | omega | decide) only [gU_ne, gFn_ne, gCp_ne]; exact p6
        · simp (disch := first | assumption | omega | decide) only [gU_ne, gFn_ne, gCp_ne]; exact p7
        · by_cases ht2 : j ≤ t ∧ t < j + c
          · simp (disch := first | assumption | omega | decide) only [gU_ne, gFn_ne]
            rw [gCp_in ht2.1 ht2.2, gFn_in (by omega) (by omega)]
            simp (disch := first | assumption | omega | decide) only [gU_ne, gCp_ne]
            rw [q8 _ (by omega)]
            congr 1
            omega
          · have o1 : t < j ∨ j + c ≤ t := by omega
            have o2 : 40 * r' + t < 40 * r' + j ∨ 40 * r' + j + c ≤ 40 * r' + t := by omega
            simp (disch := first | assumption | omega | decide) only [gU_ne, gFn_ne, gFn_out, gCp_out, gCp_ne]
            exact p8 t ht
      · rcases h.1 r' hr' with q | ⟨z1, l2, m2, z2, z3, z4, z5, z6, z7, z8⟩
        · left
          simp (disch := first | assumption | omega | decide) only [gU_ne, gFn_ne, gCp_ne]
          exact q
        · right
          refine ⟨?_, l2, m2, z2, z3, ?_, ?_, ?_, ?_, fun t ht => ?_⟩
          · simp (disch := first | assumption | omega | decide) only [gU_ne, gFn_ne, gCp_ne]; exact z1
          · simp (disch := first | assumption | omega | decide) only [gU_ne, gFn_ne, gCp_ne]; exact z4
          · simp (disch := first | assumption | omega | decide) only [gU_ne, gFn_ne, gCp_ne]; exact z5
          · simp (disch := first | assumption | omega | decide) only [gU_ne, gFn_ne, gCp_ne]; exact z6
          · simp (disch := first | assumption | omega | decide) only [gU_ne, gFn_ne, gCp_ne]; exact z7
          · have o2 : 40 * r' + t < 40 * s + j ∨ 40 * s + j + c ≤ 40 * r' + t := by omega
            simp (disch := first | assumption | omega | decide) only [gU_ne, gFn_ne, gFn_out, gCp_ne]
            exact z8 t ht
  have b1 : i + c ≤ 40 := by omega
  have b2 : j + c ≤ 40 := by omega
  have b3 := fun q : c ≤ 0 => q
  simp (disch := first | assumption | omega | decide) only [Nat.le_refl, Nat.reduceLeDiff, Nat.reduceLT, Nat.reduceEqDiff, Nat.reduceAdd, Nat.reduceMul, Nat.reduceSub, forall_eq, true_and, and_true, not_true_eq_false, not_false_eq_true, false_implies, true_implies, implies_true, if_true, if_false, ite_self, ng_lt, ng_le, ng_gt, ng_ge, ng_eq, ng_qe, gU_ne, gU_eq, gU_off, vinT, nI_clamp, nI_eqI, nI_leI2, nI_ltI2, lt_sub, le_sub, nI_add, pk_mul, wM_copy, eH_isNoRow, eM_isRow, hr8, hr7, hs8, hs7, Nat.not_lt_zero, Nat.zero_le, q1, q4, q5, p1, p4, p5, eM_isNull, wH_unfound, eR_reaches, q6, q7, p6, p7, eA, eB, hA, hA2, hB, b1, b2, decide_true, gCp_ne]
  by_cases hd : 40 * s + j ≤ 40 * r + i
  · simp (disch := first | assumption | omega | decide) only [hd, Nat.le_refl, Nat.reduceLeDiff, Nat.reduceLT, Nat.reduceEqDiff, Nat.reduceAdd, Nat.reduceMul, Nat.reduceSub, forall_eq, true_and, and_true, not_true_eq_false, not_false_eq_true, false_implies, true_implies, implies_true, if_true, if_false, ite_self]
    exact ⟨c + 1, s_M_copyF hr8 hs8 b1 b2 hd c 0 _ _ (by omega) (gFn_0 _ _ _ _).symm ⟨rfl, goal _ rfl⟩⟩
  · simp (disch := first | assumption | omega | decide) only [hd, Nat.le_refl, Nat.reduceLeDiff, Nat.reduceLT, Nat.reduceEqDiff, Nat.reduceAdd, Nat.reduceMul, Nat.reduceSub, forall_eq, true_and, and_true, not_true_eq_false, not_false_eq_true, false_implies, true_implies, implies_true, if_true, if_false, ite_self]
    refine ⟨c + 1, s_M_copyB hr8 hs8 b1 b2 (by omega) c _ _ (by omega) ?_ ⟨rfl, goal _ rfl⟩⟩
    rw [Nat.sub_self, gFn_0]
