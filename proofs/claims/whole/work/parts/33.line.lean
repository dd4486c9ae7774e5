/-! LINE -/
def pLn (V : Nat → Nat → Int32) (it : Nat → Nat) (hp : Nat → Nat) (who : Int32) : Nat → Nat → Nat → Int32 → Nat → Int32
  | 0, l, rr, g, _ => if nI 0 ≤ who then g else nI rr - nI 1 - nI l + nI 1
  | m + 1, l, rr, g, t => if l < rr then (if V (it t) (hp (rr - 1)) ≤ V (it t) (hp l) then pLn V it hp who m (l + 1) rr (if nI (it t) = who then g + (if V (it t) (hp l) < V (it t) (hp (rr - 1)) then V (it t) (hp (rr - 1)) else V (it t) (hp l)) else g) (t + 1) else pLn V it hp who m l (rr - 1) (if nI (it t) = who then g + (if V (it t) (hp l) < V (it t) (hp (rr - 1)) then V (it t) (hp (rr - 1)) else V (it t) (hp l)) else g) (t + 1)) else (if nI 0 ≤ who then g else nI rr - nI 1 - nI l + nI 1)
theorem pB_1 {x : Int32} {n : Nat} (hn : n < 2147483648) (h : pB x n = nI 1) : x.toNatClampNeg < n ∧ x = nI x.toNatClampNeg := by
  rcases i_in x n hn with ⟨j, hj, rfl⟩ | ⟨e, -⟩
  · rw [nI_clamp (by omega)]
    exact ⟨hj, rfl⟩
  · rw [e] at h; exact absurd h (by decide)
section Line
variable {k r i n nb nw nl : Nat} {N : Nat → Int32} {it : Nat → Nat} {hp : Nat → Nat} {σ : gM} {Q : Int32 → gM → Prop} {who : Int32}
theorem s_L_H (hM : pMk σ 42 N nb nw nl) (hW : pWF k N nb nw nl hp) (hin : i + n ≤ 40) (hb : ∀ t, t < n → it t < nb) (hit : ∀ t, t < n → σ (2 + 2 * r + 1) (i + t) = nI (it t)) : ∀ (m t l rr : Nat) (g : Int32), t + m = n → l ≤ rr → rr ≤ nl → Q (pLn (fun b w => pVT N b w (nI 0)) it hp who m l rr g t) σ → wS_behindLine_row_l17 r Q (m + 1) (nI i) (nI n) who (nI l) (nI rr - nI 1) g (nI (i + t)) σ := by
  have hn : nw ≤ 16 := hW.2.2.2.2.1
  have hl : nl ≤ nw := hW.2.2.2.2.2.1
  have hnb : nb ≤ 4 := hW.2.2.2.1
  have eh : ∀ j, j < nl → σ 51 j = nI (hp j) := fun j hj => (hM.2.2.2.2.2.2.2 j hj).trans (hW.2.2.2.2.2.2.2.2.1 j hj).2.1
  have hpl : ∀ j, j < nl → hp j < nw := fun j hj => (hW.2.2.2.2.2.2.2.2.1 j hj).1
  intro m
  induction m with
  | zero =>
    intro t l rr g ht _ _ h
    have : t = n := by omega
    subst this
    rw [wS_behindLine_row_l17]
    simp (disch := first | assumption | omega | decide) only [nI_leI2, nI_add, Nat.le_refl, Nat.reduceLeDiff, Nat.reduceLT, Nat.reduceEqDiff, Nat.reduceAdd, Nat.reduceMul, Nat.reduceSub, forall_eq, true_and, and_true, not_true_eq_false, not_false_eq_true, false_implies, true_implies, implies_true, if_true, if_false, ite_self]
    exact h
  | succ m ih =>
    intro t l rr g ht hlr hrn h
    have h1 : ¬ i + n ≤ i + t := by omega
    rw [wS_behindLine_row_l17]
    rw [pLn] at h
    by_cases hlt : l < rr
    · rw [if_pos hlt] at h
      have h2 : ¬ rr - 1 < l := by omega
      have w1 := hpl l (by omega)
      have w2 := hpl (rr - 1) (by omega)
      have b1 := hb t (by omega)
      simp (disch := first | assumption | omega | decide) only [li0, li1, li2, li3, li4, li5, li6, li7, li8, li9, li10, li11, li12, li13, li14, li16, li17, li20, li21, li22, li23, li24, li30, li32, li40, li48, li57, li59, li63, li86, li97, li99, li100, li102, li115, li122, li200, li255, li289, li320, li400, li720, li999, li1000, nI_add, pk_mul, nI_sub, nI_clamp, vinT, Nat.le_refl, Nat.reduceLeDiff, Nat.reduceLT, Nat.reduceEqDiff, Nat.reduceAdd, Nat.reduceMul, Nat.reduceSub, forall_eq, true_and, and_true, not_true_eq_false, not_false_eq_true, false_implies, true_implies, implies_true, if_true, if_false, ite_self, nI_eqI, nI_leI2, nI_ltI2, h1, h2, hit, eh, eK_valueTo hM hW b1 w1, eK_valueTo hM hW b1 w2, add_m1, add_m1n]
      by_cases hw : nI (it t) = who
      · simp only [hw, Nat.le_refl, Nat.reduceLeDiff, Nat.reduceLT, Nat.reduceEqDiff, Nat.reduceAdd, Nat.reduceMul, Nat.reduceSub, forall_eq, true_and, and_true, not_true_eq_false, not_false_eq_true, false_implies, true_implies, implies_true, if_true, if_false, ite_self] at h ⊢
        refine ⟨fun q => ?_, fun q => ?_⟩
        · rw [if_pos q] at h
          have := ih (t + 1) (l + 1) rr _ (by omega) (by omega) hrn h
          rw [nI_sub (by omega)] at this
          exact this
        · rw [if_neg q] at h
          exact ih (t + 1) l (rr - 1) _ (by omega) (by omega) (by omega) h
      · simp only [hw, Nat.le_refl, Nat.reduceLeDiff, Nat.reduceLT, Nat.reduceEqDiff, Nat.reduceAdd, Nat.reduceMul, Nat.reduceSub, forall_eq, true_and, and_true, not_true_eq_false, not_false_eq_true, false_implies, true_implies, implies_true, if_true, if_false, ite_self] at h ⊢
        refine ⟨fun q => ?_, fun q => ?_⟩
        · rw [if_pos q] at h
          have := ih (t + 1) (l + 1) rr _ (by omega) (by omega) hrn h
          rw [nI_sub (by omega)] at this
          exact this
        · rw [if_neg q] at h
          exact ih (t + 1) l (rr - 1) _ (by omega) (by omega) (by omega) h
    · rw [if_neg hlt] at h
      have h2 : rr < 1 + l := by omega
      simp (disch := first | assumption | omega | decide) only [lt_sub, h2, nI_leI2, nI_add, h1, Nat.le_refl, Nat.reduceLeDiff, Nat.reduceLT, Nat.reduceEqDiff, Nat.reduceAdd, Nat.reduceMul, Nat.reduceSub, forall_eq, true_and, and_true, not_true_eq_false, not_false_eq_true, false_implies, true_implies, implies_true, if_true, if_false, ite_self]
      exact h
theorem s_L_M (hW : pWF k (σ 89) nb nw nl hp) (hr : r < 8) (hin : i + n ≤ 40) (hb : ∀ t, t < n → it t < nb) (hit : ∀ t, t < n → σ 85 (40 * r + i + t) = nI (it t)) (hwho : (if nI 0 ≤ who then True else False) = ¬ who = -nI 1) : ∀ (m t l rr : Nat) (g : Int32), t + m = n → l ≤ rr → rr ≤ nl → Q (pLn (fun b w => pVT (σ 89) b w (nI 0)) it hp who m l rr g t) (gU σ 82 3 (nI 0)) → wM_line_l126 Q (m + 1) (nI r) (nI i) (nI n) who (nI l) (nI rr - nI 1) g (nI t) σ := by
  have hn : nw ≤ 16 := hW.2.2.2.2.1
  have hl : nl ≤ nw := hW.2.2.2.2.2.1
  have hnb : nb ≤ 4 := hW.2.2.2.1
  have eh : ∀ j, j < nl → σ 89 (86 + j) = nI (hp j) := fun j hj => (hW.2.2.2.2.2.2.2.2.1 j hj).2.1
  have hpl : ∀ j, j < nl → hp j < nw := fun j hj => (hW.2.2.2.2.2.2.2.2.1 j hj).1
  have hfin : ∀ A B : Int32, (if who = -nI 1 then A else B) = (if nI 0 ≤ who then B else A) := fun A B => by
    by_cases q : who = -nI 1
    · rw [if_pos q]
      by_cases q2 : nI 0 ≤ who
      · rw [if_pos q2] at hwho
        exact absurd q (hwho ▸ trivial)
      · rw [if_neg q2]
    · rw [if_neg q]
      by_cases q2 : nI 0 ≤ who
      · rw [if_pos q2]
      · rw [if_neg q2] at hwho
        exact absurd q (hwho ▸ id)
  have li1' : (-1 : Int32) = -nI 1 := rfl
  intro m
  induction m with
  | zero =>
    intro t l rr g ht _ _ h
    have : t = n := by omega
    subst this
    rw [wM_line_l126]
    simp (disch := first | assumption | omega | decide) only [nI_leI2, Nat.le_refl, Nat.reduceLeDiff, Nat.reduceLT, Nat.reduceEqDiff, Nat.reduceAdd, Nat.reduceMul, Nat.reduceSub, forall_eq, true_and, and_true, not_true_eq_false, not_false_eq_true, false_implies, true_implies, implies_true, if_true, if_false, ite_self, wM_did, li1', hfin]
    exact h
  | succ m ih =>
    intro t l rr g ht hlr hrn h
    have h1 : ¬ n ≤ t := by omega
    rw [wM_line_l126]
    rw [pLn] at h
    by_cases hlt : l < rr
    · rw [if_pos hlt] at h
      have h2 : ¬ rr - 1 < l := by omega
      have w1 := hpl l (by omega)
      have w2 := hpl (rr - 1) (by omega)
      have b1 := hb t (by omega)
      simp (disch := first | assumption | omega | decide) only [li0, li1, li2, li3, li4, li5, li6, li7, li8, li9, li10, li11, li12, li13, li14, li16, li17, li20, li21, li22, li23, li24, li30, li32, li40, li48, li57, li59, li63, li86, li97, li99, li100, li102, li115, li122, li200, li255, li289, li320, li400, li720, li999, li1000, nI_add, pk_mul, nI_sub, nI_clamp, vinT, Nat.le_refl, Nat.reduceLeDiff, Nat.reduceLT, Nat.reduceEqDiff, Nat.reduceAdd, Nat.reduceMul, Nat.reduceSub, forall_eq, true_and, and_true, not_true_eq_false, not_false_eq_true, false_implies, true_implies, implies_true, if_true, if_false, ite_self, nI_eqI, nI_leI2, nI_ltI2, h1, h2, hit, eM_heap, eh, eM_worthOf]
      by_cases hw : nI (it t) = who
      · simp only [hw, Nat.le_refl, Nat.reduceLeDiff, Nat.reduceLT, Nat.reduceEqDiff, Nat.reduceAdd, Nat.reduceMul, Nat.reduceSub, forall_eq, true_and, and_true, not_true_eq_false, not_false_eq_true, false_implies, true_implies, implies_true, if_true, if_false, ite_self] at h ⊢
        by_cases q : pVT (σ 89) (it t) (hp (rr - 1)) (nI 0) ≤ pVT (σ 89) (it t) (hp l) (nI 0)
        · rw [if_pos q] at h
          have q2 := nlt_of_le q
          simp (disch := first | assumption | omega | decide) only [q2, li0, li1, li2, li3, li4, li5, li6, li7, li8, li9, li10, li11, li12, li13, li14, li16, li17, li20, li21, li22, li23, li24, li30, li32, li40, li48, li57, li59, li63, li86, li97, li99, li100, li102, li115, li122, li200, li255, li289, li320, li400, li720, li999, li1000, nI_add, pk_mul, nI_sub, nI_clamp, vinT, Nat.le_refl, Nat.reduceLeDiff, Nat.reduceLT, Nat.reduceEqDiff, Nat.reduceAdd, Nat.reduceMul, Nat.reduceSub, forall_eq, true_and, and_true, not_true_eq_false, not_false_eq_true, false_implies, true_implies, implies_true, if_true, if_false, ite_self, nI_eqI, nI_leI2, nI_ltI2, Nat.sub_zero] at h ⊢
          have := ih (t + 1) (l + 1) rr _ (by omega) (by omega) hrn h
          rw [nI_sub (by omega)] at this
          exact this
        · rw [if_neg q] at h
          have q2 := i_nle.mp q
          simp (disch := first | assumption | omega | decide) only [q2, li0, li1, li2, li3, li4, li5, li6, li7, li8, li9, li10, li11, li12, li13, li14, li16, li17, li20, li21, li22, li23, li24, li30, li32, li40, li48, li57, li59, li63, li86, li97, li99, li100, li102, li115, li122, li200, li255, li289, li320, li400, li720, li999, li1000, nI_add, pk_mul, nI_sub, nI_clamp, vinT, Nat.le_refl, Nat.reduceLeDiff, Nat.reduceLT, Nat.reduceEqDiff, Nat.reduceAdd, Nat.reduceMul, Nat.reduceSub, forall_eq, true_and, and_true, not_true_eq_false, not_false_eq_true, false_implies, true_implies, implies_true, if_true, if_false, ite_self, nI_eqI, nI_leI2, nI_ltI2, Nat.add_zero] at h ⊢
          exact ih (t + 1) l (rr - 1) _ (by omega) (by omega) (by omega) h
      · simp only [hw, Nat.le_refl, Nat.reduceLeDiff, Nat.reduceLT, Nat.reduceEqDiff, Nat.reduceAdd, Nat.reduceMul, Nat.reduceSub, forall_eq, true_and, and_true, not_true_eq_false, not_false_eq_true, false_implies, true_implies, implies_true, if_true, if_false, ite_self] at h ⊢
        have g0 : g + nI 0 = g := Int32.add_zero g
        rw [g0]
        by_cases q : pVT (σ 89) (it t) (hp (rr - 1)) (nI 0) ≤ pVT (σ 89) (it t) (hp l) (nI 0)
        · rw [if_pos q] at h
          have q2 := nlt_of_le q
          simp (disch := first | assumption | omega | decide) only [q2, li0, li1, li2, li3, li4, li5, li6, li7, li8, li9, li10, li11, li12, li13, li14, li16, li17, li20, li21, li22, li23, li24, li30, li32, li40, li48, li57, li59, li63, li86, li97, li99, li100, li102, li115, li122, li200, li255, li289, li320, li400, li720, li999, li1000, nI_add, pk_mul, nI_sub, nI_clamp, vinT, Nat.le_refl, Nat.reduceLeDiff, Nat.reduceLT, Nat.reduceEqDiff, Nat.reduceAdd, Nat.reduceMul, Nat.reduceSub, forall_eq, true_and, and_true, not_true_eq_false, not_false_eq_true, false_implies, true_implies, implies_true, if_true, if_false, ite_self, nI_eqI, nI_leI2, nI_ltI2, Nat.sub_zero] at h ⊢
          have := ih (t + 1) (l + 1) rr _ (by omega) (by omega) hrn h
          rw [nI_sub (by omega)] at this
          exact this
        · rw [if_neg q] at h
          have q2 := i_nle.mp q
          simp (disch := first | assumption | omega | decide) only [q2, li0, li1, li2, li3, li4, li5, li6, li7, li8, li9, li10, li11, li12, li13, li14, li16, li17, li20, li21, li22, li23, li24, li30, li32, li40, li48, li57, li59, li63, li86, li97, li99, li100, li102, li115, li122, li200, li255, li289, li320, li400, li720, li999, li1000, nI_add, pk_mul, nI_sub, nI_clamp, vinT, Nat.le_refl, Nat.reduceLeDiff, Nat.reduceLT, Nat.reduceEqDiff, Nat.reduceAdd, Nat.reduceMul, Nat.reduceSub, forall_eq, true_and, and_true, not_true_eq_false, not_false_eq_true, false_implies, true_implies, implies_true, if_true, if_false, ite_self, nI_eqI, nI_leI2, nI_ltI2, Nat.add_zero] at h ⊢
          exact ih (t + 1) l (rr - 1) _ (by omega) (by omega) (by omega) h
    · rw [if_neg hlt] at h
      have h2 : rr < 1 + l := by omega
      simp (disch := first | assumption | omega | decide) only [lt_sub, h2, nI_leI2, h1, Nat.le_refl, Nat.reduceLeDiff, Nat.reduceLT, Nat.reduceEqDiff, Nat.reduceAdd, Nat.reduceMul, Nat.reduceSub, forall_eq, true_and, and_true, not_true_eq_false, not_false_eq_true, false_implies, true_implies, implies_true, if_true, if_false, ite_self, wM_did, li1', hfin]
      exact h
end Line
theorem m1_lt (n : Nat) (hn : n < 2147483648) : (-nI 1 : Int32) < nI n := by
  rw [i_lt, nI_I hn]
  show (-1 : Int) < _
  omega
/-- who: nobody, a buyer, or not so -/
theorem e_who (x : Int32) {nb : Nat} (hn : nb ≤ 4) : (¬ x < -nI 1 ∧ x < nI nb ∧ ((if nI 0 ≤ x then True else False) = ¬ x = -nI 1) ∧ (x = -nI 1 ∨ pB x nb = nI 1)) ∨ ((x < -nI 1 ∨ ¬ x < nI nb) ∧ ¬ x = -nI 1 ∧ pB x nb = nI 0) := by
  rcases i_nat x with hx | ⟨j, hj, rfl⟩
  · by_cases e : x = -nI 1
    · subst e
      exact Or.inl ⟨by decide, m1_lt nb (by omega), by rw [if_neg (by decide)]; simp, Or.inl rfl⟩
    · refine Or.inr ⟨Or.inl ?_, e, pB_ng hx⟩
      rw [i_lt]
      show x.toInt < -1
      rw [i_lt] at hx
      have hx : x.toInt < 0 := hx
      have : x.toInt ≠ -1 := fun q => e (i_eq.mpr q)
      omega
  · have h1 : ¬ nI j < -nI 1 := fun q => by
      rw [i_lt, nI_I hj] at q
      have q : (j : Int) < -1 := q
      omega
    have h2 : ¬ nI j = -nI 1 := fun q => by
      rw [i_eq, nI_I hj] at q
      have q : (j : Int) = -1 := q
      omega
    by_cases hjn : j < nb
    · refine Or.inl ⟨h1, by rw [nI_ltI2 hj (by omega)]; exact hjn, ?_, Or.inr (pB_in hjn (by omega))⟩
      rw [if_pos (by rw [nI_leI2 (by omega) hj]; omega)]
      simp [h2]
    · exact Or.inr ⟨Or.inr (by rw [nI_ltI2 hj (by omega)]; exact hjn), h2, pB_out (by omega) hj⟩
theorem op_line {k : Nat} {x1 x2 x3 x4 : Int32} {σ : gM} (h : pInv k σ) : pBoth (wH_line x1 x2 x3 x4) (wM_line x1 x2 x3 x4) σ (pInv k) := by
  obtain ⟨nb, nw, nl, hp, hM, hW⟩ := h.2.2.2.2.2.2.1
  have hn : nw ≤ 16 := hW.2.2.2.2.1
  have hl : nl ≤ nw := hW.2.2.2.2.2.1
  have hnb : nb ≤ 4 := hW.2.2.2.1
  obtain ⟨es, h01⟩ := e_stands h
  have n01 : ¬ nI 1 = nI 0 := by decide
  unfold pBoth wH_line
  rcases h01 with z | z
  · simp only [es, z, Nat.le_refl, Nat.reduceLeDiff, Nat.reduceLT, Nat.reduceEqDiff, Nat.reduceAdd, Nat.reduceMul, Nat.reduceSub, forall_eq, true_and, and_true, not_true_eq_false, not_false_eq_true, false_implies, true_implies, implies_true, if_true, if_false, ite_self, wM_line]
    exact h
  simp only [es, z, n01, Nat.le_refl, Nat.reduceLeDiff, Nat.reduceLT, Nat.reduceEqDiff, Nat.reduceAdd, Nat.reduceMul, Nat.reduceSub, forall_eq, true_and, and_true, not_true_eq_false, not_false_eq_true, false_implies, true_implies, implies_true, if_true, if_false, ite_self]
  rcases i_nat x1 with h1 | ⟨r, hr, rfl⟩
  · simp (disch := first | assumption | omega | decide) only [li0, li1, li2, li3, li4, li5, li6, li7, li8, li9, li10, li11, li12, li13, li14, li16, li17, li20, li21, li22, li23, li24, li30, li32, li40, li48, li57, li59, li63, li86, li97, li99, li100, li102, li115, li122, li200, li255, li289, li320, li400, li720, li999, li1000, nI_add, pk_mul, nI_sub, nI_clamp, vinT, Nat.le_refl, Nat.reduceLeDiff, Nat.reduceLT, Nat.reduceEqDiff, Nat.reduceAdd, Nat.reduceMul, Nat.reduceSub, forall_eq, true_and, and_true, not_true_eq_false, not_false_eq_true, false_implies, true_implies, implies_true, if_true, if_false, ite_self, nI_eqI, nI_leI2, nI_ltI2, ng_lt, ng_le, ng_gt, ng_ge, ng_eq, ng_qe, eH_isNoRow, z, wM_line, eM_isRow]
    exact h
  by_cases hr8 : r < 8
  · have hr7 : ¬ 7 < r := by omega
    rcases i_nat x3 with h3 | ⟨n, hn3, rfl⟩
    · simp (disch := first | assumption | omega | decide) only [li0, li1, li2, li3, li4, li5, li6, li7, li8, li9, li10, li11, li12, li13, li14, li16, li17, li20, li21, li22, li23, li24, li30, li32, li40, li48, li57, li59, li63, li86, li97, li99, li100, li102, li115, li122, li200, li255, li289, li320, li400, li720, li999, li1000, nI_add, pk_mul, nI_sub, nI_clamp, vinT, Nat.le_refl, Nat.reduceLeDiff, Nat.reduceLT, Nat.reduceEqDiff, Nat.reduceAdd, Nat.reduceMul, Nat.reduceSub, forall_eq, true_and, and_true, not_true_eq_false, not_false_eq_true, false_implies, true_implies, implies_true, if_true, if_false, ite_self, nI_eqI, nI_leI2, nI_ltI2, ng_lt, ng_le, ng_gt, ng_ge, ng_eq, ng_qe, eH_isNoRow, z, wM_line, eM_isRow, hr8, hr7, Nat.not_lt_zero, eM_in]
      exact h
    by_cases hn40 : 1 ≤ n ∧ n ≤ 40
    · have a1 : ¬ n < 1 := by omega
      have a2 : ¬ 40 < n := by omega
      rcases e_who x4 hnb with ⟨w1, w2, w3, w4⟩ | ⟨w1, w2, w3⟩
      · obtain ⟨c, c1, c2, c3, c4⟩ := e_find h.1 hr8 x2 hn3
        have c3s := fun v Q => c3 (gU σ 0 11 v) Q (gU_ne (by decide)) (gU_ne (by decide))
        have c3t := fun Q => c3 σ Q rfl rfl
        have hbr : ∀ (τ : gM) (Q : Int32 → gM → Prop), τ 89 2 = nI nb → ((x4 = -nI 1 → wM_line_b47 Q (nI r) x2 (nI n) x4 τ) ∧ (¬ x4 = -nI 1 → wM_isBuyerAt x4 τ (fun r57 σ57 => (r57 = nI 0 → Q (-1000001) σ57) ∧ (¬ r57 = nI 0 → wM_line_b47 Q (nI r) x2 (nI n) x4 σ57)))) = wM_line_b47 Q (nI r) x2 (nI n) x4 τ := fun τ Q ht => by
          rcases w4 with e | e
          · simp only [e, Nat.le_refl, Nat.reduceLeDiff, Nat.reduceLT, Nat.reduceEqDiff, Nat.reduceAdd, Nat.reduceMul, Nat.reduceSub, forall_eq, true_and, and_true, not_true_eq_false, not_false_eq_true, false_implies, true_implies, implies_true, if_true, if_false, ite_self]
          · by_cases e2 : x4 = -nI 1
            · simp only [e2, Nat.le_refl, Nat.reduceLeDiff, Nat.reduceLT, Nat.reduceEqDiff, Nat.reduceAdd, Nat.reduceMul, Nat.reduceSub, forall_eq, true_and, and_true, not_true_eq_false, not_false_eq_true, false_implies, true_implies, implies_true, if_true, if_false, ite_self]
            · simp only [e2, Nat.le_refl, Nat.reduceLeDiff, Nat.reduceLT, Nat.reduceEqDiff, Nat.reduceAdd, Nat.reduceMul, Nat.reduceSub, forall_eq, true_and, and_true, not_true_eq_false, not_false_eq_true, false_implies, true_implies, implies_true, if_true, if_false, ite_self, eM_isBuyerAt ht hnb, e, n01]
        have m1 : (-1 : Int32) = -nI 1 := rfl
        simp (disch := first | assumption | omega | decide) only [li0, li1, li2, li3, li4, li5, li6, li7, li8, li9, li10, li11, li12, li13, li14, li16, li17, li20, li21, li22, li23, li24, li30, li32, li40, li48, li57, li59, li63, li86, li97, li99, li100, li102, li115, li122, li200, li255, li289, li320, li400, li720, li999, li1000, nI_add, pk_mul, nI_sub, nI_clamp, vinT, Nat.le_refl, Nat.reduceLeDiff, Nat.reduceLT, Nat.reduceEqDiff, Nat.reduceAdd, Nat.reduceMul, Nat.reduceSub, forall_eq, true_and, and_true, not_true_eq_false, not_false_eq_true, false_implies, true_implies, implies_true, if_true, if_false, ite_self, nI_eqI, nI_leI2, nI_ltI2, eH_isNoRow, hr8, Nat.not_lt_zero, a1, a2, w1, hM.2.2.1, w2, c2]
        by_cases hc : c = 0
        · obtain ⟨i, rfl, hin, hit⟩ := c4 hc
          subst hc
          simp (disch := first | assumption | omega | decide) only [Nat.le_refl, Nat.reduceLeDiff, Nat.reduceLT, Nat.reduceEqDiff, Nat.reduceAdd, Nat.reduceMul, Nat.reduceSub, forall_eq, true_and, and_true, not_true_eq_false, not_false_eq_true, false_implies, true_implies, implies_true, if_true, if_false, ite_self]
          refine s_below (it := fun t => σ 85 (40 * r + i + t)) hin hit (fun hy => ?_) (fun hno => ?_)
          · simp (disch := first | assumption | omega | decide) only [Nat.le_refl, Nat.reduceLeDiff, Nat.reduceLT, Nat.reduceEqDiff, Nat.reduceAdd, Nat.reduceMul, Nat.reduceSub, forall_eq, true_and, and_true, not_true_eq_false, not_false_eq_true, false_implies, true_implies, implies_true, if_true, if_false, ite_self, n01, wS_behindLine_row, nI_clamp, hM.2.2.2.2.1, vinT]
            have hy1 := fun t ht => (pB_1 (by omega) (hy t ht)).1
            have hy2 := fun t ht => (pB_1 (by omega) (hy t ht)).2
            refine ⟨n + 1, ?_⟩
            have key := s_L_H (r := r) (i := i) (n := n) (who := x4) (Q := fun r18 σ18 => wH_unfound r18 σ18 (fun r20 σ20 => wM_line (nI r) (nI i) (nI n) x4 σ20 (fun r2 σ2 => r20 = r2 ∧ pInv k σ2))) (it := fun t => (σ 85 (40 * r + i + t)).toNatClampNeg) hM hW hin hy1 (fun t ht => by rw [hit t ht]; exact hy2 t ht) n 0 0 nl (nI 0) (by omega) (by omega) (Nat.le_refl _)
            refine key ?_
            simp (disch := first | assumption | omega | decide) only [li0, li1, li2, li3, li4, li5, li6, li7, li8, li9, li10, li11, li12, li13, li14, li16, li17, li20, li21, li22, li23, li24, li30, li32, li40, li48, li57, li59, li63, li86, li97, li99, li100, li102, li115, li122, li200, li255, li289, li320, li400, li720, li999, li1000, nI_add, pk_mul, nI_sub, nI_clamp, vinT, Nat.le_refl, Nat.reduceLeDiff, Nat.reduceLT, Nat.reduceEqDiff, Nat.reduceAdd, Nat.reduceMul, Nat.reduceSub, forall_eq, true_and, and_true, not_true_eq_false, not_false_eq_true, false_implies, true_implies, implies_true, if_true, if_false, ite_self, nI_eqI, nI_leI2, nI_ltI2, wH_unfound, wM_line, z, eM_isRow, hr7, Nat.not_lt_zero, eM_in, a1, a2, gU_ne, m1]
            rw [hbr _ _ (by rw [gU_ne (by decide)]; exact hW.1)]
            simp (disch := first | assumption | omega | decide) only [wM_line_b47, c3s, Nat.le_refl, Nat.reduceLeDiff, Nat.reduceLT, Nat.reduceEqDiff, Nat.reduceAdd, Nat.reduceMul, Nat.reduceSub, forall_eq, true_and, and_true, not_true_eq_false, not_false_eq_true, false_implies, true_implies, implies_true, if_true, if_false, ite_self]
            refine ⟨n + 1, s_linea_yes (c := nb) (it := fun t => σ 85 (40 * r + i + t)) hr8 hin (by rw [gU_ne (by decide)]; exact hW.1) hnb (fun t ht => by rw [gU_ne (by decide)]) ?_ n 0 (by omega) (fun s _ hs => hy s hs)⟩
            refine ⟨n + 1, ?_⟩
            have e89 : gU σ 0 11 (nI 0) 89 = σ 89 := gU_ne (by decide)
            have e85 : gU σ 0 11 (nI 0) 85 = σ 85 := gU_ne (by decide)
            rw [e89, hW.2.2.1]
            refine s_L_M (nb := nb) (it := fun t => (σ 85 (40 * r + i + t)).toNatClampNeg) (by rw [e89]; exact hW) hr8 hin hy1 (fun t ht => by rw [e85]; exact hy2 t ht) w3 n 0 0 nl (nI 0) (by omega) (by omega) (Nat.le_refl _) ⟨?_, ?_⟩
            · rw [e89]
            · exact pInv_st _ h
          · simp (disch := first | assumption | omega | decide) only [li0, li1, li2, li3, li4, li5, li6, li7, li8, li9, li10, li11, li12, li13, li14, li16, li17, li20, li21, li22, li23, li24, li30, li32, li40, li48, li57, li59, li63, li86, li97, li99, li100, li102, li115, li122, li200, li255, li289, li320, li400, li720, li999, li1000, nI_add, pk_mul, nI_sub, nI_clamp, vinT, Nat.le_refl, Nat.reduceLeDiff, Nat.reduceLT, Nat.reduceEqDiff, Nat.reduceAdd, Nat.reduceMul, Nat.reduceSub, forall_eq, true_and, and_true, not_true_eq_false, not_false_eq_true, false_implies, true_implies, implies_true, if_true, if_false, ite_self, nI_eqI, nI_leI2, nI_ltI2, z, wM_line, eM_isRow, hr7, Nat.not_lt_zero, eM_in, a1, a2]
            have hb2 := hbr σ (fun r2 σ2 => (-1000001 : Int32) = r2 ∧ pInv k σ2) hW.1
            simp only [true_and] at hb2
            rw [hb2]
            simp (disch := first | assumption | omega | decide) only [wM_line_b47, c3t, Nat.le_refl, Nat.reduceLeDiff, Nat.reduceLT, Nat.reduceEqDiff, Nat.reduceAdd, Nat.reduceMul, Nat.reduceSub, forall_eq, true_and, and_true, not_true_eq_false, not_false_eq_true, false_implies, true_implies, implies_true, if_true, if_false, ite_self]
            exact ⟨n + 1, s_linea_no (c := nb) (it := fun t => σ 85 (40 * r + i + t)) hr8 hin hW.1 hnb (fun t ht => rfl) ⟨rfl, h⟩ n 0 (by omega) (by obtain ⟨s, a, b⟩ := hno; exact ⟨s, by omega, a, b⟩)⟩
        · simp (disch := first | assumption | omega | decide) only [li0, li1, li2, li3, li4, li5, li6, li7, li8, li9, li10, li11, li12, li13, li14, li16, li17, li20, li21, li22, li23, li24, li30, li32, li40, li48, li57, li59, li63, li86, li97, li99, li100, li102, li115, li122, li200, li255, li289, li320, li400, li720, li999, li1000, nI_add, pk_mul, nI_sub, nI_clamp, vinT, Nat.le_refl, Nat.reduceLeDiff, Nat.reduceLT, Nat.reduceEqDiff, Nat.reduceAdd, Nat.reduceMul, Nat.reduceSub, forall_eq, true_and, and_true, not_true_eq_false, not_false_eq_true, false_implies, true_implies, implies_true, if_true, if_false, ite_self, nI_eqI, nI_leI2, nI_ltI2, hc, wH_found, z, wM_line, eM_isRow, hr7, Nat.not_lt_zero, eM_in, a1, a2, gU_ne]
          rw [hbr _ _ (by rw [gU_ne (by decide)]; exact hW.1)]
          simp (disch := first | assumption | omega | decide) only [wM_line_b47, c3s, li0, li1, li2, li3, li4, li5, li6, li7, li8, li9, li10, li11, li12, li13, li14, li16, li17, li20, li21, li22, li23, li24, li30, li32, li40, li48, li57, li59, li63, li86, li97, li99, li100, li102, li115, li122, li200, li255, li289, li320, li400, li720, li999, li1000, nI_add, pk_mul, nI_sub, nI_clamp, vinT, Nat.le_refl, Nat.reduceLeDiff, Nat.reduceLT, Nat.reduceEqDiff, Nat.reduceAdd, Nat.reduceMul, Nat.reduceSub, forall_eq, true_and, and_true, not_true_eq_false, not_false_eq_true, false_implies, true_implies, implies_true, if_true, if_false, ite_self, nI_eqI, nI_leI2, nI_ltI2, hc, wM_finds]
          exact pInv_st _ h
      · have hm : wM_line (nI r) x2 (nI n) x4 σ (fun r2 σ2 => (-1000001 : Int32) = r2 ∧ pInv k σ2) := by
          simp (disch := first | assumption | omega | decide) only [li0, li1, li2, li3, li4, li5, li6, li7, li8, li9, li10, li11, li12, li13, li14, li16, li17, li20, li21, li22, li23, li24, li30, li32, li40, li48, li57, li59, li63, li86, li97, li99, li100, li102, li115, li122, li200, li255, li289, li320, li400, li720, li999, li1000, nI_add, pk_mul, nI_sub, nI_clamp, vinT, Nat.le_refl, Nat.reduceLeDiff, Nat.reduceLT, Nat.reduceEqDiff, Nat.reduceAdd, Nat.reduceMul, Nat.reduceSub, forall_eq, true_and, and_true, not_true_eq_false, not_false_eq_true, false_implies, true_implies, implies_true, if_true, if_false, ite_self, nI_eqI, nI_leI2, nI_ltI2, z, wM_line, eM_isRow, hr7, Nat.not_lt_zero, eM_in, a1, a2, w2, eM_isBuyerAt hW.1 hnb, w3]
          exact h
        rcases w1 with w1 | w1
        · simp (disch := first | assumption | omega | decide) only [li0, li1, li2, li3, li4, li5, li6, li7, li8, li9, li10, li11, li12, li13, li14, li16, li17, li20, li21, li22, li23, li24, li30, li32, li40, li48, li57, li59, li63, li86, li97, li99, li100, li102, li115, li122, li200, li255, li289, li320, li400, li720, li999, li1000, nI_add, pk_mul, nI_sub, nI_clamp, vinT, Nat.le_refl, Nat.reduceLeDiff, Nat.reduceLT, Nat.reduceEqDiff, Nat.reduceAdd, Nat.reduceMul, Nat.reduceSub, forall_eq, true_and, and_true, not_true_eq_false, not_false_eq_true, false_implies, true_implies, implies_true, if_true, if_false, ite_self, nI_eqI, nI_leI2, nI_ltI2, eH_isNoRow, hr8, Nat.not_lt_zero, a1, a2, w1]
          exact hm
        · by_cases w0 : x4 < -nI 1
          · simp (disch := first | assumption | omega | decide) only [li0, li1, li2, li3, li4, li5, li6, li7, li8, li9, li10, li11, li12, li13, li14, li16, li17, li20, li21, li22, li23, li24, li30, li32, li40, li48, li57, li59, li63, li86, li97, li99, li100, li102, li115, li122, li200, li255, li289, li320, li400, li720, li999, li1000, nI_add, pk_mul, nI_sub, nI_clamp, vinT, Nat.le_refl, Nat.reduceLeDiff, Nat.reduceLT, Nat.reduceEqDiff, Nat.reduceAdd, Nat.reduceMul, Nat.reduceSub, forall_eq, true_and, and_true, not_true_eq_false, not_false_eq_true, false_implies, true_implies, implies_true, if_true, if_false, ite_self, nI_eqI, nI_leI2, nI_ltI2, eH_isNoRow, hr8, Nat.not_lt_zero, a1, a2, w0]
            exact hm
          · simp (disch := first | assumption | omega | decide) only [li0, li1, li2, li3, li4, li5, li6, li7, li8, li9, li10, li11, li12, li13, li14, li16, li17, li20, li21, li22, li23, li24, li30, li32, li40, li48, li57, li59, li63, li86, li97, li99, li100, li102, li115, li122, li200, li255, li289, li320, li400, li720, li999, li1000, nI_add, pk_mul, nI_sub, nI_clamp, vinT, Nat.le_refl, Nat.reduceLeDiff, Nat.reduceLT, Nat.reduceEqDiff, Nat.reduceAdd, Nat.reduceMul, Nat.reduceSub, forall_eq, true_and, and_true, not_true_eq_false, not_false_eq_true, false_implies, true_implies, implies_true, if_true, if_false, ite_self, nI_eqI, nI_leI2, nI_ltI2, eH_isNoRow, hr8, Nat.not_lt_zero, a1, a2, w0, hM.2.2.1, w1]
            exact hm
    · have a12 : n < 1 ∨ 40 < n := by omega
      rcases a12 with a1 | a2
      · simp (disch := first | assumption | omega | decide) only [li0, li1, li2, li3, li4, li5, li6, li7, li8, li9, li10, li11, li12, li13, li14, li16, li17, li20, li21, li22, li23, li24, li30, li32, li40, li48, li57, li59, li63, li86, li97, li99, li100, li102, li115, li122, li200, li255, li289, li320, li400, li720, li999, li1000, nI_add, pk_mul, nI_sub, nI_clamp, vinT, Nat.le_refl, Nat.reduceLeDiff, Nat.reduceLT, Nat.reduceEqDiff, Nat.reduceAdd, Nat.reduceMul, Nat.reduceSub, forall_eq, true_and, and_true, not_true_eq_false, not_false_eq_true, false_implies, true_implies, implies_true, if_true, if_false, ite_self, nI_eqI, nI_leI2, nI_ltI2, eH_isNoRow, z, wM_line, eM_isRow, hr8, hr7, Nat.not_lt_zero, eM_in, a1]
        exact h
      · have a1 : ¬ n < 1 := by omega
        simp (disch := first | assumption | omega | decide) only [li0, li1, li2, li3, li4, li5, li6, li7, li8, li9, li10, li11, li12, li13, li14, li16, li17, li20, li21, li22, li23, li24, li30, li32, li40, li48, li57, li59, li63, li86, li97, li99, li100, li102, li115, li122, li200, li255, li289, li320, li400, li720, li999, li1000, nI_add, pk_mul, nI_sub, nI_clamp, vinT, Nat.le_refl, Nat.reduceLeDiff, Nat.reduceLT, Nat.reduceEqDiff, Nat.reduceAdd, Nat.reduceMul, Nat.reduceSub, forall_eq, true_and, and_true, not_true_eq_false, not_false_eq_true, false_implies, true_implies, implies_true, if_true, if_false, ite_self, nI_eqI, nI_leI2, nI_ltI2, eH_isNoRow, z, wM_line, eM_isRow, hr8, hr7, Nat.not_lt_zero, eM_in, a1, a2]
        exact h
  · have hr7 : 7 < r := by omega
    simp (disch := first | assumption | omega | decide) only [li0, li1, li2, li3, li4, li5, li6, li7, li8, li9, li10, li11, li12, li13, li14, li16, li17, li20, li21, li22, li23, li24, li30, li32, li40, li48, li57, li59, li63, li86, li97, li99, li100, li102, li115, li122, li200, li255, li289, li320, li400, li720, li999, li1000, nI_add, pk_mul, nI_sub, nI_clamp, vinT, Nat.le_refl, Nat.reduceLeDiff, Nat.reduceLT, Nat.reduceEqDiff, Nat.reduceAdd, Nat.reduceMul, Nat.reduceSub, forall_eq, true_and, and_true, not_true_eq_false, not_false_eq_true, false_implies, true_implies, implies_true, if_true, if_false, ite_self, nI_eqI, nI_leI2, nI_ltI2, ng_lt, ng_le, ng_gt, ng_ge, ng_eq, ng_qe, eH_isNoRow, z, wM_line, eM_isRow, hr8, hr7, Nat.not_lt_zero]
    exact h
