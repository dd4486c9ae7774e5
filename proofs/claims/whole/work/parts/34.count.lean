/-! COUNT -/
def pCn (p : Nat → Bool) : Nat → Nat → Nat → Nat
  | 0, _, a => a
  | m + 1, t, a => if p t = true then pCn p m (t + 1) (a + 1) else pCn p m (t + 1) a
theorem s_there {σ : gM} {Q : Int32 → gM → Prop} (h : pRows σ) : ∀ (m t a : Nat), t + m = 8 → Q (nI (pCn (fun t => decide (nI 0 ≤ σ 83 t)) m t a)) σ → wH_rowsThere_l4 Q (m + 1) (nI a) (nI t) σ := by
  intro m
  induction m with
  | zero =>
    intro t a ht hQ
    have : t = 8 := by omega
    subst this
    rw [wH_rowsThere_l4]
    simp (disch := first | assumption | omega | decide) only [li0, li1, li2, li3, li4, li5, li6, li7, li8, li9, li10, li11, li12, li13, li14, li16, li17, li20, li21, li22, li23, li24, li30, li32, li40, li48, li57, li59, li63, li86, li97, li99, li100, li102, li115, li122, li200, li255, li289, li320, li400, li720, li999, li1000, nI_add, pk_mul, nI_sub, nI_clamp, vinT, Nat.le_refl, Nat.reduceLeDiff, Nat.reduceLT, Nat.reduceEqDiff, Nat.reduceAdd, Nat.reduceMul, Nat.reduceSub, forall_eq, true_and, and_true, not_true_eq_false, not_false_eq_true, false_implies, true_implies, implies_true, if_true, if_false, ite_self, nI_eqI, nI_leI2, nI_ltI2]
    exact hQ
  | succ m ih =>
    intro t a ht hQ
    have h1 : ¬ 8 ≤ t := by omega
    rw [wH_rowsThere_l4]
    rw [pCn] at hQ
    rcases h t (by omega) with ⟨q1, q2⟩ | ⟨q1, l, n, q2, q3, q4, q5, q6, q7, q8⟩
    · have q3 := ng_nle q2
      simp only [q3, decide_false, Bool.false_eq_true, if_false] at hQ
      simp (disch := first | assumption | omega | decide) only [li0, li1, li2, li3, li4, li5, li6, li7, li8, li9, li10, li11, li12, li13, li14, li16, li17, li20, li21, li22, li23, li24, li30, li32, li40, li48, li57, li59, li63, li86, li97, li99, li100, li102, li115, li122, li200, li255, li289, li320, li400, li720, li999, li1000, nI_add, pk_mul, nI_sub, nI_clamp, vinT, Nat.le_refl, Nat.reduceLeDiff, Nat.reduceLT, Nat.reduceEqDiff, Nat.reduceAdd, Nat.reduceMul, Nat.reduceSub, forall_eq, true_and, and_true, not_true_eq_false, not_false_eq_true, false_implies, true_implies, implies_true, if_true, if_false, ite_self, nI_eqI, nI_leI2, nI_ltI2, h1, q1]
      exact ih (t + 1) a (by omega) hQ
    · have q9 : nI 0 ≤ σ 83 t := by rw [q5, nI_leI2 (by omega) (by omega)]; omega
      simp only [q9, decide_true, if_true] at hQ
      simp (disch := first | assumption | omega | decide) only [li0, li1, li2, li3, li4, li5, li6, li7, li8, li9, li10, li11, li12, li13, li14, li16, li17, li20, li21, li22, li23, li24, li30, li32, li40, li48, li57, li59, li63, li86, li97, li99, li100, li102, li115, li122, li200, li255, li289, li320, li400, li720, li999, li1000, nI_add, pk_mul, nI_sub, nI_clamp, vinT, Nat.le_refl, Nat.reduceLeDiff, Nat.reduceLT, Nat.reduceEqDiff, Nat.reduceAdd, Nat.reduceMul, Nat.reduceSub, forall_eq, true_and, and_true, not_true_eq_false, not_false_eq_true, false_implies, true_implies, implies_true, if_true, if_false, ite_self, nI_eqI, nI_leI2, nI_ltI2, h1, q1]
      exact ih (t + 1) (a + 1) (by omega) hQ
/-- what the reference answers, its rows counted -/
def pCA (σ : gM) (x : Int32) (a : Nat) : Int32 := if x = nI 0 then nI a else if x = nI 1 then σ 89 2 else if x = nI 2 then σ 89 3 else if x = nI 3 then σ 89 5 else if x = nI 4 then σ 89 4 else if x = nI 5 then σ 82 20 else if x = nI 6 then σ 82 4 else -1000001
theorem s_count {σ : gM} {x : Int32} {Q : Int32 → gM → Prop} : ∀ (m t a : Nat), t + m = 8 → Q (pCA σ x (pCn (fun t => decide (nI 0 ≤ σ 83 t)) m t a)) σ → wM_count_l4 Q (m + 1) x (nI a) (nI t) σ := by
  intro m
  induction m with
  | zero =>
    intro t a ht hQ
    have : t = 8 := by omega
    subst this
    rw [wM_count_l4]
    simp only [pCn] at hQ
    unfold pCA at hQ
    simp (disch := first | assumption | omega | decide) only [li0, li1, li2, li3, li4, li5, li6, li7, li8, li9, li10, li11, li12, li13, li14, li16, li17, li20, li21, li22, li23, li24, li30, li32, li40, li48, li57, li59, li63, li86, li97, li99, li100, li102, li115, li122, li200, li255, li289, li320, li400, li720, li999, li1000, nI_add, pk_mul, nI_sub, nI_clamp, vinT, Nat.le_refl, Nat.reduceLeDiff, Nat.reduceLT, Nat.reduceEqDiff, Nat.reduceAdd, Nat.reduceMul, Nat.reduceSub, forall_eq, true_and, and_true, not_true_eq_false, not_false_eq_true, false_implies, true_implies, implies_true, if_true, if_false, ite_self, nI_eqI, nI_leI2, nI_ltI2]
    by_cases q0 : x = nI 0
    · subst q0; simp (disch := first | assumption | omega | decide) only [li0, li1, li2, li3, li4, li5, li6, li7, li8, li9, li10, li11, li12, li13, li14, li16, li17, li20, li21, li22, li23, li24, li30, li32, li40, li48, li57, li59, li63, li86, li97, li99, li100, li102, li115, li122, li200, li255, li289, li320, li400, li720, li999, li1000, nI_add, pk_mul, nI_sub, nI_clamp, vinT, Nat.le_refl, Nat.reduceLeDiff, Nat.reduceLT, Nat.reduceEqDiff, Nat.reduceAdd, Nat.reduceMul, Nat.reduceSub, forall_eq, true_and, and_true, not_true_eq_false, not_false_eq_true, false_implies, true_implies, implies_true, if_true, if_false, ite_self, nI_eqI, nI_leI2, nI_ltI2] at hQ ⊢; exact hQ
    by_cases q1 : x = nI 1
    · subst q1; simp (disch := first | assumption | omega | decide) only [li0, li1, li2, li3, li4, li5, li6, li7, li8, li9, li10, li11, li12, li13, li14, li16, li17, li20, li21, li22, li23, li24, li30, li32, li40, li48, li57, li59, li63, li86, li97, li99, li100, li102, li115, li122, li200, li255, li289, li320, li400, li720, li999, li1000, nI_add, pk_mul, nI_sub, nI_clamp, vinT, Nat.le_refl, Nat.reduceLeDiff, Nat.reduceLT, Nat.reduceEqDiff, Nat.reduceAdd, Nat.reduceMul, Nat.reduceSub, forall_eq, true_and, and_true, not_true_eq_false, not_false_eq_true, false_implies, true_implies, implies_true, if_true, if_false, ite_self, nI_eqI, nI_leI2, nI_ltI2] at hQ ⊢; exact hQ
    by_cases q2 : x = nI 2
    · subst q2; simp (disch := first | assumption | omega | decide) only [li0, li1, li2, li3, li4, li5, li6, li7, li8, li9, li10, li11, li12, li13, li14, li16, li17, li20, li21, li22, li23, li24, li30, li32, li40, li48, li57, li59, li63, li86, li97, li99, li100, li102, li115, li122, li200, li255, li289, li320, li400, li720, li999, li1000, nI_add, pk_mul, nI_sub, nI_clamp, vinT, Nat.le_refl, Nat.reduceLeDiff, Nat.reduceLT, Nat.reduceEqDiff, Nat.reduceAdd, Nat.reduceMul, Nat.reduceSub, forall_eq, true_and, and_true, not_true_eq_false, not_false_eq_true, false_implies, true_implies, implies_true, if_true, if_false, ite_self, nI_eqI, nI_leI2, nI_ltI2] at hQ ⊢; exact hQ
    by_cases q3 : x = nI 3
    · subst q3; simp (disch := first | assumption | omega | decide) only [li0, li1, li2, li3, li4, li5, li6, li7, li8, li9, li10, li11, li12, li13, li14, li16, li17, li20, li21, li22, li23, li24, li30, li32, li40, li48, li57, li59, li63, li86, li97, li99, li100, li102, li115, li122, li200, li255, li289, li320, li400, li720, li999, li1000, nI_add, pk_mul, nI_sub, nI_clamp, vinT, Nat.le_refl, Nat.reduceLeDiff, Nat.reduceLT, Nat.reduceEqDiff, Nat.reduceAdd, Nat.reduceMul, Nat.reduceSub, forall_eq, true_and, and_true, not_true_eq_false, not_false_eq_true, false_implies, true_implies, implies_true, if_true, if_false, ite_self, nI_eqI, nI_leI2, nI_ltI2] at hQ ⊢; exact hQ
    by_cases q4 : x = nI 4
    · subst q4; simp (disch := first | assumption | omega | decide) only [li0, li1, li2, li3, li4, li5, li6, li7, li8, li9, li10, li11, li12, li13, li14, li16, li17, li20, li21, li22, li23, li24, li30, li32, li40, li48, li57, li59, li63, li86, li97, li99, li100, li102, li115, li122, li200, li255, li289, li320, li400, li720, li999, li1000, nI_add, pk_mul, nI_sub, nI_clamp, vinT, Nat.le_refl, Nat.reduceLeDiff, Nat.reduceLT, Nat.reduceEqDiff, Nat.reduceAdd, Nat.reduceMul, Nat.reduceSub, forall_eq, true_and, and_true, not_true_eq_false, not_false_eq_true, false_implies, true_implies, implies_true, if_true, if_false, ite_self, nI_eqI, nI_leI2, nI_ltI2] at hQ ⊢; exact hQ
    by_cases q5 : x = nI 5
    · subst q5; simp (disch := first | assumption | omega | decide) only [li0, li1, li2, li3, li4, li5, li6, li7, li8, li9, li10, li11, li12, li13, li14, li16, li17, li20, li21, li22, li23, li24, li30, li32, li40, li48, li57, li59, li63, li86, li97, li99, li100, li102, li115, li122, li200, li255, li289, li320, li400, li720, li999, li1000, nI_add, pk_mul, nI_sub, nI_clamp, vinT, Nat.le_refl, Nat.reduceLeDiff, Nat.reduceLT, Nat.reduceEqDiff, Nat.reduceAdd, Nat.reduceMul, Nat.reduceSub, forall_eq, true_and, and_true, not_true_eq_false, not_false_eq_true, false_implies, true_implies, implies_true, if_true, if_false, ite_self, nI_eqI, nI_leI2, nI_ltI2] at hQ ⊢; exact hQ
    by_cases q6 : x = nI 6
    · subst q6; simp (disch := first | assumption | omega | decide) only [li0, li1, li2, li3, li4, li5, li6, li7, li8, li9, li10, li11, li12, li13, li14, li16, li17, li20, li21, li22, li23, li24, li30, li32, li40, li48, li57, li59, li63, li86, li97, li99, li100, li102, li115, li122, li200, li255, li289, li320, li400, li720, li999, li1000, nI_add, pk_mul, nI_sub, nI_clamp, vinT, Nat.le_refl, Nat.reduceLeDiff, Nat.reduceLT, Nat.reduceEqDiff, Nat.reduceAdd, Nat.reduceMul, Nat.reduceSub, forall_eq, true_and, and_true, not_true_eq_false, not_false_eq_true, false_implies, true_implies, implies_true, if_true, if_false, ite_self, nI_eqI, nI_leI2, nI_ltI2] at hQ ⊢; exact hQ
    simp only [q0, q1, q2, q3, q4, q5, q6, Nat.le_refl, Nat.reduceLeDiff, Nat.reduceLT, Nat.reduceEqDiff, Nat.reduceAdd, Nat.reduceMul, Nat.reduceSub, forall_eq, true_and, and_true, not_true_eq_false, not_false_eq_true, false_implies, true_implies, implies_true, if_true, if_false, ite_self, and_self] at hQ ⊢
    exact hQ
  | succ m ih =>
    intro t a ht hQ
    have h1 : ¬ 8 ≤ t := by omega
    rw [wM_count_l4]
    rw [pCn] at hQ
    by_cases q : nI 0 ≤ σ 83 t
    · simp only [q, decide_true, if_true] at hQ
      simp (disch := first | assumption | omega | decide) only [li0, li1, li2, li3, li4, li5, li6, li7, li8, li9, li10, li11, li12, li13, li14, li16, li17, li20, li21, li22, li23, li24, li30, li32, li40, li48, li57, li59, li63, li86, li97, li99, li100, li102, li115, li122, li200, li255, li289, li320, li400, li720, li999, li1000, nI_add, pk_mul, nI_sub, nI_clamp, vinT, Nat.le_refl, Nat.reduceLeDiff, Nat.reduceLT, Nat.reduceEqDiff, Nat.reduceAdd, Nat.reduceMul, Nat.reduceSub, forall_eq, true_and, and_true, not_true_eq_false, not_false_eq_true, false_implies, true_implies, implies_true, if_true, if_false, ite_self, nI_eqI, nI_leI2, nI_ltI2, h1, eM_isNull, q]
      exact ih (t + 1) (a + 1) (by omega) hQ
    · simp only [q, decide_false, Bool.false_eq_true, if_false] at hQ
      simp (disch := first | assumption | omega | decide) only [li0, li1, li2, li3, li4, li5, li6, li7, li8, li9, li10, li11, li12, li13, li14, li16, li17, li20, li21, li22, li23, li24, li30, li32, li40, li48, li57, li59, li63, li86, li97, li99, li100, li102, li115, li122, li200, li255, li289, li320, li400, li720, li999, li1000, nI_add, pk_mul, nI_sub, nI_clamp, vinT, Nat.le_refl, Nat.reduceLeDiff, Nat.reduceLT, Nat.reduceEqDiff, Nat.reduceAdd, Nat.reduceMul, Nat.reduceSub, forall_eq, true_and, and_true, not_true_eq_false, not_false_eq_true, false_implies, true_implies, implies_true, if_true, if_false, ite_self, nI_eqI, nI_leI2, nI_ltI2, h1, eM_isNull, q, Nat.add_zero]
      exact ih (t + 1) a (by omega) hQ
theorem op_count {k : Nat} {x1 : Int32} {σ : gM} (h : pInv k σ) : pBoth (wH_count x1) (wM_count x1) σ (pInv k) := by
  obtain ⟨nb, nw, nl, hp, hM, hW⟩ := h.2.2.2.2.2.2.1
  obtain ⟨t, t1, t2, t3, t4⟩ := h.2.2.2.1
  obtain ⟨n, nx, n1, n2, n3, n4, n5, n6, n7⟩ := h.2.2.2.2.2.2.2.2.2
  have e3 : σ 42 3 = σ 89 2 := hM.2.2.1.trans hW.1.symm
  have e4 : σ 42 4 = σ 89 3 := hM.2.2.2.1.trans hW.2.1.symm
  have e5 : σ 42 5 = σ 89 5 := hM.2.2.2.2.1.trans hW.2.2.1.symm
  have e2 : σ 42 2 = σ 89 4 := hM.2.1
  have ea : σ 20 3 = σ 82 20 := n4.trans n3.symm
  have et : σ 18 0 = σ 82 4 := t2.trans t3.symm
  have key : ∀ v : Int32, v = pCA σ x1 (pCn (fun t => decide (nI 0 ≤ σ 83 t)) 8 0 0) → wM_count x1 σ (fun r2 σ2 => v = r2 ∧ pInv k σ2) := fun v hv => by
    unfold wM_count
    exact ⟨9, s_count 8 0 0 (by omega) ⟨hv, h⟩⟩
  unfold pBoth wH_count
  refine ⟨fun q => ?_, fun q => ?_, fun q => ?_, fun q => ?_, fun q => ?_, fun q => ?_, fun q => ?_, fun q => ?_⟩
  · subst q
    unfold wH_rowsThere
    exact ⟨9, s_there h.1 8 0 0 (by omega) (key _ (by unfold pCA; rw [if_pos rfl]))⟩
  · subst q; refine key _ ?_; unfold pCA; simp (disch := first | assumption | omega | decide) only [li0, li1, li2, li3, li4, li5, li6, li7, li8, li9, li10, li11, li12, li13, li14, li16, li17, li20, li21, li22, li23, li24, li30, li32, li40, li48, li57, li59, li63, li86, li97, li99, li100, li102, li115, li122, li200, li255, li289, li320, li400, li720, li999, li1000, nI_add, pk_mul, nI_sub, nI_clamp, vinT, Nat.le_refl, Nat.reduceLeDiff, Nat.reduceLT, Nat.reduceEqDiff, Nat.reduceAdd, Nat.reduceMul, Nat.reduceSub, forall_eq, true_and, and_true, not_true_eq_false, not_false_eq_true, false_implies, true_implies, implies_true, if_true, if_false, ite_self, nI_eqI, nI_leI2, nI_ltI2]; exact e3
  · subst q; refine key _ ?_; unfold pCA; simp (disch := first | assumption | omega | decide) only [li0, li1, li2, li3, li4, li5, li6, li7, li8, li9, li10, li11, li12, li13, li14, li16, li17, li20, li21, li22, li23, li24, li30, li32, li40, li48, li57, li59, li63, li86, li97, li99, li100, li102, li115, li122, li200, li255, li289, li320, li400, li720, li999, li1000, nI_add, pk_mul, nI_sub, nI_clamp, vinT, Nat.le_refl, Nat.reduceLeDiff, Nat.reduceLT, Nat.reduceEqDiff, Nat.reduceAdd, Nat.reduceMul, Nat.reduceSub, forall_eq, true_and, and_true, not_true_eq_false, not_false_eq_true, false_implies, true_implies, implies_true, if_true, if_false, ite_self, nI_eqI, nI_leI2, nI_ltI2]; exact e4
  · subst q; refine key _ ?_; unfold pCA; simp (disch := first | assumption | omega | decide) only [li0, li1, li2, li3, li4, li5, li6, li7, li8, li9, li10, li11, li12, li13, li14, li16, li17, li20, li21, li22, li23, li24, li30, li32, li40, li48, li57, li59, li63, li86, li97, li99, li100, li102, li115, li122, li200, li255, li289, li320, li400, li720, li999, li1000, nI_add, pk_mul, nI_sub, nI_clamp, vinT, Nat.le_refl, Nat.reduceLeDiff, Nat.reduceLT, Nat.reduceEqDiff, Nat.reduceAdd, Nat.reduceMul, Nat.reduceSub, forall_eq, true_and, and_true, not_true_eq_false, not_false_eq_true, false_implies, true_implies, implies_true, if_true, if_false, ite_self, nI_eqI, nI_leI2, nI_ltI2]; exact e5
  · subst q; refine key _ ?_; unfold pCA; simp (disch := first | assumption | omega | decide) only [li0, li1, li2, li3, li4, li5, li6, li7, li8, li9, li10, li11, li12, li13, li14, li16, li17, li20, li21, li22, li23, li24, li30, li32, li40, li48, li57, li59, li63, li86, li97, li99, li100, li102, li115, li122, li200, li255, li289, li320, li400, li720, li999, li1000, nI_add, pk_mul, nI_sub, nI_clamp, vinT, Nat.le_refl, Nat.reduceLeDiff, Nat.reduceLT, Nat.reduceEqDiff, Nat.reduceAdd, Nat.reduceMul, Nat.reduceSub, forall_eq, true_and, and_true, not_true_eq_false, not_false_eq_true, false_implies, true_implies, implies_true, if_true, if_false, ite_self, nI_eqI, nI_leI2, nI_ltI2]; exact e2
  · subst q; refine key _ ?_; unfold pCA; simp (disch := first | assumption | omega | decide) only [li0, li1, li2, li3, li4, li5, li6, li7, li8, li9, li10, li11, li12, li13, li14, li16, li17, li20, li21, li22, li23, li24, li30, li32, li40, li48, li57, li59, li63, li86, li97, li99, li100, li102, li115, li122, li200, li255, li289, li320, li400, li720, li999, li1000, nI_add, pk_mul, nI_sub, nI_clamp, vinT, Nat.le_refl, Nat.reduceLeDiff, Nat.reduceLT, Nat.reduceEqDiff, Nat.reduceAdd, Nat.reduceMul, Nat.reduceSub, forall_eq, true_and, and_true, not_true_eq_false, not_false_eq_true, false_implies, true_implies, implies_true, if_true, if_false, ite_self, nI_eqI, nI_leI2, nI_ltI2]; exact ea
  · subst q; refine key _ ?_; unfold pCA; simp (disch := first | assumption | omega | decide) only [li0, li1, li2, li3, li4, li5, li6, li7, li8, li9, li10, li11, li12, li13, li14, li16, li17, li20, li21, li22, li23, li24, li30, li32, li40, li48, li57, li59, li63, li86, li97, li99, li100, li102, li115, li122, li200, li255, li289, li320, li400, li720, li999, li1000, nI_add, pk_mul, nI_sub, nI_clamp, vinT, Nat.le_refl, Nat.reduceLeDiff, Nat.reduceLT, Nat.reduceEqDiff, Nat.reduceAdd, Nat.reduceMul, Nat.reduceSub, forall_eq, true_and, and_true, not_true_eq_false, not_false_eq_true, false_implies, true_implies, implies_true, if_true, if_false, ite_self, nI_eqI, nI_leI2, nI_ltI2]; exact et
  · obtain ⟨q0, q1, q2, q3, q4, q5, q6⟩ := q
    refine key _ ?_; unfold pCA; simp only [q0, q1, q2, q3, q4, q5, q6, Nat.le_refl, Nat.reduceLeDiff, Nat.reduceLT, Nat.reduceEqDiff, Nat.reduceAdd, Nat.reduceMul, Nat.reduceSub, forall_eq, true_and, and_true, not_true_eq_false, not_false_eq_true, false_implies, true_implies, implies_true, if_true, if_false, ite_self]
/-! REACH -/
section Reach
variable {k nb nw nl : Nat} {N : Nat → Int32} {hp : Nat → Nat} {σ : gM} {Q : Int32 → gM → Prop}
def pRL (hp : Nat → Nat) (V : Nat → Int32) (p : Nat) : Nat → Nat → Int32 → Int32 → Int32 × Int32
  | 0, _, a, b => (a, b)
  | m + 1, i, a, b => pRL hp V p m (i + 1) (if p ≤ i then a else a + V (hp i)) (if p ≤ i then (if i ≤ p then b else b + V (hp i)) else b)
theorem s_R_H {p : Nat} (hp16 : p < 16) (hM : pMk σ 42 N nb nw nl) (hW : pWF k N nb nw nl hp) : ∀ (m i : Nat) (a b : Int32), i + m = nl → Q (if (pRL hp (fun w => pV N w (nI 0)) p m i a b).2 < (pRL hp (fun w => pV N w (nI 0)) p m i a b).1 then (pRL hp (fun w => pV N w (nI 0)) p m i a b).2 else (pRL hp (fun w => pV N w (nI 0)) p m i a b).1) σ → wS_leastAhead_l8 Q (m + 1) (nI p) a b (nI i) σ := by
  have hn : nw ≤ 16 := hW.2.2.2.2.1
  have hl : nl ≤ nw := hW.2.2.2.2.2.1
  have eh : ∀ j, j < nl → σ 51 j = nI (hp j) := fun j hj => (hM.2.2.2.2.2.2.2 j hj).trans (hW.2.2.2.2.2.2.2.2.1 j hj).2.1
  have e5 : σ 42 5 = nI nl := hM.2.2.2.2.1
  intro m
  induction m with
  | zero =>
    intro i a b hi h
    have : i = nl := by omega
    subst this
    rw [wS_leastAhead_l8]
    simp (disch := first | assumption | omega | decide) only [li0, li1, li2, li3, li4, li5, li6, li7, li8, li9, li10, li11, li12, li13, li14, li16, li17, li20, li21, li22, li23, li24, li30, li32, li40, li48, li57, li59, li63, li86, li97, li99, li100, li102, li115, li122, li200, li255, li289, li320, li400, li720, li999, li1000, nI_add, pk_mul, nI_sub, nI_clamp, vinT, Nat.le_refl, Nat.reduceLeDiff, Nat.reduceLT, Nat.reduceEqDiff, Nat.reduceAdd, Nat.reduceMul, Nat.reduceSub, forall_eq, true_and, and_true, not_true_eq_false, not_false_eq_true, false_implies, true_implies, implies_true, if_true, if_false, ite_self, nI_eqI, nI_leI2, nI_ltI2, e5]
    exact h
  | succ m ih =>
    intro i a b hi h
    have h1 : ¬ nl ≤ i := by omega
    have w1 : hp i < nw := (hW.2.2.2.2.2.2.2.2.1 i (by omega)).1
    rw [wS_leastAhead_l8]
    simp (disch := first | assumption | omega | decide) only [li0, li1, li2, li3, li4, li5, li6, li7, li8, li9, li10, li11, li12, li13, li14, li16, li17, li20, li21, li22, li23, li24, li30, li32, li40, li48, li57, li59, li63, li86, li97, li99, li100, li102, li115, li122, li200, li255, li289, li320, li400, li720, li999, li1000, nI_add, pk_mul, nI_sub, nI_clamp, vinT, Nat.le_refl, Nat.reduceLeDiff, Nat.reduceLT, Nat.reduceEqDiff, Nat.reduceAdd, Nat.reduceMul, Nat.reduceSub, forall_eq, true_and, and_true, not_true_eq_false, not_false_eq_true, false_implies, true_implies, implies_true, if_true, if_false, ite_self, nI_eqI, nI_leI2, nI_ltI2, e5, h1, eh, eK_valueIn hM hW w1]
    exact ih (i + 1) _ _ (by omega) h
theorem s_R_M {p : Nat} {x : Int32} (hp16 : p < nl) (hW : pWF k (σ 89) nb nw nl hp) : ∀ (m i : Nat) (a b : Int32), i + m = nl → Q (if x = nI 0 then nI 1 + (if nI nl - nI 1 - nI p ≤ nI p then nI nl - nI 1 - nI p else nI p) else (if (pRL hp (fun w => pV (σ 89) w (nI 0)) p m i a b).2 ≤ (pRL hp (fun w => pV (σ 89) w (nI 0)) p m i a b).1 then (pRL hp (fun w => pV (σ 89) w (nI 0)) p m i a b).2 else (pRL hp (fun w => pV (σ 89) w (nI 0)) p m i a b).1)) σ → wM_reach_l44 Q (m + 1) x (nI p) a b (nI i) σ := by
  have hn : nw ≤ 16 := hW.2.2.2.2.1
  have hl : nl ≤ nw := hW.2.2.2.2.2.1
  have eh : ∀ j, j < nl → σ 89 (86 + j) = nI (hp j) := fun j hj => (hW.2.2.2.2.2.2.2.2.1 j hj).2.1
  have e5 : σ 89 5 = nI nl := hW.2.2.1
  intro m
  induction m with
  | zero =>
    intro i a b hi h
    have : i = nl := by omega
    subst this
    rw [wM_reach_l44]
    simp (disch := first | assumption | omega | decide) only [nI_leI2, e5, Nat.le_refl, Nat.reduceLeDiff, Nat.reduceLT, Nat.reduceEqDiff, Nat.reduceAdd, Nat.reduceMul, Nat.reduceSub, forall_eq, true_and, and_true, not_true_eq_false, not_false_eq_true, false_implies, true_implies, implies_true, if_true, if_false, ite_self]
    exact h
  | succ m ih =>
    intro i a b hi h
    have h1 : ¬ nl ≤ i := by omega
    have w1 : hp i < nw := (hW.2.2.2.2.2.2.2.2.1 i (by omega)).1
    have z : ∀ x : Int32, x + nI 0 = x := Int32.add_zero
    rw [wM_reach_l44]
    rw [pRL] at h
    by_cases q1 : p ≤ i
    · by_cases q2 : i ≤ p
      · simp only [q1, q2, if_true] at h
        simp (disch := first | assumption | omega | decide) only [li0, li1, li2, li3, li4, li5, li6, li7, li8, li9, li10, li11, li12, li13, li14, li16, li17, li20, li21, li22, li23, li24, li30, li32, li40, li48, li57, li59, li63, li86, li97, li99, li100, li102, li115, li122, li200, li255, li289, li320, li400, li720, li999, li1000, nI_add, pk_mul, nI_sub, nI_clamp, vinT, Nat.le_refl, Nat.reduceLeDiff, Nat.reduceLT, Nat.reduceEqDiff, Nat.reduceAdd, Nat.reduceMul, Nat.reduceSub, forall_eq, true_and, and_true, not_true_eq_false, not_false_eq_true, false_implies, true_implies, implies_true, if_true, if_false, ite_self, nI_eqI, nI_leI2, nI_ltI2, e5, h1, q1, q2, eh, eM_heap, eM_valueOf, wM_reach_b78, z]
        exact ih (i + 1) _ _ (by omega) h
      · simp only [q1, q2, if_true, if_false] at h
        simp (disch := first | assumption | omega | decide) only [li0, li1, li2, li3, li4, li5, li6, li7, li8, li9, li10, li11, li12, li13, li14, li16, li17, li20, li21, li22, li23, li24, li30, li32, li40, li48, li57, li59, li63, li86, li97, li99, li100, li102, li115, li122, li200, li255, li289, li320, li400, li720, li999, li1000, nI_add, pk_mul, nI_sub, nI_clamp, vinT, Nat.le_refl, Nat.reduceLeDiff, Nat.reduceLT, Nat.reduceEqDiff, Nat.reduceAdd, Nat.reduceMul, Nat.reduceSub, forall_eq, true_and, and_true, not_true_eq_false, not_false_eq_true, false_implies, true_implies, implies_true, if_true, if_false, ite_self, nI_eqI, nI_leI2, nI_ltI2, e5, h1, q1, q2, eh, eM_heap, eM_valueOf, wM_reach_b78, z]
        exact ih (i + 1) _ _ (by omega) h
    · have q2 : i ≤ p := by omega
      simp only [q1, if_false] at h
      simp (disch := first | assumption | omega | decide) only [li0, li1, li2, li3, li4, li5, li6, li7, li8, li9, li10, li11, li12, li13, li14, li16, li17, li20, li21, li22, li23, li24, li30, li32, li40, li48, li57, li59, li63, li86, li97, li99, li100, li102, li115, li122, li200, li255, li289, li320, li400, li720, li999, li1000, nI_add, pk_mul, nI_sub, nI_clamp, vinT, Nat.le_refl, Nat.reduceLeDiff, Nat.reduceLT, Nat.reduceEqDiff, Nat.reduceAdd, Nat.reduceMul, Nat.reduceSub, forall_eq, true_and, and_true, not_true_eq_false, not_false_eq_true, false_implies, true_implies, implies_true, if_true, if_false, ite_self, nI_eqI, nI_leI2, nI_ltI2, e5, h1, q1, q2, eh, eM_heap, eM_valueOf, wM_reach_b78, z]
      exact ih (i + 1) _ _ (by omega) h
end Reach
theorem e_min (a b : Int32) : (if b < a then b else a) = (if b ≤ a then b else a) := by
  by_cases h : b < a
  · rw [if_pos h, if_pos (by rw [i_lt] at h; rw [i_le]; omega)]
  · rw [if_neg h]
    by_cases h2 : b ≤ a
    · rw [if_pos h2]
      exact i_eq.mpr (by rw [i_lt] at h; rw [i_le] at h2; omega)
    · rw [if_neg h2]
theorem op_reach {k : Nat} {x1 x2 : Int32} {σ : gM} (h : pInv k σ) : pBoth (wH_reach x1 x2) (wM_reach x1 x2) σ (pInv k) := by
  obtain ⟨nb, nw, nl, hp, hM, hW⟩ := h.2.2.2.2.2.2.1
  have hn : nw ≤ 16 := hW.2.2.2.2.1
  have hl : nl ≤ nw := hW.2.2.2.2.2.1
  have e5 : σ 42 5 = nI nl := hM.2.2.2.2.1
  have n01 : ¬ nI 1 = nI 0 := by decide
  unfold pBoth wH_reach
  rw [eH_isNoWare hM.2.2.2.1]
  rcases i_in x1 nw (by omega) with ⟨w, hw, rfl⟩ | ⟨e1, e2⟩
  · rw [pNB_in hw (by omega)]
    have em := fun Q => @eM_isWareAt (nI w) σ Q nw hW.2.1 hn
    rcases i_nat x2 with hx | ⟨y, hy, rfl⟩
    · simp (disch := first | assumption | omega | decide) only [li0, li1, li2, li3, li4, li5, li6, li7, li8, li9, li10, li11, li12, li13, li14, li16, li17, li20, li21, li22, li23, li24, li30, li32, li40, li48, li57, li59, li63, li86, li97, li99, li100, li102, li115, li122, li200, li255, li289, li320, li400, li720, li999, li1000, nI_add, pk_mul, nI_sub, nI_clamp, vinT, Nat.le_refl, Nat.reduceLeDiff, Nat.reduceLT, Nat.reduceEqDiff, Nat.reduceAdd, Nat.reduceMul, Nat.reduceSub, forall_eq, true_and, and_true, not_true_eq_false, not_false_eq_true, false_implies, true_implies, implies_true, if_true, if_false, ite_self, nI_eqI, nI_leI2, nI_ltI2, ng_lt, ng_le, ng_gt, ng_ge, ng_eq, ng_qe, wM_reach, em, pB_in hw, eM_in]
      exact h
    by_cases hy1 : y ≤ 1
    · have hy2 : ¬ 1 < y := by omega
      simp (disch := first | assumption | omega | decide) only [li0, li1, li2, li3, li4, li5, li6, li7, li8, li9, li10, li11, li12, li13, li14, li16, li17, li20, li21, li22, li23, li24, li30, li32, li40, li48, li57, li59, li63, li86, li97, li99, li100, li102, li115, li122, li200, li255, li289, li320, li400, li720, li999, li1000, nI_add, pk_mul, nI_sub, nI_clamp, vinT, Nat.le_refl, Nat.reduceLeDiff, Nat.reduceLT, Nat.reduceEqDiff, Nat.reduceAdd, Nat.reduceMul, Nat.reduceSub, forall_eq, true_and, and_true, not_true_eq_false, not_false_eq_true, false_implies, true_implies, implies_true, if_true, if_false, ite_self, nI_eqI, nI_leI2, nI_ltI2, Nat.not_lt_zero, hy1]
      refine s_placeK hM hW hw ?_
      unfold pPlI
      have hpm : wM_reach (nI w) (nI y) σ = fun Q => wM_placeOf (nI w) σ (fun r8 σ8 => (r8 = (-1000000 : Int32) → (Q (-1000002 : Int32) σ8)) ∧ (¬ (r8 = (-1000000 : Int32)) → (∃ n33 : Nat, wM_reach_l44 Q n33 (nI y) r8 (nI 0) (nI 0) (nI 0) σ8))) := by
        funext Q
        simp (disch := first | assumption | omega | decide) only [li0, li1, li2, li3, li4, li5, li6, li7, li8, li9, li10, li11, li12, li13, li14, li16, li17, li20, li21, li22, li23, li24, li30, li32, li40, li48, li57, li59, li63, li86, li97, li99, li100, li102, li115, li122, li200, li255, li289, li320, li400, li720, li999, li1000, nI_add, pk_mul, nI_sub, nI_clamp, vinT, Nat.le_refl, Nat.reduceLeDiff, Nat.reduceLT, Nat.reduceEqDiff, Nat.reduceAdd, Nat.reduceMul, Nat.reduceSub, forall_eq, true_and, and_true, not_true_eq_false, not_false_eq_true, false_implies, true_implies, implies_true, if_true, if_false, ite_self, nI_eqI, nI_leI2, nI_ltI2, wM_reach, em, pB_in hw, eM_in, hy2, Nat.not_lt_zero]
      cases hpl : pPl nl hp w with
      | none =>
        simp only [Nat.le_refl, Nat.reduceLeDiff, Nat.reduceLT, Nat.reduceEqDiff, Nat.reduceAdd, Nat.reduceMul, Nat.reduceSub, forall_eq, true_and, and_true, not_true_eq_false, not_false_eq_true, false_implies, true_implies, implies_true, if_true, if_false, ite_self]
        rw [hpm]
        refine s_placeM hW hw ?_
        simp only [pPlI, hpl, Nat.le_refl, Nat.reduceLeDiff, Nat.reduceLT, Nat.reduceEqDiff, Nat.reduceAdd, Nat.reduceMul, Nat.reduceSub, forall_eq, true_and, and_true, not_true_eq_false, not_false_eq_true, false_implies, true_implies, implies_true, if_true, if_false, ite_self]
        exact h
      | some p =>
        have hpn : p < nl := by
          have := List.mem_of_find?_eq_some hpl
          exact List.mem_range.mp this
        have hne : ¬ nI p = (-1000000 : Int32) := fun q => by
          rw [i_eq, nI_I (by omega)] at q
          have q : (p : Int) = -1000000 := q
          omega
        simp only [hne, Nat.le_refl, Nat.reduceLeDiff, Nat.reduceLT, Nat.reduceEqDiff, Nat.reduceAdd, Nat.reduceMul, Nat.reduceSub, forall_eq, true_and, and_true, not_true_eq_false, not_false_eq_true, false_implies, true_implies, implies_true, if_true, if_false, ite_self]
        have hM2 : ∀ v : Int32, (v = if nI y = nI 0 then nI 1 + (if nI nl - nI 1 - nI p ≤ nI p then nI nl - nI 1 - nI p else nI p) else (if (pRL hp (fun w => pV (σ 89) w (nI 0)) p nl 0 (nI 0) (nI 0)).2 ≤ (pRL hp (fun w => pV (σ 89) w (nI 0)) p nl 0 (nI 0) (nI 0)).1 then (pRL hp (fun w => pV (σ 89) w (nI 0)) p nl 0 (nI 0) (nI 0)).2 else (pRL hp (fun w => pV (σ 89) w (nI 0)) p nl 0 (nI 0) (nI 0)).1)) → wM_reach (nI w) (nI y) σ (fun r2 σ2 => v = r2 ∧ pInv k σ2) := fun v hv => by
          rw [hpm]
          refine s_placeM hW hw ?_
          simp only [pPlI, hpl, hne, Nat.le_refl, Nat.reduceLeDiff, Nat.reduceLT, Nat.reduceEqDiff, Nat.reduceAdd, Nat.reduceMul, Nat.reduceSub, forall_eq, true_and, and_true, not_true_eq_false, not_false_eq_true, false_implies, true_implies, implies_true, if_true, if_false, ite_self]
          exact ⟨nl + 1, s_R_M hpn hW nl 0 (nI 0) (nI 0) (by omega) ⟨hv, h⟩⟩
        have hy01 : y = 0 ∨ y = 1 := by omega
        rcases hy01 with rfl | rfl
        · simp (disch := first | assumption | omega | decide) only [Nat.le_refl, Nat.reduceLeDiff, Nat.reduceLT, Nat.reduceEqDiff, Nat.reduceAdd, Nat.reduceMul, Nat.reduceSub, forall_eq, true_and, and_true, not_true_eq_false, not_false_eq_true, false_implies, true_implies, implies_true, if_true, if_false, ite_self, n01, wS_fewestTill, e5]
          refine hM2 _ ?_
          rw [if_pos rfl]
          simp (disch := first | assumption | omega | decide) only [nI_sub, nI_add, nI_ltI2, nI_leI2]
          by_cases q : nl - 1 - p ≤ p
          · rw [if_pos q]
            by_cases q2 : nl - p < p + 1
            · rw [if_pos q2, nI_add]; congr 1; omega
            · rw [if_neg q2, nI_add]; congr 1; omega
          · rw [if_neg q, if_neg (by omega), nI_add]; congr 1; omega
        · simp (disch := first | assumption | omega | decide) only [Nat.le_refl, Nat.reduceLeDiff, Nat.reduceLT, Nat.reduceEqDiff, Nat.reduceAdd, Nat.reduceMul, Nat.reduceSub, forall_eq, true_and, and_true, not_true_eq_false, not_false_eq_true, false_implies, true_implies, implies_true, if_true, if_false, ite_self, n01, wS_leastAhead]
          refine ⟨nl + 1, s_R_H (by omega) hM hW nl 0 (nI 0) (nI 0) (by omega) (hM2 _ ?_)⟩
          rw [if_neg n01, e_min]
    · have hy2 : 1 < y := by omega
      simp (disch := first | assumption | omega | decide) only [li0, li1, li2, li3, li4, li5, li6, li7, li8, li9, li10, li11, li12, li13, li14, li16, li17, li20, li21, li22, li23, li24, li30, li32, li40, li48, li57, li59, li63, li86, li97, li99, li100, li102, li115, li122, li200, li255, li289, li320, li400, li720, li999, li1000, nI_add, pk_mul, nI_sub, nI_clamp, vinT, Nat.le_refl, Nat.reduceLeDiff, Nat.reduceLT, Nat.reduceEqDiff, Nat.reduceAdd, Nat.reduceMul, Nat.reduceSub, forall_eq, true_and, and_true, not_true_eq_false, not_false_eq_true, false_implies, true_implies, implies_true, if_true, if_false, ite_self, nI_eqI, nI_leI2, nI_ltI2, wM_reach, em, pB_in hw, eM_in, hy1, hy2, Nat.not_lt_zero]
      exact h
  · rw [e2]
    simp (disch := first | assumption | omega | decide) only [li0, li1, li2, li3, li4, li5, li6, li7, li8, li9, li10, li11, li12, li13, li14, li16, li17, li20, li21, li22, li23, li24, li30, li32, li40, li48, li57, li59, li63, li86, li97, li99, li100, li102, li115, li122, li200, li255, li289, li320, li400, li720, li999, li1000, nI_add, pk_mul, nI_sub, nI_clamp, vinT, Nat.le_refl, Nat.reduceLeDiff, Nat.reduceLT, Nat.reduceEqDiff, Nat.reduceAdd, Nat.reduceMul, Nat.reduceSub, forall_eq, true_and, and_true, not_true_eq_false, not_false_eq_true, false_implies, true_implies, implies_true, if_true, if_false, ite_self, nI_eqI, nI_leI2, nI_ltI2, wM_reach, @eM_isWareAt x1 σ _ nw hW.2.1 hn, e1]
    exact h
