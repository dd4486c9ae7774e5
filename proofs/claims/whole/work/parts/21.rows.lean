/-! ROWS -/
def pRows (σ : gM) : Prop := ∀ r, r < 8 → (σ (2 + 2 * r) 1 = nI 0 ∧ σ 83 r < nI 0) ∨ (σ (2 + 2 * r) 1 = nI 1 ∧ ∃ l n : Nat, l ≤ 2 ∧ n ≤ 40 ∧ σ (2 + 2 * r) 2 = nI l ∧ σ 83 r = nI l ∧ σ (2 + 2 * r) 3 = nI n ∧ σ 84 r = nI n ∧ ∀ i, i < n → σ (2 + 2 * r + 1) i = σ 85 (40 * r + i))
theorem s_fill_row {r : Nat} {v : Int32} {Q : gM → Prop} : ∀ (m i : Nat) (σ σ0 : gM), i + m = 40 → σ = gFn σ0 (2 + 2 * r + 1) 0 i (fun _ => v) → Q (gFn σ0 (2 + 2 * r + 1) 0 40 (fun _ => v)) → wJA_fill_row_l5 r Q (m + 1) v (nI i) (nI 40) σ := by
  intro m
  induction m with
  | zero =>
    intro i σ σ0 hi hσ h
    have : i = 40 := by omega
    subst this
    subst hσ
    simp (disch := first | assumption | omega | decide) only [wJA_fill_row_l5, li0, li1, li2, li3, li4, li5, li6, li7, li8, li9, li10, li11, li12, li13, li14, li16, li17, li20, li21, li22, li23, li24, li30, li32, li40, li48, li57, li59, li63, li86, li97, li99, li100, li102, li115, li122, li200, li255, li289, li320, li400, li720, li999, li1000, nI_add, pk_mul, nI_sub, nI_clamp, vinT, Nat.le_refl, Nat.reduceLeDiff, Nat.reduceLT, Nat.reduceEqDiff, Nat.reduceAdd, Nat.reduceMul, Nat.reduceSub, forall_eq, true_and, and_true, not_true_eq_false, not_false_eq_true, false_implies, true_implies, implies_true, if_true, if_false, ite_self, nI_eqI, nI_leI2, nI_ltI2]
    exact h
  | succ m ih =>
    intro i σ σ0 hi hσ h
    have h1 : ¬ 40 ≤ i := by omega
    rw [wJA_fill_row_l5]
    simp (disch := first | assumption | omega | decide) only [li0, li1, li2, li3, li4, li5, li6, li7, li8, li9, li10, li11, li12, li13, li14, li16, li17, li20, li21, li22, li23, li24, li30, li32, li40, li48, li57, li59, li63, li86, li97, li99, li100, li102, li115, li122, li200, li255, li289, li320, li400, li720, li999, li1000, nI_add, pk_mul, nI_sub, nI_clamp, vinT, Nat.le_refl, Nat.reduceLeDiff, Nat.reduceLT, Nat.reduceEqDiff, Nat.reduceAdd, Nat.reduceMul, Nat.reduceSub, forall_eq, true_and, and_true, not_true_eq_false, not_false_eq_true, false_implies, true_implies, implies_true, if_true, if_false, ite_self, nI_eqI, nI_leI2, nI_ltI2, h1]
    refine ih (i + 1) _ σ0 (by omega) ?_ h
    rw [hσ, ← gFn_succ, Nat.zero_add]
theorem s_begin {r : Nat} {x1 x2 : Int32} {σ : gM} {Q : gM → Prop} (h : Q (gFn (gU (gU (gU σ (2 + 2 * r) 1 (nI 1)) (2 + 2 * r) 2 x1) (2 + 2 * r) 3 x2) (2 + 2 * r + 1) 0 40 (fun _ => nI 0))) : wR_begin r x1 x2 σ Q := by
  unfold wR_begin wJA_fill_row
  simp only [forall_eq, li0, li1, li2, li3, li4, li5, li6, li7, li8, li9, li10, li11, li12, li13, li14, li16, li17, li20, li21, li22, li23, li24, li30, li32, li40, li48, li57, li59, li63, li86, li97, li99, li100, li102, li115, li122, li200, li255, li289, li320, li400, li720, li999, li1000]
  exact ⟨41, s_fill_row 40 0 _ _ (by omega) (gFn_0 _ _ _ _).symm h⟩
theorem s_M_row_l {r n : Nat} {Q : Int32 → gM → Prop} (hr : r < 8) (hn : n ≤ 40) : ∀ (m i : Nat) (σ σ0 : gM), i + m = n → σ = gFn σ0 85 (40 * r) i (fun _ => nI 0) → Q (nI n) (gU (gFn σ0 85 (40 * r) n (fun _ => nI 0)) 82 3 (nI 0)) → wM_row_l52 Q (m + 1) (nI r) (nI n) (nI i) σ := by
  intro m
  induction m with
  | zero =>
    intro i σ σ0 hi hσ h
    have : i = n := by omega
    subst this
    subst hσ
    rw [wM_row_l52]
    simp (disch := first | assumption | omega | decide) only [li0, li1, li2, li3, li4, li5, li6, li7, li8, li9, li10, li11, li12, li13, li14, li16, li17, li20, li21, li22, li23, li24, li30, li32, li40, li48, li57, li59, li63, li86, li97, li99, li100, li102, li115, li122, li200, li255, li289, li320, li400, li720, li999, li1000, nI_add, pk_mul, nI_sub, nI_clamp, vinT, Nat.le_refl, Nat.reduceLeDiff, Nat.reduceLT, Nat.reduceEqDiff, Nat.reduceAdd, Nat.reduceMul, Nat.reduceSub, forall_eq, true_and, and_true, not_true_eq_false, not_false_eq_true, false_implies, true_implies, implies_true, if_true, if_false, ite_self, nI_eqI, nI_leI2, nI_ltI2, wM_did, Nat.le_refl]
    exact h
  | succ m ih =>
    intro i σ σ0 hi hσ h
    have h1 : ¬ n ≤ i := by omega
    rw [wM_row_l52]
    simp (disch := first | assumption | omega | decide) only [li0, li1, li2, li3, li4, li5, li6, li7, li8, li9, li10, li11, li12, li13, li14, li16, li17, li20, li21, li22, li23, li24, li30, li32, li40, li48, li57, li59, li63, li86, li97, li99, li100, li102, li115, li122, li200, li255, li289, li320, li400, li720, li999, li1000, nI_add, pk_mul, nI_sub, nI_clamp, vinT, Nat.le_refl, Nat.reduceLeDiff, Nat.reduceLT, Nat.reduceEqDiff, Nat.reduceAdd, Nat.reduceMul, Nat.reduceSub, forall_eq, true_and, and_true, not_true_eq_false, not_false_eq_true, false_implies, true_implies, implies_true, if_true, if_false, ite_self, nI_eqI, nI_leI2, nI_ltI2, h1]
    refine ih (i + 1) _ σ0 (by omega) ?_ h
    rw [hσ, ← gFn_succ]
theorem pRows_fr {σ σ' : gM} (h : pRows σ) (h1 : ∀ r, r < 8 → σ' (2 + 2 * r) = σ (2 + 2 * r)) (h2 : ∀ r, r < 8 → σ' (2 + 2 * r + 1) = σ (2 + 2 * r + 1)) (h3 : σ' 83 = σ 83) (h4 : σ' 84 = σ 84) (h5 : σ' 85 = σ 85) : pRows σ' := by
  intro r hr
  rw [h1 r hr, h2 r hr, h3, h4, h5]
  exact h r hr
