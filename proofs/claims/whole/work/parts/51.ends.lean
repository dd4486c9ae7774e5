/-! THE ENDS: a ware put at one, taken from one -/
theorem ifE {α : Sort _} {e : Nat} (he : e ≤ 1) (a b : α) : (if nI e = nI 0 then a else b) = (if e = 0 then a else b) := by
  by_cases q : e = 0
  · rw [if_pos (by rw [q]), if_pos q]
  · rw [if_neg (by rw [nI_eqI (by omega) (by omega)]; exact q), if_neg q]
theorem e_end (x : Int32) : (∃ e, e ≤ 1 ∧ x = nI e ∧ (∀ σ Q, wH_isNoEnd x σ Q = Q (nI 0) σ) ∧ (∀ σ Q, wM_in x (nI 0) (nI 1) σ Q = Q (nI 1) σ)) ∨ ((∀ σ Q, wH_isNoEnd x σ Q = Q (nI 1) σ) ∧ (∀ σ Q, wM_in x (nI 0) (nI 1) σ Q = Q (nI 0) σ)) := by
  have n01 : ¬ nI 1 = nI 0 := by decide
  rcases i_nat x with hx | ⟨j, hj, rfl⟩
  · refine Or.inr ⟨fun σ Q => ?_, fun σ Q => ?_⟩
    · unfold wH_isNoEnd
      simp (disch := first | assumption | omega | decide) only [ng_lt, ng_le, ng_gt, ng_ge, ng_eq, ng_qe, Nat.le_refl, Nat.reduceLeDiff, Nat.reduceLT, Nat.reduceEqDiff, Nat.reduceAdd, Nat.reduceMul, Nat.reduceSub, forall_eq, true_and, and_true, not_true_eq_false, not_false_eq_true, false_implies, true_implies, implies_true, if_true, if_false, ite_self, forall_eq, n01, or_true]
    · rw [eM_in]
      simp (disch := first | assumption | omega | decide) only [ng_lt, ng_le, ng_gt, ng_ge, ng_eq, ng_qe, Nat.le_refl, Nat.reduceLeDiff, Nat.reduceLT, Nat.reduceEqDiff, Nat.reduceAdd, Nat.reduceMul, Nat.reduceSub, forall_eq, true_and, and_true, not_true_eq_false, not_false_eq_true, false_implies, true_implies, implies_true, if_true, if_false, ite_self]
  · by_cases h1 : j ≤ 1
    · refine Or.inl ⟨j, h1, rfl, fun σ Q => ?_, fun σ Q => ?_⟩
      · unfold wH_isNoEnd
        have : j = 0 ∨ j = 1 := by omega
        rcases this with rfl | rfl <;> simp (disch := first | assumption | omega | decide) only [nI_leI2, nI_ltI2, nI_eqI, nI_add, nI_sub, pk_mul, nI_clamp, vinT, Nat.add_sub_cancel, Nat.le_refl, Nat.reduceLeDiff, Nat.reduceLT, Nat.reduceEqDiff, Nat.reduceAdd, Nat.reduceMul, Nat.reduceSub, forall_eq, true_and, and_true, not_true_eq_false, not_false_eq_true, false_implies, true_implies, implies_true, if_true, if_false, ite_self, true_or]
      · rw [eM_in]
        have h2 : ¬ 1 < j := by omega
        simp (disch := first | assumption | omega | decide) only [nI_leI2, nI_ltI2, nI_eqI, nI_add, nI_sub, pk_mul, nI_clamp, vinT, Nat.add_sub_cancel, Nat.le_refl, Nat.reduceLeDiff, Nat.reduceLT, Nat.reduceEqDiff, Nat.reduceAdd, Nat.reduceMul, Nat.reduceSub, forall_eq, true_and, and_true, not_true_eq_false, not_false_eq_true, false_implies, true_implies, implies_true, if_true, if_false, ite_self, Nat.not_lt_zero, h2]
    · have h0 : ¬ j = 0 := by omega
      have h3 : ¬ j = 1 := by omega
      have h2 : 1 < j := by omega
      refine Or.inr ⟨fun σ Q => ?_, fun σ Q => ?_⟩
      · unfold wH_isNoEnd
        simp (disch := first | assumption | omega | decide) only [nI_leI2, nI_ltI2, nI_eqI, nI_add, nI_sub, pk_mul, nI_clamp, vinT, Nat.add_sub_cancel, Nat.le_refl, Nat.reduceLeDiff, Nat.reduceLT, Nat.reduceEqDiff, Nat.reduceAdd, Nat.reduceMul, Nat.reduceSub, forall_eq, true_and, and_true, not_true_eq_false, not_false_eq_true, false_implies, true_implies, implies_true, if_true, if_false, ite_self, h0, h3, or_true]
      · rw [eM_in]
        simp (disch := first | assumption | omega | decide) only [nI_leI2, nI_ltI2, nI_eqI, nI_add, nI_sub, pk_mul, nI_clamp, vinT, Nat.add_sub_cancel, Nat.le_refl, Nat.reduceLeDiff, Nat.reduceLT, Nat.reduceEqDiff, Nat.reduceAdd, Nat.reduceMul, Nat.reduceSub, forall_eq, true_and, and_true, not_true_eq_false, not_false_eq_true, false_implies, true_implies, implies_true, if_true, if_false, ite_self, Nat.not_lt_zero, h2]
theorem s_putH {σ : gM} {e nl : Nat} {x : Int32} (he : e ≤ 1) (hl : nl < 16) (h5 : σ 42 5 = nI nl) {Q : gM → Prop} (hQ : ∀ σ', (∀ c, c ≠ 42 → c ≠ 51 → σ' c = σ c) → (∀ j, j ≠ 5 → σ' 42 j = σ 42 j) → σ' 42 5 = nI (nl + 1) → (∀ i, i ≤ nl → σ' 51 i = if e = 0 then (if i = 0 then x else σ 51 (i - 1)) else (if i = nl then x else σ 51 i)) → Q σ') : wK42_putAt (nI e) x σ Q := by
  have q1 : 1 + nl ≤ 16 := by omega
  have q0 : 0 + nl ≤ 16 := by omega
  unfold wK42_putAt
  by_cases q : e = 0
  · subst q
    simp (disch := first | assumption | omega | decide) only [nI_leI2, nI_ltI2, nI_eqI, nI_add, nI_sub, pk_mul, nI_clamp, vinT, Nat.add_sub_cancel, Nat.le_refl, Nat.reduceLeDiff, Nat.reduceLT, Nat.reduceEqDiff, Nat.reduceAdd, Nat.reduceMul, Nat.reduceSub, forall_eq, true_and, and_true, not_true_eq_false, not_false_eq_true, false_implies, true_implies, implies_true, if_true, if_false, ite_self, h5, Nat.not_lt_zero, Nat.lt_irrefl, q0, q1, gU_ne, gCp_ne, and_self]
    refine hQ _ (fun c c1 c2 => by rw [gU_ne c1, gU_ne c2, gCp_ne c2]) (fun j hj => by rw [gU_off hj, gU_ne (by omega), gCp_ne (by omega)]) gU_eq (fun i hi => ?_)
    rw [gU_ne (by omega)]
    simp only [if_true]
    by_cases q2 : i = 0
    · rw [q2, gU_eq, if_pos rfl]
    · rw [gU_off q2, if_neg q2, gCp_in (by omega) (by omega), Nat.zero_add]
  · simp (disch := first | assumption | omega | decide) only [nI_leI2, nI_ltI2, nI_eqI, nI_add, nI_sub, pk_mul, nI_clamp, vinT, Nat.add_sub_cancel, Nat.le_refl, Nat.reduceLeDiff, Nat.reduceLT, Nat.reduceEqDiff, Nat.reduceAdd, Nat.reduceMul, Nat.reduceSub, forall_eq, true_and, and_true, not_true_eq_false, not_false_eq_true, false_implies, true_implies, implies_true, if_true, if_false, ite_self, h5, q, gU_ne]
    refine hQ _ (fun c c1 c2 => by rw [gU_ne c1, gU_ne c2]) (fun j hj => by rw [gU_off hj, gU_ne (by omega)]) gU_eq (fun i hi => ?_)
    rw [gU_ne (by omega), if_neg q]
    by_cases q2 : i = nl
    · rw [q2, gU_eq, if_pos rfl]
    · rw [gU_off q2, if_neg q2]
theorem s_removeH {σ : gM} {e nl : Nat} (he : e ≤ 1) (hl : nl ≤ 16) (hp : 1 ≤ nl) (h5 : σ 42 5 = nI nl) {Q : gM → Prop} (hQ : ∀ σ', (∀ c, c ≠ 42 → c ≠ 51 → σ' c = σ c) → (∀ j, j ≠ 5 → σ' 42 j = σ 42 j) → σ' 42 5 = nI (nl - 1) → (∀ i, i < nl - 1 → σ' 51 i = σ 51 (if e = 0 then i + 1 else i)) → Q σ') : wK42_removeAt (nI e) σ Q := by
  have q1 : 1 + (nl - 1) ≤ 16 := by omega
  have q0 : 0 + (nl - 1) ≤ 16 := by omega
  unfold wK42_removeAt
  by_cases q : e = 0
  · subst q
    simp (disch := first | assumption | omega | decide) only [nI_leI2, nI_ltI2, nI_eqI, nI_add, nI_sub, pk_mul, nI_clamp, vinT, Nat.add_sub_cancel, Nat.le_refl, Nat.reduceLeDiff, Nat.reduceLT, Nat.reduceEqDiff, Nat.reduceAdd, Nat.reduceMul, Nat.reduceSub, forall_eq, true_and, and_true, not_true_eq_false, not_false_eq_true, false_implies, true_implies, implies_true, if_true, if_false, ite_self, h5, gU_eq, Nat.not_lt_zero, Nat.lt_irrefl, q0, q1, and_self]
    refine hQ _ (fun c c1 c2 => by rw [gCp_ne c2, gU_ne c1]) (fun j hj => by rw [gCp_ne (by omega), gU_off hj]) (by rw [gCp_ne (by omega), gU_eq]) (fun i hi => ?_)
    rw [gCp_in (by omega) (by omega), gU_ne (by omega), if_pos rfl, Nat.sub_zero, Nat.add_comm]
  · simp (disch := first | assumption | omega | decide) only [nI_leI2, nI_ltI2, nI_eqI, nI_add, nI_sub, pk_mul, nI_clamp, vinT, Nat.add_sub_cancel, Nat.le_refl, Nat.reduceLeDiff, Nat.reduceLT, Nat.reduceEqDiff, Nat.reduceAdd, Nat.reduceMul, Nat.reduceSub, forall_eq, true_and, and_true, not_true_eq_false, not_false_eq_true, false_implies, true_implies, implies_true, if_true, if_false, ite_self, h5, gU_eq, q]
    refine hQ _ (fun c c1 c2 => gU_ne c1) (fun j hj => gU_off hj) gU_eq (fun i hi => ?_)
    rw [gU_ne (by omega), if_neg q]
def ptN (N : Nat → Int32) (e nl : Nat) (x : Int32) : Nat → Int32 := fun j => if j = 5 then nI (nl + 1) else if e = 0 then (if j = 86 then x else if 86 < j ∧ j ≤ 86 + nl then N (j - 1) else N j) else if j = 86 + nl then x else N j
def tkN (N : Nat → Int32) (e nl : Nat) : Nat → Int32 := fun j => if j = 5 then nI (nl - 1) else if e = 0 ∧ 86 ≤ j ∧ j < 86 + (nl - 1) then N (j + 1) else N j
theorem ptN_lo {N : Nat → Int32} {e nl j : Nat} {x : Int32} (h5 : j ≠ 5) (h : j < 86) : ptN N e nl x j = N j := by
  unfold ptN
  rw [if_neg h5, if_neg (c := j = 86) (by omega), if_neg (c := 86 < j ∧ j ≤ 86 + nl) (by omega), if_neg (c := j = 86 + nl) (by omega), ite_self]
theorem ptN_5 {N : Nat → Int32} {e nl : Nat} {x : Int32} : ptN N e nl x 5 = nI (nl + 1) := by unfold ptN; rw [if_pos rfl]
theorem ptN_h {N : Nat → Int32} {e nl i : Nat} {x : Int32} (hi : i ≤ nl) : ptN N e nl x (86 + i) = if e = 0 then (if i = 0 then x else N (86 + (i - 1))) else (if i = nl then x else N (86 + i)) := by
  unfold ptN
  rw [if_neg (by omega)]
  by_cases q : e = 0
  · rw [if_pos q, if_pos q]
    by_cases q2 : i = 0
    · rw [if_pos (by omega), if_pos q2]
    · rw [if_neg (by omega), if_neg q2, if_pos (by omega), show 86 + i - 1 = 86 + (i - 1) by omega]
  · rw [if_neg q, if_neg q]
    by_cases q2 : i = nl
    · rw [if_pos (by omega), if_pos q2]
    · rw [if_neg (by omega), if_neg q2]
theorem tkN_lo {N : Nat → Int32} {e nl j : Nat} (h5 : j ≠ 5) (h : j < 86) : tkN N e nl j = N j := by
  unfold tkN
  rw [if_neg h5, if_neg (by omega)]
theorem tkN_5 {N : Nat → Int32} {e nl : Nat} : tkN N e nl 5 = nI (nl - 1) := by unfold tkN; rw [if_pos rfl]
theorem tkN_h {N : Nat → Int32} {e nl i : Nat} (hi : i < nl - 1) : tkN N e nl (86 + i) = N (86 + if e = 0 then i + 1 else i) := by
  unfold tkN
  rw [if_neg (by omega)]
  by_cases q : e = 0
  · rw [if_pos ⟨q, by omega, by omega⟩, if_pos q]
    rfl
  · rw [if_neg (fun z => q z.1), if_neg q]
theorem s_putM_b {σ : gM} {e nl : Nat} {x : Int32} (he : e ≤ 1) (hl : nl < 16) (h5 : σ 89 5 = nI nl) {Q : gM → Prop} (hQ : Q (gU (gU σ 89 (if e = 0 then 86 else 86 + nl) x) 89 5 (nI (nl + 1)))) : wM_putAt_b37 Q (nI e) x σ := by
  unfold wM_putAt_b37
  by_cases q : e = 0
  · rw [if_pos q] at hQ
    subst q
    simp (disch := first | assumption | omega | decide) only [nI_leI2, nI_ltI2, nI_eqI, nI_add, nI_sub, pk_mul, nI_clamp, vinT, Nat.add_sub_cancel, Nat.le_refl, Nat.reduceLeDiff, Nat.reduceLT, Nat.reduceEqDiff, Nat.reduceAdd, Nat.reduceMul, Nat.reduceSub, forall_eq, true_and, and_true, not_true_eq_false, not_false_eq_true, false_implies, true_implies, implies_true, if_true, if_false, ite_self, gU_off, h5]
    exact hQ
  · rw [if_neg q] at hQ
    simp (disch := first | assumption | omega | decide) only [nI_leI2, nI_ltI2, nI_eqI, nI_add, nI_sub, pk_mul, nI_clamp, vinT, Nat.add_sub_cancel, Nat.le_refl, Nat.reduceLeDiff, Nat.reduceLT, Nat.reduceEqDiff, Nat.reduceAdd, Nat.reduceMul, Nat.reduceSub, forall_eq, true_and, and_true, not_true_eq_false, not_false_eq_true, false_implies, true_implies, implies_true, if_true, if_false, ite_self, q, gU_off, h5]
    exact hQ
theorem s_putM_l {σ0 : gM} {nl : Nat} {x : Int32} (hl : nl < 16) (h5 : σ0 89 5 = nI nl) {Q : gM → Prop} (hQ : ∀ σ', (∀ c, c ≠ 89 → σ' c = σ0 c) → σ' 89 = ptN (σ0 89) 0 nl x → Q σ') : ∀ (m : Nat) (σ : gM), m ≤ nl → (∀ c, c ≠ 89 → σ c = σ0 c) → (∀ j, σ 89 j = if 86 + m < j ∧ j ≤ 86 + nl then σ0 89 (j - 1) else σ0 89 j) → wM_putAt_l11 Q (m + 1) (nI 0) x (nI m) σ := by
  intro m
  induction m with
  | zero =>
    intro σ hm hF h
    have e5 : σ 89 5 = nI nl := by rw [h 5, if_neg (by omega)]; exact h5
    rw [wM_putAt_l11]
    simp (disch := first | assumption | omega | decide) only [nI_leI2, Nat.le_refl, Nat.reduceLeDiff, Nat.reduceLT, Nat.reduceEqDiff, Nat.reduceAdd, Nat.reduceMul, Nat.reduceSub, forall_eq, true_and, and_true, not_true_eq_false, not_false_eq_true, false_implies, true_implies, implies_true, if_true, if_false, ite_self]
    refine s_putM_b (by omega) hl e5 (hQ _ (fun c hc => by rw [gU_ne hc, gU_ne hc]; exact hF c hc) ?_)
    funext j
    unfold ptN
    simp only [if_true]
    by_cases q5 : j = 5
    · rw [if_pos q5, q5, gU_eq]
    · rw [if_neg q5, gU_off q5]
      by_cases q6 : j = 86
      · rw [if_pos q6, q6, gU_eq]
      · rw [if_neg q6, gU_off q6, h j, Nat.add_zero]
  | succ m ih =>
    intro σ hm hF h
    have q : ¬ m + 1 ≤ 0 := by omega
    rw [wM_putAt_l11]
    simp (disch := first | assumption | omega | decide) only [nI_leI2, nI_ltI2, nI_eqI, nI_add, nI_sub, pk_mul, nI_clamp, vinT, Nat.add_sub_cancel, Nat.le_refl, Nat.reduceLeDiff, Nat.reduceLT, Nat.reduceEqDiff, Nat.reduceAdd, Nat.reduceMul, Nat.reduceSub, forall_eq, true_and, and_true, not_true_eq_false, not_false_eq_true, false_implies, true_implies, implies_true, if_true, if_false, ite_self, q, eM_heap, add_m1]
    refine ih _ (by omega) (fun c hc => by rw [gU_ne hc]; exact hF c hc) (fun j => ?_)
    by_cases e : j = 86 + (m + 1)
    · rw [e, gU_eq, h, if_neg (by omega), if_pos (by omega), show 86 + (m + 1) - 1 = 86 + m by omega]
    · rw [gU_off e, h j]
      by_cases q2 : 86 + (m + 1) < j ∧ j ≤ 86 + nl
      · rw [if_pos q2, if_pos (by omega)]
      · rw [if_neg q2, if_neg (by omega)]
theorem s_putM {σ : gM} {e nl : Nat} {x : Int32} (he : e ≤ 1) (hl : nl < 16) (h5 : σ 89 5 = nI nl) {Q : gM → Prop} (hQ : ∀ σ', (∀ c, c ≠ 89 → σ' c = σ c) → σ' 89 = ptN (σ 89) e nl x → Q σ') : wM_putAt (nI e) x σ Q := by
  unfold wM_putAt
  by_cases q : e = 0
  · subst q
    simp only [forall_eq, h5, Nat.le_refl, Nat.reduceLeDiff, Nat.reduceLT, Nat.reduceEqDiff, Nat.reduceAdd, Nat.reduceMul, Nat.reduceSub, forall_eq, true_and, and_true, not_true_eq_false, not_false_eq_true, false_implies, true_implies, implies_true, if_true, if_false, ite_self]
    exact ⟨nl + 1, s_putM_l hl h5 hQ nl σ (Nat.le_refl _) (fun _ _ => rfl) (fun j => by rw [if_neg (by omega)])⟩
  · simp (disch := first | assumption | omega | decide) only [nI_eqI, q, Nat.le_refl, Nat.reduceLeDiff, Nat.reduceLT, Nat.reduceEqDiff, Nat.reduceAdd, Nat.reduceMul, Nat.reduceSub, forall_eq, true_and, and_true, not_true_eq_false, not_false_eq_true, false_implies, true_implies, implies_true, if_true, if_false, ite_self]
    refine s_putM_b he hl h5 (hQ _ (fun c hc => by rw [gU_ne hc, gU_ne hc]) ?_)
    funext j
    unfold ptN
    by_cases q5 : j = 5
    · rw [if_pos q5, q5, gU_eq]
    · rw [if_neg q5, gU_off q5, if_neg q, if_neg q]
      by_cases q6 : j = 86 + nl
      · rw [if_pos q6, q6, gU_eq]
      · rw [if_neg q6, gU_off q6]
theorem s_takeAtM_l {σ0 : gM} {nl : Nat} {x : Int32} (hl : nl ≤ 16) (hp : 1 ≤ nl) {Q : Int32 → gM → Prop} (hQ : ∀ σ', (∀ c, c ≠ 89 → σ' c = σ0 c) → σ' 89 = tkN (σ0 89) 0 nl → Q x σ') : ∀ (m i : Nat) (σ : gM), i + m = nl - 1 → (∀ c, c ≠ 89 → σ c = σ0 c) → (∀ j, σ 89 j = if j = 5 then nI (nl - 1) else if 86 ≤ j ∧ j < 86 + i then σ0 89 (j + 1) else σ0 89 j) → wM_takeAt_l33 Q (m + 1) (nI 0) x (nI i) σ := by
  intro m
  induction m with
  | zero =>
    intro i σ hi hF h
    have e5 : σ 89 5 = nI (nl - 1) := by rw [h 5, if_pos rfl]
    have q : nl - 1 ≤ i := by omega
    rw [wM_takeAt_l33]
    simp (disch := first | assumption | omega | decide) only [e5, nI_leI2, q, Nat.le_refl, Nat.reduceLeDiff, Nat.reduceLT, Nat.reduceEqDiff, Nat.reduceAdd, Nat.reduceMul, Nat.reduceSub, forall_eq, true_and, and_true, not_true_eq_false, not_false_eq_true, false_implies, true_implies, implies_true, if_true, if_false, ite_self]
    refine hQ σ hF ?_
    funext j
    rw [h j]
    unfold tkN
    have : i = nl - 1 := by omega
    subst this
    simp only [true_and]
  | succ m ih =>
    intro i σ hi hF h
    have e5 : σ 89 5 = nI (nl - 1) := by rw [h 5, if_pos rfl]
    have q : ¬ nl - 1 ≤ i := by omega
    rw [wM_takeAt_l33]
    simp (disch := first | assumption | omega | decide) only [nI_leI2, nI_ltI2, nI_eqI, nI_add, nI_sub, pk_mul, nI_clamp, vinT, Nat.add_sub_cancel, Nat.le_refl, Nat.reduceLeDiff, Nat.reduceLT, Nat.reduceEqDiff, Nat.reduceAdd, Nat.reduceMul, Nat.reduceSub, forall_eq, true_and, and_true, not_true_eq_false, not_false_eq_true, false_implies, true_implies, implies_true, if_true, if_false, ite_self, e5, q, eM_heap]
    refine ih (i + 1) _ (by omega) (fun c hc => by rw [gU_ne hc]; exact hF c hc) (fun j => ?_)
    by_cases e : j = 86 + i
    · rw [e, gU_eq, h, if_neg (by omega), if_neg (by omega), if_neg (by omega), if_pos (by omega)]
      rfl
    · rw [gU_off e, h j]
      by_cases q5 : j = 5
      · rw [if_pos q5, if_pos q5]
      · rw [if_neg q5, if_neg q5]
        by_cases q2 : 86 ≤ j ∧ j < 86 + i
        · rw [if_pos q2, if_pos (by omega)]
        · rw [if_neg q2, if_neg (by omega)]
theorem s_takeAtM {σ : gM} {e nl : Nat} (he : e ≤ 1) (hl : nl ≤ 16) (hp : 1 ≤ nl) (h5 : σ 89 5 = nI nl) {Q : Int32 → gM → Prop} (hQ : ∀ σ', (∀ c, c ≠ 89 → σ' c = σ c) → σ' 89 = tkN (σ 89) e nl → Q (σ 89 (86 + if e = 0 then 0 else nl - 1)) σ') : wM_takeAt (nI e) σ Q := by
  have hev : (if nI e = nI 0 then nI 0 else nI nl - nI 1) = nI (if e = 0 then 0 else nl - 1) := by
    rw [ifE he, nI_sub hp]
    split <;> rfl
  have hlt : (if e = 0 then 0 else nl - 1) < 16 := by split <;> omega
  unfold wM_takeAt
  simp only [forall_eq, h5, hev]
  rw [eM_heap hlt]
  by_cases q : e = 0
  · subst q
    simp (disch := first | assumption | omega | decide) only [nI_sub]
    refine ⟨nl - 1 + 1, s_takeAtM_l (σ0 := σ) hl hp (hQ) (nl - 1) 0 _ (by omega) (fun c hc => gU_ne hc) (fun j => ?_)⟩
    by_cases q5 : j = 5
    · rw [if_pos q5, q5, gU_eq, h5, nI_sub hp]
    · rw [if_neg q5, gU_off q5, if_neg (by omega)]
  · refine ⟨1, ?_⟩
    have key : ∀ σ', (∀ c, c ≠ 89 → σ' c = σ c) → σ' 89 = tkN (σ 89) e nl → wM_takeAt_l33 Q 1 (nI e) (σ 89 (86 + if e = 0 then 0 else nl - 1)) (nI 0) σ' := fun σ' f1 f2 => by
      rw [wM_takeAt_l33]
      simp (disch := first | assumption | omega | decide) only [nI_eqI, q, Nat.le_refl, Nat.reduceLeDiff, Nat.reduceLT, Nat.reduceEqDiff, Nat.reduceAdd, Nat.reduceMul, Nat.reduceSub, forall_eq, true_and, and_true, not_true_eq_false, not_false_eq_true, false_implies, true_implies, implies_true, if_true, if_false, ite_self]
      have hh := hQ σ' f1 f2
      rw [if_neg q] at hh
      exact ⟨fun _ => hh, fun _ => hh⟩
    refine key _ (fun c hc => gU_ne hc) ?_
    funext j
    unfold tkN
    by_cases q5 : j = 5
    · rw [if_pos q5, q5, gU_eq, h5, nI_sub hp]
    · rw [if_neg q5, gU_off q5, if_neg (fun z => q z.1)]
