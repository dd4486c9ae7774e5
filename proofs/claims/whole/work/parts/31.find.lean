/-! WHAT IS FOUND OF A ROW'S PLACES -/
/-- both say the same of n places from i on -/
def pFind (σ : gM) (r : Nat) (i : Int32) (n : Nat) (c : Nat) : Prop := c ≤ 2 ∧ (∀ Q, wH_findingOf (nI r) i (nI n) σ Q = Q (nI c) σ) ∧ (∀ τ Q, τ 83 = σ 83 → τ 84 = σ 84 → wM_whyNot (nI r) i (nI n) τ Q = Q (nI c) τ) ∧ (c = 0 → ∃ i' : Nat, i = nI i' ∧ i' + n ≤ 40 ∧ ∀ t, t < n → σ (2 + 2 * r + 1) (i' + t) = σ 85 (40 * r + i' + t))
theorem e_find {σ : gM} (h : pRows σ) {r : Nat} (hr : r < 8) (i : Int32) {n : Nat} (hn : n < 2147483648) : ∃ c, pFind σ r i n c := by
  have n01 : ¬ nI 1 = nI 0 := by decide
  rcases pRows_at h hr with ⟨q1, q2⟩ | ⟨q1, l, m, q2, q3, q4, q5, q6, q7, q8⟩
  · refine ⟨1, by omega, fun Q => ?_, fun τ Q h1 h2 => ?_, fun z => absurd z (by omega)⟩
    · unfold wH_findingOf
      simp (disch := first | assumption | omega | decide) only [li0, li1, li2, li3, li4, li5, li6, li7, li8, li9, li10, li11, li12, li13, li14, li16, li17, li20, li21, li22, li23, li24, li30, li32, li40, li48, li57, li59, li63, li86, li97, li99, li100, li102, li115, li122, li200, li255, li289, li320, li400, li720, li999, li1000, nI_add, pk_mul, nI_sub, nI_clamp, vinT, Nat.le_refl, Nat.reduceLeDiff, Nat.reduceLT, Nat.reduceEqDiff, Nat.reduceAdd, Nat.reduceMul, Nat.reduceSub, forall_eq, true_and, and_true, not_true_eq_false, not_false_eq_true, false_implies, true_implies, implies_true, if_true, if_false, ite_self, nI_eqI, nI_leI2, nI_ltI2, q1]
    · have q3 := ng_nle q2
      unfold wM_whyNot
      simp (disch := first | assumption | omega | decide) only [li0, li1, li2, li3, li4, li5, li6, li7, li8, li9, li10, li11, li12, li13, li14, li16, li17, li20, li21, li22, li23, li24, li30, li32, li40, li48, li57, li59, li63, li86, li97, li99, li100, li102, li115, li122, li200, li255, li289, li320, li400, li720, li999, li1000, nI_add, pk_mul, nI_sub, nI_clamp, vinT, Nat.le_refl, Nat.reduceLeDiff, Nat.reduceLT, Nat.reduceEqDiff, Nat.reduceAdd, Nat.reduceMul, Nat.reduceSub, forall_eq, true_and, and_true, not_true_eq_false, not_false_eq_true, false_implies, true_implies, implies_true, if_true, if_false, ite_self, nI_eqI, nI_leI2, nI_ltI2, eM_isNull, h1, q3]
  · rcases i_nat i with hi | ⟨i', hi, rfl⟩
    · refine ⟨2, by omega, fun Q => ?_, fun τ Q h1 h2 => ?_, fun z => absurd z (by omega)⟩
      · unfold wH_findingOf
        have : pRch i (nI n) (nI m) = false := by
          unfold pRch
          simp [hi]
        simp (disch := first | assumption | omega | decide) only [li0, li1, li2, li3, li4, li5, li6, li7, li8, li9, li10, li11, li12, li13, li14, li16, li17, li20, li21, li22, li23, li24, li30, li32, li40, li48, li57, li59, li63, li86, li97, li99, li100, li102, li115, li122, li200, li255, li289, li320, li400, li720, li999, li1000, nI_add, pk_mul, nI_sub, nI_clamp, vinT, Nat.le_refl, Nat.reduceLeDiff, Nat.reduceLT, Nat.reduceEqDiff, Nat.reduceAdd, Nat.reduceMul, Nat.reduceSub, forall_eq, true_and, and_true, not_true_eq_false, not_false_eq_true, false_implies, true_implies, implies_true, if_true, if_false, ite_self, nI_eqI, nI_leI2, nI_ltI2, q1, eR_reaches q6, this, Bool.false_eq_true]
      · unfold wM_whyNot
        simp (disch := first | assumption | omega | decide) only [li0, li1, li2, li3, li4, li5, li6, li7, li8, li9, li10, li11, li12, li13, li14, li16, li17, li20, li21, li22, li23, li24, li30, li32, li40, li48, li57, li59, li63, li86, li97, li99, li100, li102, li115, li122, li200, li255, li289, li320, li400, li720, li999, li1000, nI_add, pk_mul, nI_sub, nI_clamp, vinT, Nat.le_refl, Nat.reduceLeDiff, Nat.reduceLT, Nat.reduceEqDiff, Nat.reduceAdd, Nat.reduceMul, Nat.reduceSub, forall_eq, true_and, and_true, not_true_eq_false, not_false_eq_true, false_implies, true_implies, implies_true, if_true, if_false, ite_self, nI_eqI, nI_leI2, nI_ltI2, eM_isNull, h1, q5, hi, Nat.zero_le]
    · by_cases hm : i' + n ≤ m
      · refine ⟨0, by omega, fun Q => ?_, fun τ Q h1 h2 => ?_, fun _ => ⟨i', rfl, by omega, fun t ht => ?_⟩⟩
        · unfold wH_findingOf
          simp (disch := first | assumption | omega | decide) only [li0, li1, li2, li3, li4, li5, li6, li7, li8, li9, li10, li11, li12, li13, li14, li16, li17, li20, li21, li22, li23, li24, li30, li32, li40, li48, li57, li59, li63, li86, li97, li99, li100, li102, li115, li122, li200, li255, li289, li320, li400, li720, li999, li1000, nI_add, pk_mul, nI_sub, nI_clamp, vinT, Nat.le_refl, Nat.reduceLeDiff, Nat.reduceLT, Nat.reduceEqDiff, Nat.reduceAdd, Nat.reduceMul, Nat.reduceSub, forall_eq, true_and, and_true, not_true_eq_false, not_false_eq_true, false_implies, true_implies, implies_true, if_true, if_false, ite_self, nI_eqI, nI_leI2, nI_ltI2, q1, eR_reaches q6, pRch_iff q3 hi hn, hm, decide_true]
        · unfold wM_whyNot
          simp (disch := first | assumption | omega | decide) only [eM_isNull, h1, q5, h2, nI_clamp, q7, le_sub, vinT]
          simp (disch := first | assumption | omega | decide) only [li0, li1, li2, li3, li4, li5, li6, li7, li8, li9, li10, li11, li12, li13, li14, li16, li17, li20, li21, li22, li23, li24, li30, li32, li40, li48, li57, li59, li63, li86, li97, li99, li100, li102, li115, li122, li200, li255, li289, li320, li400, li720, li999, li1000, nI_add, pk_mul, nI_sub, nI_clamp, vinT, Nat.le_refl, Nat.reduceLeDiff, Nat.reduceLT, Nat.reduceEqDiff, Nat.reduceAdd, Nat.reduceMul, Nat.reduceSub, forall_eq, true_and, and_true, not_true_eq_false, not_false_eq_true, false_implies, true_implies, implies_true, if_true, if_false, ite_self, nI_eqI, nI_leI2, nI_ltI2, hm, Nat.not_lt_zero, Nat.zero_le]
        · rw [q8 _ (by omega), Nat.add_assoc]
      · refine ⟨2, by omega, fun Q => ?_, fun τ Q h1 h2 => ?_, fun z => absurd z (by omega)⟩
        · unfold wH_findingOf
          simp (disch := first | assumption | omega | decide) only [li0, li1, li2, li3, li4, li5, li6, li7, li8, li9, li10, li11, li12, li13, li14, li16, li17, li20, li21, li22, li23, li24, li30, li32, li40, li48, li57, li59, li63, li86, li97, li99, li100, li102, li115, li122, li200, li255, li289, li320, li400, li720, li999, li1000, nI_add, pk_mul, nI_sub, nI_clamp, vinT, Nat.le_refl, Nat.reduceLeDiff, Nat.reduceLT, Nat.reduceEqDiff, Nat.reduceAdd, Nat.reduceMul, Nat.reduceSub, forall_eq, true_and, and_true, not_true_eq_false, not_false_eq_true, false_implies, true_implies, implies_true, if_true, if_false, ite_self, nI_eqI, nI_leI2, nI_ltI2, q1, eR_reaches q6, pRch_iff q3 hi hn, hm, decide_false, Bool.false_eq_true]
        · unfold wM_whyNot
          simp (disch := first | assumption | omega | decide) only [eM_isNull, h1, q5, h2, nI_clamp, q7, le_sub, vinT]
          simp (disch := first | assumption | omega | decide) only [li0, li1, li2, li3, li4, li5, li6, li7, li8, li9, li10, li11, li12, li13, li14, li16, li17, li20, li21, li22, li23, li24, li30, li32, li40, li48, li57, li59, li63, li86, li97, li99, li100, li102, li115, li122, li200, li255, li289, li320, li400, li720, li999, li1000, nI_add, pk_mul, nI_sub, nI_clamp, vinT, Nat.le_refl, Nat.reduceLeDiff, Nat.reduceLT, Nat.reduceEqDiff, Nat.reduceAdd, Nat.reduceMul, Nat.reduceSub, forall_eq, true_and, and_true, not_true_eq_false, not_false_eq_true, false_implies, true_implies, implies_true, if_true, if_false, ite_self, nI_eqI, nI_leI2, nI_ltI2, hm, Nat.not_lt_zero, Nat.zero_le]
section Below
variable {r i n c : Nat} {it : Nat → Int32} {σ : gM}
theorem s_below_yes {Q : Int32 → gM → Prop} (hin : i + n ≤ 40) (hit : ∀ t, t < n → σ (2 + 2 * r + 1) (i + t) = it t) (hQ : Q (nI 1) σ) : ∀ (m t : Nat), t + m = n → (∀ s, t ≤ s → s < n → pB (it s) c = nI 1) → wR_isBelow_l3 r Q (m + 1) (nI c) (nI i) (nI n) (nI (i + t)) σ := by
  intro m
  induction m with
  | zero =>
    intro t ht _
    have : t = n := by omega
    subst this
    rw [wR_isBelow_l3]
    simp (disch := first | assumption | omega | decide) only [li0, li1, li2, li3, li4, li5, li6, li7, li8, li9, li10, li11, li12, li13, li14, li16, li17, li20, li21, li22, li23, li24, li30, li32, li40, li48, li57, li59, li63, li86, li97, li99, li100, li102, li115, li122, li200, li255, li289, li320, li400, li720, li999, li1000, nI_add, pk_mul, nI_sub, nI_clamp, vinT, Nat.le_refl, Nat.reduceLeDiff, Nat.reduceLT, Nat.reduceEqDiff, Nat.reduceAdd, Nat.reduceMul, Nat.reduceSub, forall_eq, true_and, and_true, not_true_eq_false, not_false_eq_true, false_implies, true_implies, implies_true, if_true, if_false, ite_self, nI_eqI, nI_leI2, nI_ltI2]
    exact hQ
  | succ m ih =>
    intro t ht ha
    have h1 : ¬ i + n ≤ i + t := by omega
    have hb := ha t (Nat.le_refl _) (by omega)
    have h2 : ¬ it t < nI 0 := fun q => by rw [pB_ng q] at hb; exact absurd hb (by decide)
    have h3 : it t < nI c := by
      unfold pB at hb
      rw [if_neg h2] at hb
      by_cases q : it t < nI c
      · exact q
      · rw [if_neg q] at hb; exact absurd hb (by decide)
    rw [wR_isBelow_l3]
    simp (disch := first | assumption | omega | decide) only [li0, li1, li2, li3, li4, li5, li6, li7, li8, li9, li10, li11, li12, li13, li14, li16, li17, li20, li21, li22, li23, li24, li30, li32, li40, li48, li57, li59, li63, li86, li97, li99, li100, li102, li115, li122, li200, li255, li289, li320, li400, li720, li999, li1000, nI_add, pk_mul, nI_sub, nI_clamp, vinT, Nat.le_refl, Nat.reduceLeDiff, Nat.reduceLT, Nat.reduceEqDiff, Nat.reduceAdd, Nat.reduceMul, Nat.reduceSub, forall_eq, true_and, and_true, not_true_eq_false, not_false_eq_true, false_implies, true_implies, implies_true, if_true, if_false, ite_self, nI_eqI, nI_leI2, nI_ltI2, h1, hit, h2, h3]
    exact ih (t + 1) (by omega) (fun s hs => ha s (by omega))
theorem s_below_no {Q : Int32 → gM → Prop} (hin : i + n ≤ 40) (hit : ∀ t, t < n → σ (2 + 2 * r + 1) (i + t) = it t) (hQ : Q (nI 0) σ) : ∀ (m t : Nat), t + m = n → (∃ s, t ≤ s ∧ s < n ∧ pB (it s) c ≠ nI 1) → wR_isBelow_l3 r Q (m + 1) (nI c) (nI i) (nI n) (nI (i + t)) σ := by
  intro m
  induction m with
  | zero =>
    intro t ht hx
    obtain ⟨s, a, b, -⟩ := hx
    exact absurd b (by omega)
  | succ m ih =>
    intro t ht hx
    have h1 : ¬ i + n ≤ i + t := by omega
    rw [wR_isBelow_l3]
    by_cases h2 : it t < nI 0
    · simp (disch := first | assumption | omega | decide) only [li0, li1, li2, li3, li4, li5, li6, li7, li8, li9, li10, li11, li12, li13, li14, li16, li17, li20, li21, li22, li23, li24, li30, li32, li40, li48, li57, li59, li63, li86, li97, li99, li100, li102, li115, li122, li200, li255, li289, li320, li400, li720, li999, li1000, nI_add, pk_mul, nI_sub, nI_clamp, vinT, Nat.le_refl, Nat.reduceLeDiff, Nat.reduceLT, Nat.reduceEqDiff, Nat.reduceAdd, Nat.reduceMul, Nat.reduceSub, forall_eq, true_and, and_true, not_true_eq_false, not_false_eq_true, false_implies, true_implies, implies_true, if_true, if_false, ite_self, nI_eqI, nI_leI2, nI_ltI2, h1, hit, h2]
      exact hQ
    · by_cases h3 : it t < nI c
      · simp (disch := first | assumption | omega | decide) only [li0, li1, li2, li3, li4, li5, li6, li7, li8, li9, li10, li11, li12, li13, li14, li16, li17, li20, li21, li22, li23, li24, li30, li32, li40, li48, li57, li59, li63, li86, li97, li99, li100, li102, li115, li122, li200, li255, li289, li320, li400, li720, li999, li1000, nI_add, pk_mul, nI_sub, nI_clamp, vinT, Nat.le_refl, Nat.reduceLeDiff, Nat.reduceLT, Nat.reduceEqDiff, Nat.reduceAdd, Nat.reduceMul, Nat.reduceSub, forall_eq, true_and, and_true, not_true_eq_false, not_false_eq_true, false_implies, true_implies, implies_true, if_true, if_false, ite_self, nI_eqI, nI_leI2, nI_ltI2, h1, hit, h2, h3]
        refine ih (t + 1) (by omega) ?_
        obtain ⟨s, a, b, d⟩ := hx
        refine ⟨s, ?_, b, d⟩
        rcases Nat.eq_or_lt_of_le a with e | e
        · subst e
          exfalso
          refine d ?_
          unfold pB
          rw [if_neg h2, if_pos h3]
        · exact e
      · simp (disch := first | assumption | omega | decide) only [li0, li1, li2, li3, li4, li5, li6, li7, li8, li9, li10, li11, li12, li13, li14, li16, li17, li20, li21, li22, li23, li24, li30, li32, li40, li48, li57, li59, li63, li86, li97, li99, li100, li102, li115, li122, li200, li255, li289, li320, li400, li720, li999, li1000, nI_add, pk_mul, nI_sub, nI_clamp, vinT, Nat.le_refl, Nat.reduceLeDiff, Nat.reduceLT, Nat.reduceEqDiff, Nat.reduceAdd, Nat.reduceMul, Nat.reduceSub, forall_eq, true_and, and_true, not_true_eq_false, not_false_eq_true, false_implies, true_implies, implies_true, if_true, if_false, ite_self, nI_eqI, nI_leI2, nI_ltI2, h1, hit, h2, h3]
        exact hQ
theorem s_below {Q : Int32 → gM → Prop} (hin : i + n ≤ 40) (hit : ∀ t, t < n → σ (2 + 2 * r + 1) (i + t) = it t) (h1 : (∀ s, s < n → pB (it s) c = nI 1) → Q (nI 1) σ) (h0 : (∃ s, s < n ∧ pB (it s) c ≠ nI 1) → Q (nI 0) σ) : wR_isBelow r (nI c) (nI i) (nI n) σ Q := by
  unfold wR_isBelow
  by_cases ha : ∀ s, s < n → pB (it s) c = nI 1
  · exact ⟨n + 1, s_below_yes hin hit (h1 ha) n 0 (by omega) (fun s _ hs => ha s hs)⟩
  · have ⟨s, hs⟩ := Classical.not_forall.mp ha
    have ⟨a, b⟩ := Classical.not_imp.mp hs
    exact ⟨n + 1, s_below_no hin hit (h0 ⟨s, a, b⟩) n 0 (by omega) ⟨s, by omega, a, b⟩⟩
theorem s_judge_yes {Q : Int32 → gM → Prop} (hr : r < 8) (hin : i + n ≤ 40) (hc : σ 89 3 = nI c) (hc16 : c ≤ 16) (hit : ∀ t, t < n → σ 85 (40 * r + i + t) = it t) (hQ : ∃ N : Nat, wM_judge_l108 Q N (nI r) (nI i) (nI n) (nI 0) (σ 89 5 - nI 1) (nI 0) σ) : ∀ (m t : Nat), t + m = n → (∀ s, t ≤ s → s < n → pB (it s) c = nI 1) → wM_judge_l56 Q (m + 1) (nI r) (nI i) (nI n) (nI t) σ := by
  intro m
  induction m with
  | zero =>
    intro t ht _
    have : t = n := by omega
    subst this
    rw [wM_judge_l56]
    simp (disch := first | assumption | omega | decide) only [li0, li1, li2, li3, li4, li5, li6, li7, li8, li9, li10, li11, li12, li13, li14, li16, li17, li20, li21, li22, li23, li24, li30, li32, li40, li48, li57, li59, li63, li86, li97, li99, li100, li102, li115, li122, li200, li255, li289, li320, li400, li720, li999, li1000, nI_add, pk_mul, nI_sub, nI_clamp, vinT, Nat.le_refl, Nat.reduceLeDiff, Nat.reduceLT, Nat.reduceEqDiff, Nat.reduceAdd, Nat.reduceMul, Nat.reduceSub, forall_eq, true_and, and_true, not_true_eq_false, not_false_eq_true, false_implies, true_implies, implies_true, if_true, if_false, ite_self, nI_eqI, nI_leI2, nI_ltI2]
    exact hQ
  | succ m ih =>
    intro t ht ha
    have h1 : ¬ n ≤ t := by omega
    have hb := ha t (Nat.le_refl _) (by omega)
    rw [wM_judge_l56]
    simp (disch := first | assumption | omega | decide) only [li0, li1, li2, li3, li4, li5, li6, li7, li8, li9, li10, li11, li12, li13, li14, li16, li17, li20, li21, li22, li23, li24, li30, li32, li40, li48, li57, li59, li63, li86, li97, li99, li100, li102, li115, li122, li200, li255, li289, li320, li400, li720, li999, li1000, nI_add, pk_mul, nI_sub, nI_clamp, vinT, Nat.le_refl, Nat.reduceLeDiff, Nat.reduceLT, Nat.reduceEqDiff, Nat.reduceAdd, Nat.reduceMul, Nat.reduceSub, forall_eq, true_and, and_true, not_true_eq_false, not_false_eq_true, false_implies, true_implies, implies_true, if_true, if_false, ite_self, nI_eqI, nI_leI2, nI_ltI2, h1, hit, eM_isWareAt hc hc16, hb]
    exact ih (t + 1) (by omega) (fun s hs => ha s (by omega))
theorem s_judge_no {Q : Int32 → gM → Prop} (hr : r < 8) (hin : i + n ≤ 40) (hc : σ 89 3 = nI c) (hc16 : c ≤ 16) (hit : ∀ t, t < n → σ 85 (40 * r + i + t) = it t) (hQ : Q (-1000001) σ) : ∀ (m t : Nat), t + m = n → (∃ s, t ≤ s ∧ s < n ∧ pB (it s) c ≠ nI 1) → wM_judge_l56 Q (m + 1) (nI r) (nI i) (nI n) (nI t) σ := by
  intro m
  induction m with
  | zero =>
    intro t ht hx
    obtain ⟨s, a, b, -⟩ := hx
    exact absurd b (by omega)
  | succ m ih =>
    intro t ht hx
    have h1 : ¬ n ≤ t := by omega
    rw [wM_judge_l56]
    rcases pB_01 (it t) c with hb | hb
    · simp (disch := first | assumption | omega | decide) only [li0, li1, li2, li3, li4, li5, li6, li7, li8, li9, li10, li11, li12, li13, li14, li16, li17, li20, li21, li22, li23, li24, li30, li32, li40, li48, li57, li59, li63, li86, li97, li99, li100, li102, li115, li122, li200, li255, li289, li320, li400, li720, li999, li1000, nI_add, pk_mul, nI_sub, nI_clamp, vinT, Nat.le_refl, Nat.reduceLeDiff, Nat.reduceLT, Nat.reduceEqDiff, Nat.reduceAdd, Nat.reduceMul, Nat.reduceSub, forall_eq, true_and, and_true, not_true_eq_false, not_false_eq_true, false_implies, true_implies, implies_true, if_true, if_false, ite_self, nI_eqI, nI_leI2, nI_ltI2, h1, hit, eM_isWareAt hc hc16, hb]
      exact hQ
    · simp (disch := first | assumption | omega | decide) only [li0, li1, li2, li3, li4, li5, li6, li7, li8, li9, li10, li11, li12, li13, li14, li16, li17, li20, li21, li22, li23, li24, li30, li32, li40, li48, li57, li59, li63, li86, li97, li99, li100, li102, li115, li122, li200, li255, li289, li320, li400, li720, li999, li1000, nI_add, pk_mul, nI_sub, nI_clamp, vinT, Nat.le_refl, Nat.reduceLeDiff, Nat.reduceLT, Nat.reduceEqDiff, Nat.reduceAdd, Nat.reduceMul, Nat.reduceSub, forall_eq, true_and, and_true, not_true_eq_false, not_false_eq_true, false_implies, true_implies, implies_true, if_true, if_false, ite_self, nI_eqI, nI_leI2, nI_ltI2, h1, hit, eM_isWareAt hc hc16, hb]
      refine ih (t + 1) (by omega) ?_
      obtain ⟨s, a, b, d⟩ := hx
      refine ⟨s, ?_, b, d⟩
      rcases Nat.eq_or_lt_of_le a with e | e
      · subst e
        exact absurd hb d
      · exact e
theorem s_linea_yes {x4 : Int32} {Q : Int32 → gM → Prop} (hr : r < 8) (hin : i + n ≤ 40) (hc : σ 89 2 = nI c) (hc16 : c ≤ 4) (hit : ∀ t, t < n → σ 85 (40 * r + i + t) = it t) (hQ : ∃ N : Nat, wM_line_l126 Q N (nI r) (nI i) (nI n) x4 (nI 0) (σ 89 5 - nI 1) (nI 0) (nI 0) σ) : ∀ (m t : Nat), t + m = n → (∀ s, t ≤ s → s < n → pB (it s) c = nI 1) → wM_line_l71 Q (m + 1) (nI r) (nI i) (nI n) x4 (nI t) σ := by
  intro m
  induction m with
  | zero =>
    intro t ht _
    have : t = n := by omega
    subst this
    rw [wM_line_l71]
    simp (disch := first | assumption | omega | decide) only [li0, li1, li2, li3, li4, li5, li6, li7, li8, li9, li10, li11, li12, li13, li14, li16, li17, li20, li21, li22, li23, li24, li30, li32, li40, li48, li57, li59, li63, li86, li97, li99, li100, li102, li115, li122, li200, li255, li289, li320, li400, li720, li999, li1000, nI_add, pk_mul, nI_sub, nI_clamp, vinT, Nat.le_refl, Nat.reduceLeDiff, Nat.reduceLT, Nat.reduceEqDiff, Nat.reduceAdd, Nat.reduceMul, Nat.reduceSub, forall_eq, true_and, and_true, not_true_eq_false, not_false_eq_true, false_implies, true_implies, implies_true, if_true, if_false, ite_self, nI_eqI, nI_leI2, nI_ltI2]
    exact hQ
  | succ m ih =>
    intro t ht ha
    have h1 : ¬ n ≤ t := by omega
    have hb := ha t (Nat.le_refl _) (by omega)
    rw [wM_line_l71]
    simp (disch := first | assumption | omega | decide) only [li0, li1, li2, li3, li4, li5, li6, li7, li8, li9, li10, li11, li12, li13, li14, li16, li17, li20, li21, li22, li23, li24, li30, li32, li40, li48, li57, li59, li63, li86, li97, li99, li100, li102, li115, li122, li200, li255, li289, li320, li400, li720, li999, li1000, nI_add, pk_mul, nI_sub, nI_clamp, vinT, Nat.le_refl, Nat.reduceLeDiff, Nat.reduceLT, Nat.reduceEqDiff, Nat.reduceAdd, Nat.reduceMul, Nat.reduceSub, forall_eq, true_and, and_true, not_true_eq_false, not_false_eq_true, false_implies, true_implies, implies_true, if_true, if_false, ite_self, nI_eqI, nI_leI2, nI_ltI2, h1, hit, eM_isBuyerAt hc hc16, hb]
    exact ih (t + 1) (by omega) (fun s hs => ha s (by omega))
theorem s_linea_no {x4 : Int32} {Q : Int32 → gM → Prop} (hr : r < 8) (hin : i + n ≤ 40) (hc : σ 89 2 = nI c) (hc16 : c ≤ 4) (hit : ∀ t, t < n → σ 85 (40 * r + i + t) = it t) (hQ : Q (-1000001) σ) : ∀ (m t : Nat), t + m = n → (∃ s, t ≤ s ∧ s < n ∧ pB (it s) c ≠ nI 1) → wM_line_l71 Q (m + 1) (nI r) (nI i) (nI n) x4 (nI t) σ := by
  intro m
  induction m with
  | zero =>
    intro t ht hx
    obtain ⟨s, a, b, -⟩ := hx
    exact absurd b (by omega)
  | succ m ih =>
    intro t ht hx
    have h1 : ¬ n ≤ t := by omega
    rw [wM_line_l71]
    rcases pB_01 (it t) c with hb | hb
    · simp (disch := first | assumption | omega | decide) only [li0, li1, li2, li3, li4, li5, li6, li7, li8, li9, li10, li11, li12, li13, li14, li16, li17, li20, li21, li22, li23, li24, li30, li32, li40, li48, li57, li59, li63, li86, li97, li99, li100, li102, li115, li122, li200, li255, li289, li320, li400, li720, li999, li1000, nI_add, pk_mul, nI_sub, nI_clamp, vinT, Nat.le_refl, Nat.reduceLeDiff, Nat.reduceLT, Nat.reduceEqDiff, Nat.reduceAdd, Nat.reduceMul, Nat.reduceSub, forall_eq, true_and, and_true, not_true_eq_false, not_false_eq_true, false_implies, true_implies, implies_true, if_true, if_false, ite_self, nI_eqI, nI_leI2, nI_ltI2, h1, hit, eM_isBuyerAt hc hc16, hb]
      exact hQ
    · simp (disch := first | assumption | omega | decide) only [li0, li1, li2, li3, li4, li5, li6, li7, li8, li9, li10, li11, li12, li13, li14, li16, li17, li20, li21, li22, li23, li24, li30, li32, li40, li48, li57, li59, li63, li86, li97, li99, li100, li102, li115, li122, li200, li255, li289, li320, li400, li720, li999, li1000, nI_add, pk_mul, nI_sub, nI_clamp, vinT, Nat.le_refl, Nat.reduceLeDiff, Nat.reduceLT, Nat.reduceEqDiff, Nat.reduceAdd, Nat.reduceMul, Nat.reduceSub, forall_eq, true_and, and_true, not_true_eq_false, not_false_eq_true, false_implies, true_implies, implies_true, if_true, if_false, ite_self, nI_eqI, nI_leI2, nI_ltI2, h1, hit, eM_isBuyerAt hc hc16, hb]
      refine ih (t + 1) (by omega) ?_
      obtain ⟨s, a, b, d⟩ := hx
      refine ⟨s, ?_, b, d⟩
      rcases Nat.eq_or_lt_of_le a with e | e
      · subst e
        exact absurd hb d
      · exact e
end Below
/-! JUDGE: the first that can't be so -/
def pJ (hp : Nat → Nat) (it : Nat → Int32) : Nat → Nat → Nat → Nat → Int32
  | 0, _, _, _ => -1000000
  | m + 1, l, rr, t => if l < rr then (if nI (hp l) = it t then pJ hp it m (l + 1) rr (t + 1) else if nI (hp (rr - 1)) = it t then pJ hp it m l (rr - 1) (t + 1) else nI t) else nI t
section Judge
variable {r i n nl : Nat} {it : Nat → Int32} {hp : Nat → Nat} {σ : gM} {Q : Int32 → gM → Prop}
theorem s_J_H (hin : i + n ≤ 40) (hl : nl ≤ 16) (eh : ∀ j, j < nl → σ 51 j = nI (hp j)) (hit : ∀ t, t < n → σ (2 + 2 * r + 1) (i + t) = it t) : ∀ (m t l rr : Nat), t + m = n → l ≤ rr → rr ≤ nl → Q (pJ hp it m l rr t) σ → wS_firstWrong_row_l14 r Q (m + 1) (nI i) (nI n) (nI l) (nI rr - nI 1) (nI t) σ := by
  intro m
  induction m with
  | zero =>
    intro t l rr ht _ _ h
    have : t = n := by omega
    subst this
    rw [wS_firstWrong_row_l14]
    simp (disch := first | assumption | omega | decide) only [nI_leI2, Nat.le_refl, Nat.reduceLeDiff, Nat.reduceLT, Nat.reduceEqDiff, Nat.reduceAdd, Nat.reduceMul, Nat.reduceSub, forall_eq, true_and, and_true, not_true_eq_false, not_false_eq_true, false_implies, true_implies, implies_true, if_true, if_false, ite_self]
    exact h
  | succ m ih =>
    intro t l rr ht hlr hrn h
    have h1 : ¬ n ≤ t := by omega
    rw [wS_firstWrong_row_l14]
    rw [pJ] at h
    by_cases hlt : l < rr
    · rw [if_pos hlt] at h
      have h2 : ¬ rr - 1 < l := by omega
      simp (disch := first | assumption | omega | decide) only [li0, li1, li2, li3, li4, li5, li6, li7, li8, li9, li10, li11, li12, li13, li14, li16, li17, li20, li21, li22, li23, li24, li30, li32, li40, li48, li57, li59, li63, li86, li97, li99, li100, li102, li115, li122, li200, li255, li289, li320, li400, li720, li999, li1000, nI_add, pk_mul, nI_sub, nI_clamp, vinT, Nat.le_refl, Nat.reduceLeDiff, Nat.reduceLT, Nat.reduceEqDiff, Nat.reduceAdd, Nat.reduceMul, Nat.reduceSub, forall_eq, true_and, and_true, not_true_eq_false, not_false_eq_true, false_implies, true_implies, implies_true, if_true, if_false, ite_self, nI_eqI, nI_leI2, nI_ltI2, h1, h2, hit, eh, wS_firstWrong_row_b57, add_m1, add_m1n]
      refine ⟨fun q => ?_, fun q => ⟨fun q2 => ?_, fun q2 => ?_⟩⟩
      · rw [if_pos q] at h
        have := ih (t + 1) (l + 1) rr (by omega) (by omega) hrn h
        rw [nI_sub (by omega)] at this
        exact this
      · rw [if_neg q, if_pos q2] at h
        exact ih (t + 1) l (rr - 1) (by omega) (by omega) (by omega) h
      · rw [if_neg q, if_neg q2] at h
        exact h
    · rw [if_neg hlt] at h
      have h2 : rr < 1 + l := by omega
      simp (disch := first | assumption | omega | decide) only [lt_sub, h2, nI_leI2, nI_add, nI_clamp, vinT, h1, hit, wS_firstWrong_row_b57, Nat.le_refl, Nat.reduceLeDiff, Nat.reduceLT, Nat.reduceEqDiff, Nat.reduceAdd, Nat.reduceMul, Nat.reduceSub, forall_eq, true_and, and_true, not_true_eq_false, not_false_eq_true, false_implies, true_implies, implies_true, if_true, if_false, ite_self]
      exact h
theorem s_J_M (hr : r < 8) (hin : i + n ≤ 40) (hl : nl ≤ 16) (eh : ∀ j, j < nl → σ 89 (86 + j) = nI (hp j)) (hit : ∀ t, t < n → σ 85 (40 * r + i + t) = it t) : ∀ (m t l rr : Nat), t + m = n → l ≤ rr → rr ≤ nl → Q (pJ hp it m l rr t) (gU σ 82 3 (nI 0)) → wM_judge_l108 Q (m + 1) (nI r) (nI i) (nI n) (nI l) (nI rr - nI 1) (nI t) σ := by
  intro m
  induction m with
  | zero =>
    intro t l rr ht _ _ h
    have : t = n := by omega
    subst this
    rw [wM_judge_l108]
    simp (disch := first | assumption | omega | decide) only [nI_leI2, Nat.le_refl, Nat.reduceLeDiff, Nat.reduceLT, Nat.reduceEqDiff, Nat.reduceAdd, Nat.reduceMul, Nat.reduceSub, forall_eq, true_and, and_true, not_true_eq_false, not_false_eq_true, false_implies, true_implies, implies_true, if_true, if_false, ite_self, wM_did]
    exact h
  | succ m ih =>
    intro t l rr ht hlr hrn h
    have h1 : ¬ n ≤ t := by omega
    rw [wM_judge_l108]
    rw [pJ] at h
    by_cases hlt : l < rr
    · rw [if_pos hlt] at h
      have h2 : ¬ rr - 1 < l := by omega
      simp (disch := first | assumption | omega | decide) only [li0, li1, li2, li3, li4, li5, li6, li7, li8, li9, li10, li11, li12, li13, li14, li16, li17, li20, li21, li22, li23, li24, li30, li32, li40, li48, li57, li59, li63, li86, li97, li99, li100, li102, li115, li122, li200, li255, li289, li320, li400, li720, li999, li1000, nI_add, pk_mul, nI_sub, nI_clamp, vinT, Nat.le_refl, Nat.reduceLeDiff, Nat.reduceLT, Nat.reduceEqDiff, Nat.reduceAdd, Nat.reduceMul, Nat.reduceSub, forall_eq, true_and, and_true, not_true_eq_false, not_false_eq_true, false_implies, true_implies, implies_true, if_true, if_false, ite_self, nI_eqI, nI_leI2, nI_ltI2, h1, h2, hit, eM_heap, eh, wM_judge_b154, add_m1, add_m1n, wM_did]
      refine ⟨fun q => ?_, fun q => ⟨fun q2 => ?_, fun q2 => ?_⟩⟩
      · rw [if_pos q] at h
        have := ih (t + 1) (l + 1) rr (by omega) (by omega) hrn h
        rw [nI_sub (by omega)] at this
        exact this
      · rw [if_neg q, if_pos q2] at h
        exact ih (t + 1) l (rr - 1) (by omega) (by omega) (by omega) h
      · rw [if_neg q, if_neg q2] at h
        exact h
    · rw [if_neg hlt] at h
      have h2 : rr < 1 + l := by omega
      simp (disch := first | assumption | omega | decide) only [pk_mul, lt_sub, h2, nI_leI2, nI_add, nI_clamp, vinT, h1, hit, wM_judge_b154, Nat.le_refl, Nat.reduceLeDiff, Nat.reduceLT, Nat.reduceEqDiff, Nat.reduceAdd, Nat.reduceMul, Nat.reduceSub, forall_eq, true_and, and_true, not_true_eq_false, not_false_eq_true, false_implies, true_implies, implies_true, if_true, if_false, ite_self, wM_did]
      exact h
end Judge
