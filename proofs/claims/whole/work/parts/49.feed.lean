/-! FEED -/
def fdB (x : Int64) (n j : Nat) : Int32 := ((x >>> ((nI (8 * (n - 1 - j))).toInt64 &&& 63)).toInt32) &&& nI 255
theorem and_cast (a : Int64) : (a &&& 255).toInt32 = a.toInt32 &&& nI 255 := by
  rw [Int64.toInt32_and]
  rfl
def pFdH (σ0 : gM) (t j : Nat) (f : Nat → Int32) (σ : gM) : Prop := (∀ c, c ≠ 18 → c ≠ 19 → σ c = σ0 c) ∧ (∀ i, i ≠ 0 → σ 18 i = σ0 18 i) ∧ σ 18 0 = nI (t + j) ∧ ∀ i, σ 19 i = if t ≤ i ∧ i < t + j then f (i - t) else σ0 19 i
def pFdM (σ0 : gM) (t j : Nat) (f : Nat → Int32) (σ : gM) : Prop := (∀ c, c ≠ 86 → σ c = σ0 c) ∧ ∀ i, σ 86 i = if t ≤ i ∧ i < t + j then f (i - t) else σ0 86 i
theorem s_feedH {x : Int64} {n t : Nat} {σ0 : gM} {Q : Int32 → gM → Prop} (hn : n ≤ 8) (ht : t + n ≤ 400) (hQ : ∀ σ', pFdH σ0 t n (fdB x n) σ' → Q (nI (t + n)) σ') : ∀ (m : Nat) (σ : gM), m ≤ n → pFdH σ0 t (n - m) (fdB x n) σ → wH_feed_l37 Q (m + 1) x (nI m - nI 1) σ := by
  intro m
  induction m with
  | zero =>
    intro σ hm h
    have e : nI 0 - nI 1 < nI 0 := by rw [lt_sub (by omega) (by omega) (by omega)]; omega
    have q := hQ σ h
    rw [← show σ 18 0 = nI (t + n) from h.2.2.1] at q
    rw [wH_feed_l37]
    simp only [e, Nat.le_refl, Nat.reduceLeDiff, Nat.reduceLT, Nat.reduceEqDiff, Nat.reduceAdd, Nat.reduceMul, Nat.reduceSub, forall_eq, true_and, and_true, not_true_eq_false, not_false_eq_true, false_implies, true_implies, implies_true, if_true, if_false, ite_self]
    exact q
  | succ m ih =>
    intro σ hm h
    obtain ⟨h1, h2, h3, h4⟩ := h
    have q : ¬ 400 ≤ t + (n - (m + 1)) := by omega
    have q2 : t + (n - (m + 1)) < 400 := by omega
    rw [wH_feed_l37]
    simp (disch := first | assumption | omega | decide) only [nI_leI2, nI_ltI2, nI_eqI, nI_add, nI_sub, pk_mul, nI_clamp, vinT, Nat.add_sub_cancel, Nat.le_refl, Nat.reduceLeDiff, Nat.reduceLT, Nat.reduceEqDiff, Nat.reduceAdd, Nat.reduceMul, Nat.reduceSub, forall_eq, true_and, and_true, not_true_eq_false, not_false_eq_true, false_implies, true_implies, implies_true, if_true, if_false, ite_self, Nat.not_lt_zero, wT_append, h3, q, gU_ne, add_m1]
    refine ih _ (by omega) ⟨fun c c1 c2 => by rw [gU_ne c1, gU_ne c2]; exact h1 c c1 c2, fun i hi => by rw [gU_off hi, gU_ne (by omega)]; exact h2 i hi, ?_, fun i => ?_⟩
    · rw [gU_eq, show t + (n - (m + 1)) + 1 = t + (n - m) by omega]
    · rw [gU_ne (by omega)]
      by_cases e : i = t + (n - (m + 1))
      · rw [e, gU_eq, if_pos ⟨by omega, by omega⟩]
        unfold fdB
        rw [show n - 1 - (t + (n - (m + 1)) - t) = m by omega]
      · rw [gU_off e, h4 i]
        by_cases e2 : t ≤ i ∧ i < t + (n - (m + 1))
        · rw [if_pos e2, if_pos ⟨e2.1, by omega⟩]
        · rw [if_neg e2, if_neg (by omega)]
theorem s_feedM {x : Int64} {n t : Nat} {σ0 : gM} {Q : Int32 → gM → Prop} (hn : n ≤ 8) (ht : t + n ≤ 400) (h82 : σ0 82 4 = nI t) (hQ : ∀ σ', pFdM σ0 t n (fdB x n) σ' → Q (nI (t + n)) (gU σ' 82 4 (nI (t + n)))) : ∀ (m j : Nat) (σ : gM), j + m = n → pFdM σ0 t j (fdB x n) σ → wM_feed_l31 Q (m + 1) x (nI n) (nI j) σ := by
  intro m
  induction m with
  | zero =>
    intro j σ hj h
    have : j = n := by omega
    subst this
    have e : σ 82 4 = nI t := by rw [h.1 82 (by omega)]; exact h82
    rw [wM_feed_l31]
    simp (disch := first | assumption | omega | decide) only [nI_leI2, nI_ltI2, nI_eqI, nI_add, nI_sub, pk_mul, nI_clamp, vinT, Nat.add_sub_cancel, Nat.le_refl, Nat.reduceLeDiff, Nat.reduceLT, Nat.reduceEqDiff, Nat.reduceAdd, Nat.reduceMul, Nat.reduceSub, forall_eq, true_and, and_true, not_true_eq_false, not_false_eq_true, false_implies, true_implies, implies_true, if_true, if_false, ite_self, e, gU_eq]
    exact hQ σ h
  | succ m ih =>
    intro j σ hj h
    have q : ¬ n ≤ j := by omega
    have e : σ 82 4 = nI t := by rw [h.1 82 (by omega)]; exact h82
    rw [wM_feed_l31]
    simp (disch := first | assumption | omega | decide) only [nI_leI2, nI_ltI2, nI_eqI, nI_add, nI_sub, pk_mul, nI_clamp, vinT, Nat.add_sub_cancel, Nat.le_refl, Nat.reduceLeDiff, Nat.reduceLT, Nat.reduceEqDiff, Nat.reduceAdd, Nat.reduceMul, Nat.reduceSub, forall_eq, true_and, and_true, not_true_eq_false, not_false_eq_true, false_implies, true_implies, implies_true, if_true, if_false, ite_self, q, e, and_cast]
    refine ih (j + 1) _ (by omega) ⟨fun c hc => by rw [gU_ne hc]; exact h.1 c hc, fun i => ?_⟩
    by_cases e : i = t + j
    · rw [e, gU_eq, if_pos ⟨by omega, by omega⟩, show t + j - t = j by omega]
      rfl
    · rw [gU_off e, h.2 i]
      by_cases e2 : t ≤ i ∧ i < t + j
      · rw [if_pos e2, if_pos ⟨e2.1, by omega⟩]
      · rw [if_neg e2, if_neg (by omega)]
theorem op_feed {k : Nat} {x1 : Int64} {x3 : Int32} {σ : gM} (h : pInv k σ) : pBoth (wH_feed x1 x3) (wM_feed x1 x3) σ (pInv k) := by
  obtain ⟨t, t1, t2, t3, t4⟩ := h.2.2.2.1
  have n01 : ¬ nI 1 = nI 0 := by decide
  unfold pBoth wH_feed
  rcases i_nat x3 with hx | ⟨n, hn, rfl⟩
  · simp (disch := first | assumption | omega | decide) only [nI_leI2, nI_ltI2, nI_eqI, nI_add, nI_sub, pk_mul, nI_clamp, vinT, Nat.add_sub_cancel, Nat.le_refl, Nat.reduceLeDiff, Nat.reduceLT, Nat.reduceEqDiff, Nat.reduceAdd, Nat.reduceMul, Nat.reduceSub, forall_eq, true_and, and_true, not_true_eq_false, not_false_eq_true, false_implies, true_implies, implies_true, if_true, if_false, ite_self, ng_lt, ng_le, ng_gt, ng_ge, ng_eq, ng_qe, wM_feed, eM_in, n01]
    exact h
  by_cases hn1 : n < 1
  · simp (disch := first | assumption | omega | decide) only [nI_leI2, nI_ltI2, nI_eqI, nI_add, nI_sub, pk_mul, nI_clamp, vinT, Nat.add_sub_cancel, Nat.le_refl, Nat.reduceLeDiff, Nat.reduceLT, Nat.reduceEqDiff, Nat.reduceAdd, Nat.reduceMul, Nat.reduceSub, forall_eq, true_and, and_true, not_true_eq_false, not_false_eq_true, false_implies, true_implies, implies_true, if_true, if_false, ite_self, hn1, wM_feed, eM_in, n01]
    exact h
  by_cases hn8 : n ≤ 8
  · have hn9 : ¬ 8 < n := by omega
    by_cases hf : t + n ≤ 400
    · simp (disch := first | assumption | omega | decide) only [nI_leI2, nI_ltI2, nI_eqI, nI_add, nI_sub, pk_mul, nI_clamp, vinT, Nat.add_sub_cancel, Nat.le_refl, Nat.reduceLeDiff, Nat.reduceLT, Nat.reduceEqDiff, Nat.reduceAdd, Nat.reduceMul, Nat.reduceSub, forall_eq, true_and, and_true, not_true_eq_false, not_false_eq_true, false_implies, true_implies, implies_true, if_true, if_false, ite_self, hn1, hn8, t2, hf]
      refine ⟨n + 1, ?_⟩
      have key := s_feedH (x := x1) (σ0 := σ) (Q := fun r1 σ1 => wM_feed x1 (nI n) σ1 (fun r2 σ2 => r1 = r2 ∧ pInv k σ2)) hn8 hf (fun σ1 f => ?_) n σ (Nat.le_refl _) ⟨fun _ _ _ => rfl, fun _ _ => rfl, by rw [t2, Nat.sub_self]; rfl, fun i => by rw [if_neg (by omega)]⟩
      · rw [nI_sub (by omega)] at key
        exact key
      · have e4 : σ1 82 4 = nI t := by rw [f.1 82 (by omega) (by omega)]; exact t3
        show wM_feed x1 (nI n) σ1 _
        unfold wM_feed
        simp (disch := first | assumption | omega | decide) only [nI_leI2, nI_ltI2, nI_eqI, nI_add, nI_sub, pk_mul, nI_clamp, vinT, Nat.add_sub_cancel, Nat.le_refl, Nat.reduceLeDiff, Nat.reduceLT, Nat.reduceEqDiff, Nat.reduceAdd, Nat.reduceMul, Nat.reduceSub, forall_eq, true_and, and_true, not_true_eq_false, not_false_eq_true, false_implies, true_implies, implies_true, if_true, if_false, ite_self, eM_in, hn1, hn9, n01, e4, hf]
        refine ⟨n + 1, s_feedM (σ0 := σ1) hn8 hf e4 (fun σ2 g => ⟨rfl, ?_⟩) n 0 σ1 (by omega) ⟨fun _ _ => rfl, fun i => by rw [if_neg (by omega)]⟩⟩
        have e : ∀ c, c ≠ 18 → c ≠ 19 → c ≠ 82 → c ≠ 86 → gU σ2 82 4 (nI (t + n)) c = σ c := fun c c1 c2 c3 c4 => by rw [gU_ne c3, g.1 c c4, f.1 c c1 c2]
        have e82 : ∀ j, j ≠ 4 → gU σ2 82 4 (nI (t + n)) 82 j = σ 82 j := fun j hj => by rw [gU_off hj, g.1 82 (by omega), f.1 82 (by omega) (by omega)]
        refine pInv_mk h (fun a h1 h2 => e a (by omega) (by omega) (by omega) (by omega)) (e 83 (by omega) (by omega) (by omega) (by omega)) (e 84 (by omega) (by omega) (by omega) (by omega)) (e 85 (by omega) (by omega) (by omega) (by omega)) (by rw [e 0 (by omega) (by omega) (by omega) (by omega)]) (e82 3 (by omega)) (by rw [e 0 (by omega) (by omega) (by omega) (by omega), e82 11 (by omega)]; exact h.2.2.1)
          ⟨t + n, hf, by rw [gU_ne (by omega), g.1 18 (by omega)]; exact f.2.2.1, gU_eq, fun i hi => ?_⟩
          (pTrace_fr (by rw [e 0 (by omega) (by omega) (by omega) (by omega)]) (e82 22 (by omega)) (e 40 (by omega) (by omega) (by omega) (by omega)) (e 93 (by omega) (by omega) (by omega) (by omega)) h.2.2.2.2.1)
          (pStands_fr (by rw [e 42 (by omega) (by omega) (by omega) (by omega)]) (e 89 (by omega) (by omega) (by omega) (by omega)) h.2.2.2.2.2.1)
          (pMkt_fr (fun a h1 h2 => e a (by omega) (by omega) (by omega) (by omega)) (e 89 (by omega) (by omega) (by omega) (by omega)) h.2.2.2.2.2.2.1)
          (fun a h1 h2 => e a (by omega) (by omega) (by omega) (by omega)) (e 90 (by omega) (by omega) (by omega) (by omega)) (e 91 (by omega) (by omega) (by omega) (by omega))
          (pActs_fr (e82 20 (by omega)) (e _ (by omega) (by omega) (by omega) (by omega)) (e _ (by omega) (by omega) (by omega) (by omega)) (e _ (by omega) (by omega) (by omega) (by omega)) (e _ (by omega) (by omega) (by omega) (by omega)) (e _ (by omega) (by omega) (by omega) (by omega)) (e _ (by omega) (by omega) (by omega) (by omega)) h.2.2.2.2.2.2.2.2.2)
        rw [gU_ne (by omega), gU_ne (by omega), g.1 19 (by omega), f.2.2.2 i, g.2 i, f.1 86 (by omega) (by omega)]
        by_cases q : t ≤ i ∧ i < t + n
        · rw [if_pos q, if_pos q]
        · rw [if_neg q, if_neg q]
          exact t4 i (by omega)
    · simp (disch := first | assumption | omega | decide) only [nI_leI2, nI_ltI2, nI_eqI, nI_add, nI_sub, pk_mul, nI_clamp, vinT, Nat.add_sub_cancel, Nat.le_refl, Nat.reduceLeDiff, Nat.reduceLT, Nat.reduceEqDiff, Nat.reduceAdd, Nat.reduceMul, Nat.reduceSub, forall_eq, true_and, and_true, not_true_eq_false, not_false_eq_true, false_implies, true_implies, implies_true, if_true, if_false, ite_self, hn1, hn8, hn9, t2, t3, hf, wM_feed, eM_in, n01]
      exact h
  · have hn9 : 8 < n := by omega
    simp (disch := first | assumption | omega | decide) only [nI_leI2, nI_ltI2, nI_eqI, nI_add, nI_sub, pk_mul, nI_clamp, vinT, Nat.add_sub_cancel, Nat.le_refl, Nat.reduceLeDiff, Nat.reduceLT, Nat.reduceEqDiff, Nat.reduceAdd, Nat.reduceMul, Nat.reduceSub, forall_eq, true_and, and_true, not_true_eq_false, not_false_eq_true, false_implies, true_implies, implies_true, if_true, if_false, ite_self, hn1, hn8, hn9, wM_feed, eM_in, n01]
    exact h
