theorem op_fault {k : Nat} {σ : gM} (h : pInv k σ) : pBoth wH_fault wM_fault σ (pInv k) := ⟨h.2.2.1, h⟩
theorem op_status {k : Nat} {σ : gM} (h : pInv k σ) : pBoth wH_status wM_status σ (pInv k) := ⟨h.2.1, h⟩
/-! the class's values -/
section Vals
variable {k nb nw nl : Nat} {N : Nat → Int32} {hp : Nat → Nat} {σ : gM} {Q : Int32 → gM → Prop}
theorem eK_valueIn {w : Nat} {d : Int32} (hM : pMk σ 42 N nb nw nl) (hW : pWF k N nb nw nl hp) (hw : w < nw) : wK42_valueIn (nI w) d σ Q = Q (pV N w d) σ := by
  have hn : nw ≤ 16 := hW.2.2.2.2.1
  obtain ⟨kd, wo, ag, a1, a2, -, -, a5, -⟩ := hW.2.2.2.2.2.2.2.2.2.2.2 w hw
  obtain ⟨b1, b2, b3, -⟩ := hM.2.2.2.2.2.2.1 w hw
  have b1 : σ 47 w = N (22 + 4 * w) := b1
  have b2 : σ 48 w = N (22 + 4 * w + 1) := b2
  have b3 : σ 49 w = N (22 + 4 * w + 2) := b3
  unfold wK42_valueIn
  simp (disch := first | assumption | omega | decide) only [li0, li1, li2, li3, li4, li5, li6, li7, li8, li9, li10, li11, li12, li13, li14, li16, li17, li20, li21, li22, li23, li24, li30, li32, li40, li48, li57, li59, li63, li86, li97, li99, li100, li102, li115, li122, li200, li255, li289, li320, li400, li720, li999, li1000, nI_add, pk_mul, nI_sub, nI_clamp, vinT, Nat.le_refl, Nat.reduceLeDiff, Nat.reduceLT, Nat.reduceEqDiff, Nat.reduceAdd, Nat.reduceMul, Nat.reduceSub, forall_eq, true_and, and_true, not_true_eq_false, not_false_eq_true, false_implies, true_implies, implies_true, if_true, if_false, ite_self, nI_eqI, nI_leI2, nI_ltI2, b1, b2, b3]
  rw [eK_ripened a5 a2 a1, e_max0]
  rfl
theorem gNear_of {kd t : Nat} (h1 : 1 ≤ kd) (h5 : kd ≤ 5) (ht : t < 2147483648) : (decide (t = 0) || decide (t = kd) || decide (nI t = gNear kd)) = pSuch (nI kd) (nI t) := by
  unfold pSuch
  have e : ∀ a : Nat, a < 2147483648 → (decide (nI t = nI a)) = decide (t = a) := fun a ha => by
    rw [decide_eq_decide]; exact nI_eq ht ha
  have e2 : ∀ a : Nat, a < 2147483648 → (decide (nI kd = nI a)) = decide (kd = a) := fun a ha => by
    rw [decide_eq_decide]; exact nI_eq (by omega) ha
  rw [e 0 (by omega), e kd (by omega), e 1 (by omega), e 4 (by omega), e2 2 (by omega), e2 3 (by omega), e2 5 (by omega)]
  have hk : kd = 1 ∨ kd = 2 ∨ kd = 3 ∨ kd = 4 ∨ kd = 5 := by omega
  rcases hk with rfl | rfl | rfl | rfl | rfl
  · rw [show gNear 1 = nI 0 from rfl, e 0 (by omega)]
    by_cases q : t = 0 <;> by_cases q1 : t = 1 <;> simp [q, q1]
  · rw [show gNear 2 = nI 1 from rfl, e 1 (by omega)]
    by_cases q : t = 0 <;> by_cases q1 : t = 1 <;> by_cases q2 : t = 2 <;> simp [q, q1, q2]
  · rw [show gNear 3 = nI 1 from rfl, e 1 (by omega)]
    by_cases q : t = 0 <;> by_cases q1 : t = 1 <;> by_cases q2 : t = 3 <;> simp [q, q1, q2]
  · rw [show gNear 4 = nI 0 from rfl, e 0 (by omega)]
    by_cases q : t = 0 <;> by_cases q1 : t = 4 <;> simp [q, q1]
  · rw [show gNear 5 = nI 4 from rfl, e 4 (by omega)]
    by_cases q : t = 0 <;> by_cases q1 : t = 5 <;> by_cases q2 : t = 4 <;> simp [q, q1, q2]
theorem eH_isSuch {kd t : Nat} (h1 : 1 ≤ kd) (h5 : kd ≤ 5) (ht : t < 2147483648) : wH_isSuch (nI kd) (nI t) σ Q = Q (if pSuch (nI kd) (nI t) = true then nI 1 else nI 0) σ := by
  unfold wH_isSuch
  rw [← gNear_of h1 h5 ht]
  simp (disch := first | assumption | omega | decide) only [li0, li1, li2, li3, li4, li5, li6, li7, li8, li9, li10, li11, li12, li13, li14, li16, li17, li20, li21, li22, li23, li24, li30, li32, li40, li48, li57, li59, li63, li86, li97, li99, li100, li102, li115, li122, li200, li255, li289, li320, li400, li720, li999, li1000, nI_add, pk_mul, nI_sub, nI_clamp, vinT, Nat.le_refl, Nat.reduceLeDiff, Nat.reduceLT, Nat.reduceEqDiff, Nat.reduceAdd, Nat.reduceMul, Nat.reduceSub, forall_eq, true_and, and_true, not_true_eq_false, not_false_eq_true, false_implies, true_implies, implies_true, if_true, if_false, ite_self, nI_eqI, nI_leI2, nI_ltI2]
  by_cases q0 : t = 0
  · simp [q0]
  · by_cases q1 : t = kd
    · simp [q0, q1]
    · by_cases q2 : nI t = gNear kd
      · simp [q0, q1, q2]
      · simp [q0, q1, q2]
theorem eK_valueTo {b w : Nat} {d : Int32} (hM : pMk σ 42 N nb nw nl) (hW : pWF k N nb nw nl hp) (hb : b < nb) (hw : w < nw) : wK42_valueTo (nI b) (nI w) d σ Q = Q (pVT N b w d) σ := by
  have hn : nw ≤ 16 := hW.2.2.2.2.1
  have hn2 : nb ≤ 4 := hW.2.2.2.1
  obtain ⟨kd, wo, ag, a1, a2, -, -, a5, -⟩ := hW.2.2.2.2.2.2.2.2.2.2.2 w hw
  obtain ⟨t, t1, t2⟩ := hW.2.2.2.2.2.2.2.2.2.2.1 b hb
  obtain ⟨b1, -⟩ := hM.2.2.2.2.2.2.1 w hw
  have b1 : σ 47 w = N (22 + 4 * w) := b1
  have c1 : σ 43 b = N (6 + 4 * b) := (hM.2.2.2.2.2.1 b hb).1
  unfold wK42_valueTo pVT
  rw [eK_valueIn hM hW hw]
  simp (disch := first | assumption | omega | decide) only [li0, li1, li2, li3, li4, li5, li6, li7, li8, li9, li10, li11, li12, li13, li14, li16, li17, li20, li21, li22, li23, li24, li30, li32, li40, li48, li57, li59, li63, li86, li97, li99, li100, li102, li115, li122, li200, li255, li289, li320, li400, li720, li999, li1000, nI_add, pk_mul, nI_sub, nI_clamp, vinT, Nat.le_refl, Nat.reduceLeDiff, Nat.reduceLT, Nat.reduceEqDiff, Nat.reduceAdd, Nat.reduceMul, Nat.reduceSub, forall_eq, true_and, and_true, not_true_eq_false, not_false_eq_true, false_implies, true_implies, implies_true, if_true, if_false, ite_self, nI_eqI, nI_leI2, nI_ltI2, b1, c1, a5, t2, eH_isSuch]
  by_cases h : pSuch (nI kd) (nI t) = true <;> simp (disch := first | assumption | omega | decide) [h, nI_eqI]
theorem s_K_placeOf {w : Nat} (hM : pMk σ 42 N nb nw nl) (hW : pWF k N nb nw nl hp) (hw : w < nw) : ∀ m i : Nat, i + m = nl → (∀ j, j < i → hp j ≠ w) → ((∀ j, j < nl → hp j = w → Q (nI j) σ) ∧ ((∀ j, j < nl → hp j ≠ w) → Q (-1000000) σ)) → wK42_placeOf_l2 Q (m + 1) (nI w) (nI i) σ := by
  have hn : nw ≤ 16 := hW.2.2.2.2.1
  have hl : nl ≤ nw := hW.2.2.2.2.2.1
  have e5 : σ 42 5 = nI nl := hM.2.2.2.2.1
  have eh : ∀ i, i < nl → σ 51 i = nI (hp i) := fun i hi => (hM.2.2.2.2.2.2.2 i hi).trans (hW.2.2.2.2.2.2.2.2.1 i hi).2.1
  have ehl : ∀ i, i < nl → hp i < nw := fun i hi => (hW.2.2.2.2.2.2.2.2.1 i hi).1
  intro m
  induction m with
  | zero =>
    intro i hi hne h
    have : i = nl := by omega
    subst this
    rw [wK42_placeOf_l2]
    simp (disch := first | assumption | omega | decide) only [li0, li1, li2, li3, li4, li5, li6, li7, li8, li9, li10, li11, li12, li13, li14, li16, li17, li20, li21, li22, li23, li24, li30, li32, li40, li48, li57, li59, li63, li86, li97, li99, li100, li102, li115, li122, li200, li255, li289, li320, li400, li720, li999, li1000, nI_add, pk_mul, nI_sub, nI_clamp, vinT, Nat.le_refl, Nat.reduceLeDiff, Nat.reduceLT, Nat.reduceEqDiff, Nat.reduceAdd, Nat.reduceMul, Nat.reduceSub, forall_eq, true_and, and_true, not_true_eq_false, not_false_eq_true, false_implies, true_implies, implies_true, if_true, if_false, ite_self, nI_eqI, nI_leI2, nI_ltI2, e5]
    exact h.2 hne
  | succ m ih =>
    intro i hi hne h
    have h1 : ¬ nl ≤ i := by omega
    have h2 := ehl i (by omega)
    rw [wK42_placeOf_l2]
    simp (disch := first | assumption | omega | decide) only [li0, li1, li2, li3, li4, li5, li6, li7, li8, li9, li10, li11, li12, li13, li14, li16, li17, li20, li21, li22, li23, li24, li30, li32, li40, li48, li57, li59, li63, li86, li97, li99, li100, li102, li115, li122, li200, li255, li289, li320, li400, li720, li999, li1000, nI_add, pk_mul, nI_sub, nI_clamp, vinT, Nat.le_refl, Nat.reduceLeDiff, Nat.reduceLT, Nat.reduceEqDiff, Nat.reduceAdd, Nat.reduceMul, Nat.reduceSub, forall_eq, true_and, and_true, not_true_eq_false, not_false_eq_true, false_implies, true_implies, implies_true, if_true, if_false, ite_self, nI_eqI, nI_leI2, nI_ltI2, e5, h1, eh]
    refine ⟨fun q => h.1 i (by omega) q, fun q => ih (i + 1) (by omega) (fun j hj => ?_) h⟩
    rcases Nat.lt_succ_iff_lt_or_eq.mp hj with a | a
    · exact hne j a
    · subst a; exact q
theorem s_M_placeOf {w : Nat} (hW : pWF k (σ 89) nb nw nl hp) (hw : w < nw) : ∀ m i : Nat, i + m = nl → (∀ j, j < i → hp j ≠ w) → ((∀ j, j < nl → hp j = w → Q (nI j) σ) ∧ ((∀ j, j < nl → hp j ≠ w) → Q (-1000000) σ)) → wM_placeOf_l2 Q (m + 1) (nI w) (nI i) σ := by
  have hn : nw ≤ 16 := hW.2.2.2.2.1
  have hl : nl ≤ nw := hW.2.2.2.2.2.1
  have e5 : σ 89 5 = nI nl := hW.2.2.1
  have eh : ∀ i, i < nl → σ 89 (86 + i) = nI (hp i) := fun i hi => (hW.2.2.2.2.2.2.2.2.1 i hi).2.1
  have ehl : ∀ i, i < nl → hp i < nw := fun i hi => (hW.2.2.2.2.2.2.2.2.1 i hi).1
  intro m
  induction m with
  | zero =>
    intro i hi hne h
    have : i = nl := by omega
    subst this
    rw [wM_placeOf_l2]
    simp (disch := first | assumption | omega | decide) only [li0, li1, li2, li3, li4, li5, li6, li7, li8, li9, li10, li11, li12, li13, li14, li16, li17, li20, li21, li22, li23, li24, li30, li32, li40, li48, li57, li59, li63, li86, li97, li99, li100, li102, li115, li122, li200, li255, li289, li320, li400, li720, li999, li1000, nI_add, pk_mul, nI_sub, nI_clamp, vinT, Nat.le_refl, Nat.reduceLeDiff, Nat.reduceLT, Nat.reduceEqDiff, Nat.reduceAdd, Nat.reduceMul, Nat.reduceSub, forall_eq, true_and, and_true, not_true_eq_false, not_false_eq_true, false_implies, true_implies, implies_true, if_true, if_false, ite_self, nI_eqI, nI_leI2, nI_ltI2, e5]
    exact h.2 hne
  | succ m ih =>
    intro i hi hne h
    have h1 : ¬ nl ≤ i := by omega
    have h2 := ehl i (by omega)
    rw [wM_placeOf_l2]
    simp (disch := first | assumption | omega | decide) only [li0, li1, li2, li3, li4, li5, li6, li7, li8, li9, li10, li11, li12, li13, li14, li16, li17, li20, li21, li22, li23, li24, li30, li32, li40, li48, li57, li59, li63, li86, li97, li99, li100, li102, li115, li122, li200, li255, li289, li320, li400, li720, li999, li1000, nI_add, pk_mul, nI_sub, nI_clamp, vinT, Nat.le_refl, Nat.reduceLeDiff, Nat.reduceLT, Nat.reduceEqDiff, Nat.reduceAdd, Nat.reduceMul, Nat.reduceSub, forall_eq, true_and, and_true, not_true_eq_false, not_false_eq_true, false_implies, true_implies, implies_true, if_true, if_false, ite_self, nI_eqI, nI_leI2, nI_ltI2, e5, h1, eM_heap, eh]
    refine ⟨fun q => h.1 i (by omega) q, fun q => ih (i + 1) (by omega) (fun j hj => ?_) h⟩
    rcases Nat.lt_succ_iff_lt_or_eq.mp hj with a | a
    · exact hne j a
    · subst a; exact q
/-- where a ware lies -/
def pPl (nl : Nat) (hp : Nat → Nat) (w : Nat) : Option Nat := (List.range nl).find? (fun j => hp j == w)
theorem pPl_some {w j : Nat} (hinj : ∀ i j, i < nl → j < nl → hp i = hp j → i = j) (hj : j < nl) (e : hp j = w) : pPl nl hp w = some j := by
  unfold pPl
  cases h : (List.range nl).find? (fun j => hp j == w) with
  | none =>
    have := List.find?_eq_none.mp h j (List.mem_range.mpr hj)
    simp [e] at this
  | some i =>
    have h1 := List.find?_some h
    have h2 := List.mem_of_find?_eq_some h
    simp at h1 h2
    rw [hinj i j h2 hj (by rw [h1, e])]
theorem pPl_none {w : Nat} (h : ∀ j, j < nl → hp j ≠ w) : pPl nl hp w = none := by
  unfold pPl
  rw [List.find?_eq_none]
  intro j hj
  simp
  exact h j (List.mem_range.mp hj)
def pPlI (nl : Nat) (hp : Nat → Nat) (w : Nat) : Int32 := match pPl nl hp w with
  | some j => nI j
  | none => -1000000
theorem s_placeK {w : Nat} (hM : pMk σ 42 N nb nw nl) (hW : pWF k N nb nw nl hp) (hw : w < nw) (h : Q (pPlI nl hp w) σ) : wK42_placeOf (nI w) σ Q := by
  unfold wK42_placeOf
  refine ⟨nl + 1, s_K_placeOf hM hW hw nl 0 (by omega) (fun j hj => absurd hj (by omega)) ⟨fun j hj e => ?_, fun hne => ?_⟩⟩
  · have := pPl_some hW.2.2.2.2.2.2.2.2.2.1 hj e
    simp only [pPlI, this] at h
    exact h
  · have := pPl_none hne
    simp only [pPlI, this] at h
    exact h
theorem s_placeM {w : Nat} (hW : pWF k (σ 89) nb nw nl hp) (hw : w < nw) (h : Q (pPlI nl hp w) σ) : wM_placeOf (nI w) σ Q := by
  unfold wM_placeOf
  refine ⟨nl + 1, s_M_placeOf hW hw nl 0 (by omega) (fun j hj => absurd hj (by omega)) ⟨fun j hj e => ?_, fun hne => ?_⟩⟩
  · have := pPl_some hW.2.2.2.2.2.2.2.2.2.1 hj e
    simp only [pPlI, this] at h
    exact h
  · have := pPl_none hne
    simp only [pPlI, this] at h
    exact h
end Vals
theorem op_ware {k : Nat} {x1 x2 : Int32} {σ : gM} (h : pInv k σ) : pBoth (wH_ware x1 x2) (wM_ware x1 x2) σ (pInv k) := by
  obtain ⟨nb, nw, nl, hp, hM, hW⟩ := h.2.2.2.2.2.2.1
  have hn : nw ≤ 16 := hW.2.2.2.2.1
  unfold pBoth wH_ware
  rw [eH_isNoWare hM.2.2.2.1]
  rcases i_in x1 nw (by omega) with ⟨w, hw, rfl⟩ | ⟨e1, e2⟩
  · rw [pNB_in hw (by omega)]
    have b1 : σ 48 w = σ 89 (22 + 4 * w + 1) := (hM.2.2.2.2.2.2.1 w hw).2.1
    have b2 : σ 49 w = σ 89 (22 + 4 * w + 2) := (hM.2.2.2.2.2.2.1 w hw).2.2.1
    have b3 : σ 50 w = σ 89 (22 + 4 * w + 3) := (hM.2.2.2.2.2.2.1 w hw).2.2.2
    have em := fun Q => @eM_isWareAt (nI w) σ Q nw hW.2.1 hn
    by_cases q0 : x2 = nI 0
    · subst q0
      simp (disch := first | assumption | omega | decide) only [li0, li1, li2, li3, li4, li5, li6, li7, li8, li9, li10, li11, li12, li13, li14, li16, li17, li20, li21, li22, li23, li24, li30, li32, li40, li48, li57, li59, li63, li86, li97, li99, li100, li102, li115, li122, li200, li255, li289, li320, li400, li720, li999, li1000, nI_add, pk_mul, nI_sub, nI_clamp, vinT, Nat.le_refl, Nat.reduceLeDiff, Nat.reduceLT, Nat.reduceEqDiff, Nat.reduceAdd, Nat.reduceMul, Nat.reduceSub, forall_eq, true_and, and_true, not_true_eq_false, not_false_eq_true, false_implies, true_implies, implies_true, if_true, if_false, ite_self, nI_eqI, nI_leI2, nI_ltI2, wM_ware, em, pB_in hw, b1, b2, b3, eM_valueOf, eK_valueIn hM hW hw]
      exact h
    by_cases q1 : x2 = nI 1
    · subst q1
      simp (disch := first | assumption | omega | decide) only [li0, li1, li2, li3, li4, li5, li6, li7, li8, li9, li10, li11, li12, li13, li14, li16, li17, li20, li21, li22, li23, li24, li30, li32, li40, li48, li57, li59, li63, li86, li97, li99, li100, li102, li115, li122, li200, li255, li289, li320, li400, li720, li999, li1000, nI_add, pk_mul, nI_sub, nI_clamp, vinT, Nat.le_refl, Nat.reduceLeDiff, Nat.reduceLT, Nat.reduceEqDiff, Nat.reduceAdd, Nat.reduceMul, Nat.reduceSub, forall_eq, true_and, and_true, not_true_eq_false, not_false_eq_true, false_implies, true_implies, implies_true, if_true, if_false, ite_self, nI_eqI, nI_leI2, nI_ltI2, wM_ware, em, pB_in hw, b1, b2, b3, eM_valueOf, eK_valueIn hM hW hw]
      exact h
    by_cases q2 : x2 = nI 2
    · subst q2
      simp (disch := first | assumption | omega | decide) only [li0, li1, li2, li3, li4, li5, li6, li7, li8, li9, li10, li11, li12, li13, li14, li16, li17, li20, li21, li22, li23, li24, li30, li32, li40, li48, li57, li59, li63, li86, li97, li99, li100, li102, li115, li122, li200, li255, li289, li320, li400, li720, li999, li1000, nI_add, pk_mul, nI_sub, nI_clamp, vinT, Nat.le_refl, Nat.reduceLeDiff, Nat.reduceLT, Nat.reduceEqDiff, Nat.reduceAdd, Nat.reduceMul, Nat.reduceSub, forall_eq, true_and, and_true, not_true_eq_false, not_false_eq_true, false_implies, true_implies, implies_true, if_true, if_false, ite_self, nI_eqI, nI_leI2, nI_ltI2, wM_ware, em, pB_in hw, b1, b2, b3, eM_valueOf, eK_valueIn hM hW hw]
      exact h
    by_cases q3 : x2 = nI 3
    · subst q3
      simp (disch := first | assumption | omega | decide) only [li0, li1, li2, li3, li4, li5, li6, li7, li8, li9, li10, li11, li12, li13, li14, li16, li17, li20, li21, li22, li23, li24, li30, li32, li40, li48, li57, li59, li63, li86, li97, li99, li100, li102, li115, li122, li200, li255, li289, li320, li400, li720, li999, li1000, nI_add, pk_mul, nI_sub, nI_clamp, vinT, Nat.le_refl, Nat.reduceLeDiff, Nat.reduceLT, Nat.reduceEqDiff, Nat.reduceAdd, Nat.reduceMul, Nat.reduceSub, forall_eq, true_and, and_true, not_true_eq_false, not_false_eq_true, false_implies, true_implies, implies_true, if_true, if_false, ite_self, nI_eqI, nI_leI2, nI_ltI2]
      refine s_placeK hM hW hw ?_
      simp (disch := first | assumption | omega | decide) only [li0, li1, li2, li3, li4, li5, li6, li7, li8, li9, li10, li11, li12, li13, li14, li16, li17, li20, li21, li22, li23, li24, li30, li32, li40, li48, li57, li59, li63, li86, li97, li99, li100, li102, li115, li122, li200, li255, li289, li320, li400, li720, li999, li1000, nI_add, pk_mul, nI_sub, nI_clamp, vinT, Nat.le_refl, Nat.reduceLeDiff, Nat.reduceLT, Nat.reduceEqDiff, Nat.reduceAdd, Nat.reduceMul, Nat.reduceSub, forall_eq, true_and, and_true, not_true_eq_false, not_false_eq_true, false_implies, true_implies, implies_true, if_true, if_false, ite_self, nI_eqI, nI_leI2, nI_ltI2, wM_ware, em, pB_in hw]
      exact s_placeM hW hw ⟨rfl, h⟩
    by_cases q4 : x2 = nI 4
    · subst q4
      simp (disch := first | assumption | omega | decide) only [li0, li1, li2, li3, li4, li5, li6, li7, li8, li9, li10, li11, li12, li13, li14, li16, li17, li20, li21, li22, li23, li24, li30, li32, li40, li48, li57, li59, li63, li86, li97, li99, li100, li102, li115, li122, li200, li255, li289, li320, li400, li720, li999, li1000, nI_add, pk_mul, nI_sub, nI_clamp, vinT, Nat.le_refl, Nat.reduceLeDiff, Nat.reduceLT, Nat.reduceEqDiff, Nat.reduceAdd, Nat.reduceMul, Nat.reduceSub, forall_eq, true_and, and_true, not_true_eq_false, not_false_eq_true, false_implies, true_implies, implies_true, if_true, if_false, ite_self, nI_eqI, nI_leI2, nI_ltI2, wM_ware, em, pB_in hw, b1, b2, b3, eM_valueOf, eK_valueIn hM hW hw]
      exact h
    by_cases q5 : x2 = nI 5
    · subst q5
      simp (disch := first | assumption | omega | decide) only [li0, li1, li2, li3, li4, li5, li6, li7, li8, li9, li10, li11, li12, li13, li14, li16, li17, li20, li21, li22, li23, li24, li30, li32, li40, li48, li57, li59, li63, li86, li97, li99, li100, li102, li115, li122, li200, li255, li289, li320, li400, li720, li999, li1000, nI_add, pk_mul, nI_sub, nI_clamp, vinT, Nat.le_refl, Nat.reduceLeDiff, Nat.reduceLT, Nat.reduceEqDiff, Nat.reduceAdd, Nat.reduceMul, Nat.reduceSub, forall_eq, true_and, and_true, not_true_eq_false, not_false_eq_true, false_implies, true_implies, implies_true, if_true, if_false, ite_self, nI_eqI, nI_leI2, nI_ltI2, wM_ware, em, pB_in hw, b1, b2, b3, eM_valueOf, eK_valueIn hM hW hw]
      exact h
    simp (disch := first | assumption | omega | decide) only [li0, li1, li2, li3, li4, li5, li6, li7, li8, li9, li10, li11, li12, li13, li14, li16, li17, li20, li21, li22, li23, li24, li30, li32, li40, li48, li57, li59, li63, li86, li97, li99, li100, li102, li115, li122, li200, li255, li289, li320, li400, li720, li999, li1000, nI_add, pk_mul, nI_sub, nI_clamp, vinT, Nat.le_refl, Nat.reduceLeDiff, Nat.reduceLT, Nat.reduceEqDiff, Nat.reduceAdd, Nat.reduceMul, Nat.reduceSub, forall_eq, true_and, and_true, not_true_eq_false, not_false_eq_true, false_implies, true_implies, implies_true, if_true, if_false, ite_self, nI_eqI, nI_leI2, nI_ltI2, wM_ware, em, pB_in hw, q0, q1, q2, q3, q4, q5]
    exact h
  · rw [e2]
    simp (disch := first | assumption | omega | decide) only [li0, li1, li2, li3, li4, li5, li6, li7, li8, li9, li10, li11, li12, li13, li14, li16, li17, li20, li21, li22, li23, li24, li30, li32, li40, li48, li57, li59, li63, li86, li97, li99, li100, li102, li115, li122, li200, li255, li289, li320, li400, li720, li999, li1000, nI_add, pk_mul, nI_sub, nI_clamp, vinT, Nat.le_refl, Nat.reduceLeDiff, Nat.reduceLT, Nat.reduceEqDiff, Nat.reduceAdd, Nat.reduceMul, Nat.reduceSub, forall_eq, true_and, and_true, not_true_eq_false, not_false_eq_true, false_implies, true_implies, implies_true, if_true, if_false, ite_self, nI_eqI, nI_leI2, nI_ltI2, wM_ware, @eM_isWareAt x1 σ _ nw hW.2.1 hn, e1]
    exact h
theorem op_buyer {k : Nat} {x1 x2 : Int32} {σ : gM} (h : pInv k σ) : pBoth (wH_buyer x1 x2) (wM_buyer x1 x2) σ (pInv k) := by
  obtain ⟨nb, nw, nl, hp, hM, hW⟩ := h.2.2.2.2.2.2.1
  have hn : nb ≤ 4 := hW.2.2.2.1
  unfold pBoth wH_buyer
  rw [eH_isNoBuyer hM.2.2.1]
  rcases i_in x1 nb (by omega) with ⟨b, hb, rfl⟩ | ⟨e1, e2⟩
  · rw [pNB_in hb (by omega)]
    have b0 : σ 43 b = σ 89 (6 + 4 * b) := (hM.2.2.2.2.2.1 b hb).1
    have b1 : σ 44 b = σ 89 (6 + 4 * b + 1) := (hM.2.2.2.2.2.1 b hb).2.1
    have b2 : σ 45 b = σ 89 (6 + 4 * b + 2) := (hM.2.2.2.2.2.1 b hb).2.2.1
    have b3 : σ 46 b = σ 89 (6 + 4 * b + 3) := (hM.2.2.2.2.2.1 b hb).2.2.2
    have em := fun Q => @eM_isBuyerAt (nI b) σ Q nb hW.1 hn
    rcases i_in x2 4 (by omega) with ⟨j, hj, rfl⟩ | ⟨e3, e4⟩
    · have : j = 0 ∨ j = 1 ∨ j = 2 ∨ j = 3 := by omega
      rcases this with rfl | rfl | rfl | rfl <;>
      · simp (disch := first | assumption | omega | decide) only [li0, li1, li2, li3, li4, li5, li6, li7, li8, li9, li10, li11, li12, li13, li14, li16, li17, li20, li21, li22, li23, li24, li30, li32, li40, li48, li57, li59, li63, li86, li97, li99, li100, li102, li115, li122, li200, li255, li289, li320, li400, li720, li999, li1000, nI_add, pk_mul, nI_sub, nI_clamp, vinT, Nat.le_refl, Nat.reduceLeDiff, Nat.reduceLT, Nat.reduceEqDiff, Nat.reduceAdd, Nat.reduceMul, Nat.reduceSub, forall_eq, true_and, and_true, not_true_eq_false, not_false_eq_true, false_implies, true_implies, implies_true, if_true, if_false, ite_self, nI_eqI, nI_leI2, nI_ltI2, wM_buyer, em, pB_in hb, b0, b1, b2, b3, eM_in, Nat.not_lt_zero, Nat.add_zero]
        exact h
    · have q : ∀ j, j < 4 → ¬ x2 = nI j := fun j hj e => by
        rw [e, pB_in hj (by omega)] at e3
        exact absurd e3 (by decide)
      have e5 : (if x2 < nI 0 then nI 0 else if nI 3 < x2 then nI 0 else nI 1) = nI 0 := by
        have := e_inRange (x := x2) (n := 4) (by omega)
        rw [e3] at this
        exact this
      simp (disch := first | assumption | omega | decide) only [li0, li1, li2, li3, li4, li5, li6, li7, li8, li9, li10, li11, li12, li13, li14, li16, li17, li20, li21, li22, li23, li24, li30, li32, li40, li48, li57, li59, li63, li86, li97, li99, li100, li102, li115, li122, li200, li255, li289, li320, li400, li720, li999, li1000, nI_add, pk_mul, nI_sub, nI_clamp, vinT, Nat.le_refl, Nat.reduceLeDiff, Nat.reduceLT, Nat.reduceEqDiff, Nat.reduceAdd, Nat.reduceMul, Nat.reduceSub, forall_eq, true_and, and_true, not_true_eq_false, not_false_eq_true, false_implies, true_implies, implies_true, if_true, if_false, ite_self, nI_eqI, nI_leI2, nI_ltI2, wM_buyer, em, pB_in hb, q 0 (by omega), q 1 (by omega), q 2 (by omega), q 3 (by omega), eM_in, e5]
      exact h
  · rw [e2]
    simp (disch := first | assumption | omega | decide) only [li0, li1, li2, li3, li4, li5, li6, li7, li8, li9, li10, li11, li12, li13, li14, li16, li17, li20, li21, li22, li23, li24, li30, li32, li40, li48, li57, li59, li63, li86, li97, li99, li100, li102, li115, li122, li200, li255, li289, li320, li400, li720, li999, li1000, nI_add, pk_mul, nI_sub, nI_clamp, vinT, Nat.le_refl, Nat.reduceLeDiff, Nat.reduceLT, Nat.reduceEqDiff, Nat.reduceAdd, Nat.reduceMul, Nat.reduceSub, forall_eq, true_and, and_true, not_true_eq_false, not_false_eq_true, false_implies, true_implies, implies_true, if_true, if_false, ite_self, nI_eqI, nI_leI2, nI_ltI2, wM_buyer, @eM_isBuyerAt x1 σ _ nb hW.1 hn, e1]
    exact h
theorem op_worth {k : Nat} {x1 x2 : Int32} {σ : gM} (h : pInv k σ) : pBoth (wH_worth x1 x2) (wM_worth x1 x2) σ (pInv k) := by
  obtain ⟨nb, nw, nl, hp, hM, hW⟩ := h.2.2.2.2.2.2.1
  have hn : nw ≤ 16 := hW.2.2.2.2.1
  have hn2 : nb ≤ 4 := hW.2.2.2.1
  unfold pBoth wH_worth
  rw [eH_isNoWare hM.2.2.2.1]
  rcases i_in x1 nw (by omega) with ⟨w, hw, rfl⟩ | ⟨e1, e2⟩
  · rw [pNB_in hw (by omega), eH_isNoBuyer hM.2.2.1]
    rcases i_in x2 nb (by omega) with ⟨b, hb, rfl⟩ | ⟨e1, e2⟩
    · simp (disch := first | assumption | omega | decide) only [li0, li1, li2, li3, li4, li5, li6, li7, li8, li9, li10, li11, li12, li13, li14, li16, li17, li20, li21, li22, li23, li24, li30, li32, li40, li48, li57, li59, li63, li86, li97, li99, li100, li102, li115, li122, li200, li255, li289, li320, li400, li720, li999, li1000, nI_add, pk_mul, nI_sub, nI_clamp, vinT, Nat.le_refl, Nat.reduceLeDiff, Nat.reduceLT, Nat.reduceEqDiff, Nat.reduceAdd, Nat.reduceMul, Nat.reduceSub, forall_eq, true_and, and_true, not_true_eq_false, not_false_eq_true, false_implies, true_implies, implies_true, if_true, if_false, ite_self, nI_eqI, nI_leI2, nI_ltI2, wM_worth, @eM_isWareAt (nI w) σ _ nw hW.2.1 hn, pB_in hw, @eM_isBuyerAt (nI b) σ _ nb hW.1 hn2, pB_in hb, pNB_in hb, eM_worthOf, eK_valueTo hM hW hb hw]
      exact h
    · simp (disch := first | assumption | omega | decide) only [li0, li1, li2, li3, li4, li5, li6, li7, li8, li9, li10, li11, li12, li13, li14, li16, li17, li20, li21, li22, li23, li24, li30, li32, li40, li48, li57, li59, li63, li86, li97, li99, li100, li102, li115, li122, li200, li255, li289, li320, li400, li720, li999, li1000, nI_add, pk_mul, nI_sub, nI_clamp, vinT, Nat.le_refl, Nat.reduceLeDiff, Nat.reduceLT, Nat.reduceEqDiff, Nat.reduceAdd, Nat.reduceMul, Nat.reduceSub, forall_eq, true_and, and_true, not_true_eq_false, not_false_eq_true, false_implies, true_implies, implies_true, if_true, if_false, ite_self, nI_eqI, nI_leI2, nI_ltI2, wM_worth, @eM_isWareAt (nI w) σ _ nw hW.2.1 hn, pB_in hw, @eM_isBuyerAt x2 σ _ nb hW.1 hn2, e1, e2]
      exact h
  · rw [e2]
    simp (disch := first | assumption | omega | decide) only [li0, li1, li2, li3, li4, li5, li6, li7, li8, li9, li10, li11, li12, li13, li14, li16, li17, li20, li21, li22, li23, li24, li30, li32, li40, li48, li57, li59, li63, li86, li97, li99, li100, li102, li115, li122, li200, li255, li289, li320, li400, li720, li999, li1000, nI_add, pk_mul, nI_sub, nI_clamp, vinT, Nat.le_refl, Nat.reduceLeDiff, Nat.reduceLT, Nat.reduceEqDiff, Nat.reduceAdd, Nat.reduceMul, Nat.reduceSub, forall_eq, true_and, and_true, not_true_eq_false, not_false_eq_true, false_implies, true_implies, implies_true, if_true, if_false, ite_self, nI_eqI, nI_leI2, nI_ltI2, wM_worth, @eM_isWareAt x1 σ _ nw hW.2.1 hn, e1]
    exact h
theorem op_kind {k : Nat} {x1 : Int32} {σ : gM} (h : pInv k σ) : pBoth (wH_kind x1) (wM_kind x1) σ (pInv k) := by
  obtain ⟨nb, nw, nl, hp, hM, hW⟩ := h.2.2.2.2.2.2.1
  have hn : nw ≤ 16 := hW.2.2.2.2.1
  unfold pBoth wH_kind
  rw [eH_isNoWare hM.2.2.2.1]
  rcases i_in x1 nw (by omega) with ⟨w, hw, rfl⟩ | ⟨e1, e2⟩
  · rw [pNB_in hw (by omega)]
    have b1 : σ 47 w = σ 89 (22 + 4 * w) := (hM.2.2.2.2.2.2.1 w hw).1
    simp (disch := first | assumption | omega | decide) only [li0, li1, li2, li3, li4, li5, li6, li7, li8, li9, li10, li11, li12, li13, li14, li16, li17, li20, li21, li22, li23, li24, li30, li32, li40, li48, li57, li59, li63, li86, li97, li99, li100, li102, li115, li122, li200, li255, li289, li320, li400, li720, li999, li1000, nI_add, pk_mul, nI_sub, nI_clamp, vinT, Nat.le_refl, Nat.reduceLeDiff, Nat.reduceLT, Nat.reduceEqDiff, Nat.reduceAdd, Nat.reduceMul, Nat.reduceSub, forall_eq, true_and, and_true, not_true_eq_false, not_false_eq_true, false_implies, true_implies, implies_true, if_true, if_false, ite_self, nI_eqI, nI_leI2, nI_ltI2, wM_kind, @eM_isWareAt (nI w) σ _ nw hW.2.1 hn, pB_in hw, b1, eM_kindOf]
    exact h
  · rw [e2]
    simp (disch := first | assumption | omega | decide) only [li0, li1, li2, li3, li4, li5, li6, li7, li8, li9, li10, li11, li12, li13, li14, li16, li17, li20, li21, li22, li23, li24, li30, li32, li40, li48, li57, li59, li63, li86, li97, li99, li100, li102, li115, li122, li200, li255, li289, li320, li400, li720, li999, li1000, nI_add, pk_mul, nI_sub, nI_clamp, vinT, Nat.le_refl, Nat.reduceLeDiff, Nat.reduceLT, Nat.reduceEqDiff, Nat.reduceAdd, Nat.reduceMul, Nat.reduceSub, forall_eq, true_and, and_true, not_true_eq_false, not_false_eq_true, false_implies, true_implies, implies_true, if_true, if_false, ite_self, nI_eqI, nI_leI2, nI_ltI2, wM_kind, @eM_isWareAt x1 σ _ nw hW.2.1 hn, e1]
    exact h
theorem op_as {k : Nat} {x1 x2 : Int32} {σ : gM} (h : pInv k σ) : pBoth (wH_as x1 x2) (wM_as x1 x2) σ (pInv k) := by
  obtain ⟨nb, nw, nl, hp, hM, hW⟩ := h.2.2.2.2.2.2.1
  have hn : nw ≤ 16 := hW.2.2.2.2.1
  unfold pBoth wH_as
  rw [eH_isNoWare hM.2.2.2.1]
  rcases i_in x1 nw (by omega) with ⟨w, hw, rfl⟩ | ⟨e1, e2⟩
  · rw [pNB_in hw (by omega)]
    have b1 : σ 47 w = σ 89 (22 + 4 * w) := (hM.2.2.2.2.2.2.1 w hw).1
    obtain ⟨kd, wo, ag, a1, a2, -, -, a5, -⟩ := hW.2.2.2.2.2.2.2.2.2.2.2 w hw
    rcases i_nat x2 with hx | ⟨t, ht, rfl⟩
    · simp (disch := first | assumption | omega | decide) only [li0, li1, li2, li3, li4, li5, li6, li7, li8, li9, li10, li11, li12, li13, li14, li16, li17, li20, li21, li22, li23, li24, li30, li32, li40, li48, li57, li59, li63, li86, li97, li99, li100, li102, li115, li122, li200, li255, li289, li320, li400, li720, li999, li1000, nI_add, pk_mul, nI_sub, nI_clamp, vinT, Nat.le_refl, Nat.reduceLeDiff, Nat.reduceLT, Nat.reduceEqDiff, Nat.reduceAdd, Nat.reduceMul, Nat.reduceSub, forall_eq, true_and, and_true, not_true_eq_false, not_false_eq_true, false_implies, true_implies, implies_true, if_true, if_false, ite_self, nI_eqI, nI_leI2, nI_ltI2, ng_lt, ng_le, ng_gt, ng_ge, ng_eq, ng_qe, wM_as, @eM_isWareAt (nI w) σ _ nw hW.2.1 hn, pB_in hw, eM_in]
      exact h
    · by_cases ht5 : t ≤ 5
      · have ht5' : ¬ 5 < t := by omega
        by_cases hs : pSuch (nI kd) (nI t) = true
        · simp (disch := first | assumption | omega | decide) only [li0, li1, li2, li3, li4, li5, li6, li7, li8, li9, li10, li11, li12, li13, li14, li16, li17, li20, li21, li22, li23, li24, li30, li32, li40, li48, li57, li59, li63, li86, li97, li99, li100, li102, li115, li122, li200, li255, li289, li320, li400, li720, li999, li1000, nI_add, pk_mul, nI_sub, nI_clamp, vinT, Nat.le_refl, Nat.reduceLeDiff, Nat.reduceLT, Nat.reduceEqDiff, Nat.reduceAdd, Nat.reduceMul, Nat.reduceSub, forall_eq, true_and, and_true, not_true_eq_false, not_false_eq_true, false_implies, true_implies, implies_true, if_true, if_false, ite_self, nI_eqI, nI_leI2, nI_ltI2, gU_ne, gU_eq, gU_off, wM_as, eM_isWareAt0, pBx_nI, hW.2.1, pB_in hw, eM_in, b1, a5, eH_isSuch, Nat.not_lt_zero, ht5, ht5', eM_kindOf, eM_isOf, wH_found, wH_unfound, wM_finds, wM_did, hs]
          exact pInv_st _ h
        · simp (disch := first | assumption | omega | decide) only [li0, li1, li2, li3, li4, li5, li6, li7, li8, li9, li10, li11, li12, li13, li14, li16, li17, li20, li21, li22, li23, li24, li30, li32, li40, li48, li57, li59, li63, li86, li97, li99, li100, li102, li115, li122, li200, li255, li289, li320, li400, li720, li999, li1000, nI_add, pk_mul, nI_sub, nI_clamp, vinT, Nat.le_refl, Nat.reduceLeDiff, Nat.reduceLT, Nat.reduceEqDiff, Nat.reduceAdd, Nat.reduceMul, Nat.reduceSub, forall_eq, true_and, and_true, not_true_eq_false, not_false_eq_true, false_implies, true_implies, implies_true, if_true, if_false, ite_self, nI_eqI, nI_leI2, nI_ltI2, gU_ne, gU_eq, gU_off, wM_as, eM_isWareAt0, pBx_nI, hW.2.1, pB_in hw, eM_in, b1, a5, eH_isSuch, Nat.not_lt_zero, ht5, ht5', eM_kindOf, eM_isOf, wH_found, wH_unfound, wM_finds, wM_did, hs, Bool.false_eq_true]
          exact pInv_st _ h
      · have ht5' : 5 < t := by omega
        simp (disch := first | assumption | omega | decide) only [li0, li1, li2, li3, li4, li5, li6, li7, li8, li9, li10, li11, li12, li13, li14, li16, li17, li20, li21, li22, li23, li24, li30, li32, li40, li48, li57, li59, li63, li86, li97, li99, li100, li102, li115, li122, li200, li255, li289, li320, li400, li720, li999, li1000, nI_add, pk_mul, nI_sub, nI_clamp, vinT, Nat.le_refl, Nat.reduceLeDiff, Nat.reduceLT, Nat.reduceEqDiff, Nat.reduceAdd, Nat.reduceMul, Nat.reduceSub, forall_eq, true_and, and_true, not_true_eq_false, not_false_eq_true, false_implies, true_implies, implies_true, if_true, if_false, ite_self, nI_eqI, nI_leI2, nI_ltI2, wM_as, @eM_isWareAt (nI w) σ _ nw hW.2.1 hn, pB_in hw, eM_in, Nat.not_lt_zero, ht5, ht5']
        exact h
  · rw [e2]
    simp (disch := first | assumption | omega | decide) only [li0, li1, li2, li3, li4, li5, li6, li7, li8, li9, li10, li11, li12, li13, li14, li16, li17, li20, li21, li22, li23, li24, li30, li32, li40, li48, li57, li59, li63, li86, li97, li99, li100, li102, li115, li122, li200, li255, li289, li320, li400, li720, li999, li1000, nI_add, pk_mul, nI_sub, nI_clamp, vinT, Nat.le_refl, Nat.reduceLeDiff, Nat.reduceLT, Nat.reduceEqDiff, Nat.reduceAdd, Nat.reduceMul, Nat.reduceSub, forall_eq, true_and, and_true, not_true_eq_false, not_false_eq_true, false_implies, true_implies, implies_true, if_true, if_false, ite_self, nI_eqI, nI_leI2, nI_ltI2, wM_as, @eM_isWareAt x1 σ _ nw hW.2.1 hn, e1]
    exact h
theorem op_trace {k : Nat} {x1 : Int32} {σ : gM} (h : pInv k σ) : pBoth (wH_trace x1) (wM_trace x1) σ (pInv k) := by
  obtain ⟨t, ht, t1, t2, t3⟩ := h.2.2.2.2.1
  unfold pBoth wH_trace
  rcases i_in x1 t (by omega) with ⟨i, hi, rfl⟩ | ⟨e1, e2⟩
  · have hi2 : ¬ t - 1 < i := by omega
    have h1 : 1 ≤ t := by omega
    simp (disch := first | assumption | omega | decide) only [li0, li1, li2, li3, li4, li5, li6, li7, li8, li9, li10, li11, li12, li13, li14, li16, li17, li20, li21, li22, li23, li24, li30, li32, li40, li48, li57, li59, li63, li86, li97, li99, li100, li102, li115, li122, li200, li255, li289, li320, li400, li720, li999, li1000, nI_add, pk_mul, nI_sub, nI_clamp, vinT, Nat.le_refl, Nat.reduceLeDiff, Nat.reduceLT, Nat.reduceEqDiff, Nat.reduceAdd, Nat.reduceMul, Nat.reduceSub, forall_eq, true_and, and_true, not_true_eq_false, not_false_eq_true, false_implies, true_implies, implies_true, if_true, if_false, ite_self, nI_eqI, nI_leI2, nI_ltI2, wM_trace, t1, t2, hi, Nat.not_lt_zero, eM_in, hi2, t3 i hi]
    exact h
  · have e3 := e_inRange (x := x1) (n := t) (by omega)
    rw [e1] at e3
    simp (disch := first | assumption | omega | decide) only [forall_eq, wM_trace, t1, t2, eM_in, e3, Nat.le_refl, Nat.reduceLeDiff, Nat.reduceLT, Nat.reduceEqDiff, Nat.reduceAdd, Nat.reduceMul, Nat.reduceSub, forall_eq, true_and, and_true, not_true_eq_false, not_false_eq_true, false_implies, true_implies, implies_true, if_true, if_false, ite_self]
    unfold pB at e1
    by_cases q : x1 < nI 0
    · simp only [q, Nat.le_refl, Nat.reduceLeDiff, Nat.reduceLT, Nat.reduceEqDiff, Nat.reduceAdd, Nat.reduceMul, Nat.reduceSub, forall_eq, true_and, and_true, not_true_eq_false, not_false_eq_true, false_implies, true_implies, implies_true, if_true, if_false, ite_self]
      exact h
    · rw [if_neg q] at e1
      have q2 : ¬ x1 < nI t := fun a => by rw [if_pos a] at e1; exact absurd e1 (by decide)
      simp only [q, q2, Nat.le_refl, Nat.reduceLeDiff, Nat.reduceLT, Nat.reduceEqDiff, Nat.reduceAdd, Nat.reduceMul, Nat.reduceSub, forall_eq, true_and, and_true, not_true_eq_false, not_false_eq_true, false_implies, true_implies, implies_true, if_true, if_false, ite_self]
      exact h
