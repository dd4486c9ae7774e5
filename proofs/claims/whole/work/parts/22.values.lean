/-! MARKETS: the class's at a base b holds what the reference's row N holds; N is well formed -/
def pMk (σ : gM) (b : Nat) (N : Nat → Int32) (nb nw nl : Nat) : Prop :=
  σ b 1 = N 1 ∧ σ b 2 = N 4 ∧ σ b 3 = nI nb ∧ σ b 4 = nI nw ∧ σ b 5 = nI nl ∧
  (∀ i, i < nb → σ (b + 1) i = N (6 + 4 * i) ∧ σ (b + 2) i = N (6 + 4 * i + 1) ∧ σ (b + 3) i = N (6 + 4 * i + 2) ∧ σ (b + 4) i = N (6 + 4 * i + 3)) ∧
  (∀ w, w < nw → σ (b + 5) w = N (22 + 4 * w) ∧ σ (b + 6) w = N (22 + 4 * w + 1) ∧ σ (b + 7) w = N (22 + 4 * w + 2) ∧ σ (b + 8) w = N (22 + 4 * w + 3)) ∧
  (∀ i, i < nl → σ (b + 9) i = N (86 + i))
def pWF (k : Nat) (N : Nat → Int32) (nb nw nl : Nat) (hp : Nat → Nat) : Prop :=
  N 2 = nI nb ∧ N 3 = nI nw ∧ N 5 = nI nl ∧ nb ≤ 4 ∧ nw ≤ 16 ∧ nl ≤ nw ∧ (N 1 = nI 0 ∨ N 1 = nI 1) ∧ (∃ dy : Nat, dy ≤ k ∧ N 4 = nI dy) ∧
  (∀ i, i < nl → hp i < nw ∧ N (86 + i) = nI (hp i) ∧ N (22 + 4 * hp i + 3) = -1000000) ∧ (∀ i j, i < nl → j < nl → hp i = hp j → i = j) ∧
  (∀ b, b < nb → ∃ t : Nat, t ≤ 5 ∧ N (6 + 4 * b) = nI t) ∧
  (∀ w, w < nw → ∃ kd wo ag : Nat, 1 ≤ kd ∧ kd ≤ 5 ∧ wo ≤ 30 ∧ ag ≤ 9 + k ∧ N (22 + 4 * w) = nI kd ∧ N (22 + 4 * w + 1) = nI wo ∧ N (22 + 4 * w + 2) = nI ag)
/-- in range: 1, 0 -/
def pB (x : Int32) (n : Nat) : Int32 := if x < nI 0 then nI 0 else if x < nI n then nI 1 else nI 0
def pNB (x : Int32) (n : Nat) : Int32 := if x < nI 0 then nI 1 else if x < nI n then nI 0 else nI 1
theorem pB_ng {x : Int32} {n : Nat} (h : x < nI 0) : pB x n = nI 0 := by simp [pB, h]
theorem pNB_ng {x : Int32} {n : Nat} (h : x < nI 0) : pNB x n = nI 1 := by simp [pNB, h]
theorem pB_in {i n : Nat} (h : i < n) (hn : n < 2147483648) : pB (nI i) n = nI 1 := by
  simp (disch := first | assumption | omega | decide) only [pB, li0, li1, li2, li3, li4, li5, li6, li7, li8, li9, li10, li11, li12, li13, li14, li16, li17, li20, li21, li22, li23, li24, li30, li32, li40, li48, li57, li59, li63, li86, li97, li99, li100, li102, li115, li122, li200, li255, li289, li320, li400, li720, li999, li1000, nI_add, pk_mul, nI_sub, nI_clamp, vinT, Nat.le_refl, Nat.reduceLeDiff, Nat.reduceLT, Nat.reduceEqDiff, Nat.reduceAdd, Nat.reduceMul, Nat.reduceSub, forall_eq, true_and, and_true, not_true_eq_false, not_false_eq_true, false_implies, true_implies, implies_true, if_true, if_false, ite_self, nI_eqI, nI_leI2, nI_ltI2, h, Nat.not_lt_zero]
theorem pNB_in {i n : Nat} (h : i < n) (hn : n < 2147483648) : pNB (nI i) n = nI 0 := by
  simp (disch := first | assumption | omega | decide) only [pNB, li0, li1, li2, li3, li4, li5, li6, li7, li8, li9, li10, li11, li12, li13, li14, li16, li17, li20, li21, li22, li23, li24, li30, li32, li40, li48, li57, li59, li63, li86, li97, li99, li100, li102, li115, li122, li200, li255, li289, li320, li400, li720, li999, li1000, nI_add, pk_mul, nI_sub, nI_clamp, vinT, Nat.le_refl, Nat.reduceLeDiff, Nat.reduceLT, Nat.reduceEqDiff, Nat.reduceAdd, Nat.reduceMul, Nat.reduceSub, forall_eq, true_and, and_true, not_true_eq_false, not_false_eq_true, false_implies, true_implies, implies_true, if_true, if_false, ite_self, nI_eqI, nI_leI2, nI_ltI2, h, Nat.not_lt_zero]
theorem pB_out {i n : Nat} (h : n ≤ i) (hi : i < 2147483648) : pB (nI i) n = nI 0 := by
  have h2 : ¬ i < n := by omega
  simp (disch := first | assumption | omega | decide) only [pB, li0, li1, li2, li3, li4, li5, li6, li7, li8, li9, li10, li11, li12, li13, li14, li16, li17, li20, li21, li22, li23, li24, li30, li32, li40, li48, li57, li59, li63, li86, li97, li99, li100, li102, li115, li122, li200, li255, li289, li320, li400, li720, li999, li1000, nI_add, pk_mul, nI_sub, nI_clamp, vinT, Nat.le_refl, Nat.reduceLeDiff, Nat.reduceLT, Nat.reduceEqDiff, Nat.reduceAdd, Nat.reduceMul, Nat.reduceSub, forall_eq, true_and, and_true, not_true_eq_false, not_false_eq_true, false_implies, true_implies, implies_true, if_true, if_false, ite_self, nI_eqI, nI_leI2, nI_ltI2, h2, Nat.not_lt_zero]
theorem pNB_out {i n : Nat} (h : n ≤ i) (hi : i < 2147483648) : pNB (nI i) n = nI 1 := by
  have h2 : ¬ i < n := by omega
  simp (disch := first | assumption | omega | decide) only [pNB, li0, li1, li2, li3, li4, li5, li6, li7, li8, li9, li10, li11, li12, li13, li14, li16, li17, li20, li21, li22, li23, li24, li30, li32, li40, li48, li57, li59, li63, li86, li97, li99, li100, li102, li115, li122, li200, li255, li289, li320, li400, li720, li999, li1000, nI_add, pk_mul, nI_sub, nI_clamp, vinT, Nat.le_refl, Nat.reduceLeDiff, Nat.reduceLT, Nat.reduceEqDiff, Nat.reduceAdd, Nat.reduceMul, Nat.reduceSub, forall_eq, true_and, and_true, not_true_eq_false, not_false_eq_true, false_implies, true_implies, implies_true, if_true, if_false, ite_self, nI_eqI, nI_leI2, nI_ltI2, h2, Nat.not_lt_zero]
/-- an index in range, or not -/
theorem i_in (x : Int32) (n : Nat) (hn : n < 2147483648) : (∃ i, i < n ∧ x = nI i) ∨ (pB x n = nI 0 ∧ pNB x n = nI 1) := by
  rcases i_nat x with h | ⟨i, hi, rfl⟩
  · exact Or.inr ⟨pB_ng h, pNB_ng h⟩
  · by_cases hin : i < n
    · exact Or.inl ⟨i, hin, rfl⟩
    · exact Or.inr ⟨pB_out (by omega) hi, pNB_out (by omega) hi⟩
theorem e_inRange {x : Int32} {n : Nat} (hn : n < 2147483648) : (if x < nI 0 then nI 0 else if nI n - nI 1 < x then nI 0 else nI 1) = pB x n := by
  rcases i_nat x with h | ⟨i, hi, rfl⟩
  · rw [pB_ng h, if_pos h]
  · cases n with
    | zero =>
      rw [pB_out (by omega) hi]
      have h1 : nI 0 - nI 1 < nI i := by
        rw [i_lt, nI_I hi]
        show (-1 : Int) < _
        omega
      simp [h1]
    | succ n =>
      by_cases hin : i < n + 1
      · rw [pB_in hin hn]
        simp (disch := first | assumption | omega | decide) only [li0, li1, li2, li3, li4, li5, li6, li7, li8, li9, li10, li11, li12, li13, li14, li16, li17, li20, li21, li22, li23, li24, li30, li32, li40, li48, li57, li59, li63, li86, li97, li99, li100, li102, li115, li122, li200, li255, li289, li320, li400, li720, li999, li1000, nI_add, pk_mul, nI_sub, nI_clamp, vinT, Nat.le_refl, Nat.reduceLeDiff, Nat.reduceLT, Nat.reduceEqDiff, Nat.reduceAdd, Nat.reduceMul, Nat.reduceSub, forall_eq, true_and, and_true, not_true_eq_false, not_false_eq_true, false_implies, true_implies, implies_true, if_true, if_false, ite_self, nI_eqI, nI_leI2, nI_ltI2, Nat.not_lt_zero, Nat.add_sub_cancel]
        rw [if_neg (by omega)]
      · rw [pB_out (by omega) hi]
        simp (disch := first | assumption | omega | decide) only [li0, li1, li2, li3, li4, li5, li6, li7, li8, li9, li10, li11, li12, li13, li14, li16, li17, li20, li21, li22, li23, li24, li30, li32, li40, li48, li57, li59, li63, li86, li97, li99, li100, li102, li115, li122, li200, li255, li289, li320, li400, li720, li999, li1000, nI_add, pk_mul, nI_sub, nI_clamp, vinT, Nat.le_refl, Nat.reduceLeDiff, Nat.reduceLT, Nat.reduceEqDiff, Nat.reduceAdd, Nat.reduceMul, Nat.reduceSub, forall_eq, true_and, and_true, not_true_eq_false, not_false_eq_true, false_implies, true_implies, implies_true, if_true, if_false, ite_self, nI_eqI, nI_leI2, nI_ltI2, Nat.not_lt_zero, Nat.add_sub_cancel]
        rw [if_pos (by omega)]
theorem pB_01 (x : Int32) (n : Nat) : pB x n = nI 0 ∨ pB x n = nI 1 := by
  unfold pB
  split
  · exact Or.inl rfl
  · split
    · exact Or.inr rfl
    · exact Or.inl rfl
theorem pNB_01 (x : Int32) (n : Nat) : pNB x n = nI 0 ∨ pNB x n = nI 1 := by
  unfold pNB
  split
  · exact Or.inr rfl
  · split
    · exact Or.inl rfl
    · exact Or.inr rfl
def pBx (x m : Int32) : Int32 := if x < nI 0 then nI 0 else if m - nI 1 < x then nI 0 else nI 1
theorem pBx_nI {x : Int32} {n : Nat} (hn : n < 2147483648) : pBx x (nI n) = pB x n := e_inRange hn
theorem eM_isWareAt0 {x : Int32} {σ : gM} {Q : Int32 → gM → Prop} : wM_isWareAt x σ Q = Q (pBx x (σ 89 3)) σ := by
  unfold wM_isWareAt
  simp only [eM_in]
  show ((pBx x (σ 89 3) = nI 0 ∨ pBx x (σ 89 3) = nI 1) ∧ Q (pBx x (σ 89 3)) σ) = _
  have : pBx x (σ 89 3) = nI 0 ∨ pBx x (σ 89 3) = nI 1 := by
    unfold pBx
    split
    · exact Or.inl rfl
    · split
      · exact Or.inl rfl
      · exact Or.inr rfl
  simp [this]
theorem eM_isBuyerAt0 {x : Int32} {σ : gM} {Q : Int32 → gM → Prop} : wM_isBuyerAt x σ Q = Q (pBx x (σ 89 2)) σ := by
  unfold wM_isBuyerAt
  simp only [eM_in]
  show ((pBx x (σ 89 2) = nI 0 ∨ pBx x (σ 89 2) = nI 1) ∧ Q (pBx x (σ 89 2)) σ) = _
  have : pBx x (σ 89 2) = nI 0 ∨ pBx x (σ 89 2) = nI 1 := by
    unfold pBx
    split
    · exact Or.inl rfl
    · split
      · exact Or.inl rfl
      · exact Or.inr rfl
  simp [this]
theorem eM_isWareAt {x : Int32} {σ : gM} {Q : Int32 → gM → Prop} {nw : Nat} (h : σ 89 3 = nI nw) (hn : nw ≤ 16) : wM_isWareAt x σ Q = Q (pB x nw) σ := by
  unfold wM_isWareAt
  simp only [eM_in, li0, li1, li2, li3, li4, li5, li6, li7, li8, li9, li10, li11, li12, li13, li14, li16, li17, li20, li21, li22, li23, li24, li30, li32, li40, li48, li57, li59, li63, li86, li97, li99, li100, li102, li115, li122, li200, li255, li289, li320, li400, li720, li999, li1000, h]
  rw [e_inRange (by omega)]
  rcases pB_01 x nw with e | e <;> simp [e]
theorem eM_isBuyerAt {x : Int32} {σ : gM} {Q : Int32 → gM → Prop} {nb : Nat} (h : σ 89 2 = nI nb) (hn : nb ≤ 4) : wM_isBuyerAt x σ Q = Q (pB x nb) σ := by
  unfold wM_isBuyerAt
  simp only [eM_in, li0, li1, li2, li3, li4, li5, li6, li7, li8, li9, li10, li11, li12, li13, li14, li16, li17, li20, li21, li22, li23, li24, li30, li32, li40, li48, li57, li59, li63, li86, li97, li99, li100, li102, li115, li122, li200, li255, li289, li320, li400, li720, li999, li1000, h]
  rw [e_inRange (by omega)]
  rcases pB_01 x nb with e | e <;> simp [e]
theorem eH_isNoWare {x : Int32} {σ : gM} {Q : Int32 → gM → Prop} {nw : Nat} (h : σ 42 4 = nI nw) : wH_isNoWare x σ Q = Q (pNB x nw) σ := by
  unfold wH_isNoWare
  simp only [forall_eq, h]
  exact propext ⟨fun q => q.2, fun q => ⟨pNB_01 x nw, q⟩⟩
theorem eH_isNoBuyer {x : Int32} {σ : gM} {Q : Int32 → gM → Prop} {nb : Nat} (h : σ 42 3 = nI nb) : wH_isNoBuyer x σ Q = Q (pNB x nb) σ := by
  unfold wH_isNoBuyer
  simp only [forall_eq, h]
  exact propext ⟨fun q => q.2, fun q => ⟨pNB_01 x nb, q⟩⟩
theorem eM_heap {i : Nat} {σ : gM} {Q : Int32 → gM → Prop} (hi : i < 16) : wM_heap (nI i) σ Q = Q (σ 89 (86 + i)) σ := by
  unfold wM_heap
  simp (disch := first | assumption | omega | decide) only [li0, li1, li2, li3, li4, li5, li6, li7, li8, li9, li10, li11, li12, li13, li14, li16, li17, li20, li21, li22, li23, li24, li30, li32, li40, li48, li57, li59, li63, li86, li97, li99, li100, li102, li115, li122, li200, li255, li289, li320, li400, li720, li999, li1000, nI_add, pk_mul, nI_sub, nI_clamp, vinT, Nat.le_refl, Nat.reduceLeDiff, Nat.reduceLT, Nat.reduceEqDiff, Nat.reduceAdd, Nat.reduceMul, Nat.reduceSub, forall_eq, true_and, and_true, not_true_eq_false, not_false_eq_true, false_implies, true_implies, implies_true, if_true, if_false, ite_self, nI_eqI, nI_leI2, nI_ltI2]
theorem eM_kindOf {w : Nat} {σ : gM} {Q : Int32 → gM → Prop} (hw : w < 16) : wM_kindOf (nI w) σ Q = Q (σ 89 (22 + 4 * w)) σ := by
  unfold wM_kindOf
  simp (disch := first | assumption | omega | decide) only [li0, li1, li2, li3, li4, li5, li6, li7, li8, li9, li10, li11, li12, li13, li14, li16, li17, li20, li21, li22, li23, li24, li30, li32, li40, li48, li57, li59, li63, li86, li97, li99, li100, li102, li115, li122, li200, li255, li289, li320, li400, li720, li999, li1000, nI_add, pk_mul, nI_sub, nI_clamp, vinT, Nat.le_refl, Nat.reduceLeDiff, Nat.reduceLT, Nat.reduceEqDiff, Nat.reduceAdd, Nat.reduceMul, Nat.reduceSub, forall_eq, true_and, and_true, not_true_eq_false, not_false_eq_true, false_implies, true_implies, implies_true, if_true, if_false, ite_self, nI_eqI, nI_leI2, nI_ltI2]
theorem eM_valueOf {w : Nat} {d : Int32} {σ : gM} {Q : Int32 → gM → Prop} (hw : w < 16) : wM_valueOf (nI w) d σ Q = Q (pV (σ 89) w d) σ := by
  unfold wM_valueOf
  simp (disch := first | assumption | omega | decide) only [li0, li1, li2, li3, li4, li5, li6, li7, li8, li9, li10, li11, li12, li13, li14, li16, li17, li20, li21, li22, li23, li24, li30, li32, li40, li48, li57, li59, li63, li86, li97, li99, li100, li102, li115, li122, li200, li255, li289, li320, li400, li720, li999, li1000, nI_add, pk_mul, nI_sub, nI_clamp, vinT, Nat.le_refl, Nat.reduceLeDiff, Nat.reduceLT, Nat.reduceEqDiff, Nat.reduceAdd, Nat.reduceMul, Nat.reduceSub, forall_eq, true_and, and_true, not_true_eq_false, not_false_eq_true, false_implies, true_implies, implies_true, if_true, if_false, ite_self, nI_eqI, nI_leI2, nI_ltI2, eM_kindOf]
  unfold pV pVal pRip
  generalize σ 89 (22 + 4 * w) = kk
  by_cases h1 : kk = nI 1
  · subst h1; simp (disch := first | assumption | omega | decide) [nI_eqI]
  · by_cases h2 : kk = nI 2
    · subst h2; simp (disch := first | assumption | omega | decide) [nI_eqI]
    · by_cases h3 : kk = nI 3
      · subst h3; simp (disch := first | assumption | omega | decide) [nI_eqI]
      · by_cases h4 : kk = nI 4
        · subst h4; simp (disch := first | assumption | omega | decide) [nI_eqI]
        · simp [h1, h2, h3, h4]
theorem eM_isOf {k t : Int32} {σ : gM} {Q : Int32 → gM → Prop} : wM_isOf k t σ Q = Q (if pSuch k t = true then nI 1 else nI 0) σ := by
  unfold wM_isOf pSuch
  simp only [li0, li1, li2, li3, li4, li5, li6, li7, li8, li9, li10, li11, li12, li13, li14, li16, li17, li20, li21, li22, li23, li24, li30, li32, li40, li48, li57, li59, li63, li86, li97, li99, li100, li102, li115, li122, li200, li255, li289, li320, li400, li720, li999, li1000, eM_in, forall_eq]
  by_cases h0 : t = nI 0
  · simp [h0]
  · by_cases h1 : t = k
    · simp [h1]
    · by_cases h2 : t = nI 1
      · subst h2
        have e4 : ¬ nI 1 = nI 4 := by decide
        by_cases a : k = nI 2
        · subst a; simp (disch := first | assumption | omega | decide) [nI_eqI, nI_leI2, nI_ltI2]
        · by_cases b : k = nI 3
          · subst b; simp (disch := first | assumption | omega | decide) [nI_eqI, nI_leI2, nI_ltI2]
          · have c : (if k < nI 2 then nI 0 else if nI 3 < k then nI 0 else nI 1) = nI 0 := by
              split
              · rfl
              · split
                · rfl
                · rename_i q1 q2
                  exfalso
                  rw [i_lt, nI_I (by omega)] at q1 q2
                  have : k.toInt = 2 ∨ k.toInt = 3 := by omega
                  rcases this with q | q
                  · exact a (i_eq.mpr (by rw [q, nI_I (by omega)]; rfl))
                  · exact b (i_eq.mpr (by rw [q, nI_I (by omega)]; rfl))
            rw [c]
            simp [h0, h1, e4, a, b]
      · by_cases h4 : t = nI 4
        · subst h4
          by_cases h5 : k = nI 5 <;> simp (disch := first | assumption | omega | decide) [h1, h5, nI_eqI, nI_leI2, nI_ltI2]
        · simp [h0, h1, h2, h4]
theorem eM_worthOf {w b : Nat} {d : Int32} {σ : gM} {Q : Int32 → gM → Prop} (hw : w < 16) (hb : b < 4) : wM_worthOf (nI w) (nI b) d σ Q = Q (pVT (σ 89) b w d) σ := by
  unfold wM_worthOf pVT
  simp (disch := first | assumption | omega | decide) only [li0, li1, li2, li3, li4, li5, li6, li7, li8, li9, li10, li11, li12, li13, li14, li16, li17, li20, li21, li22, li23, li24, li30, li32, li40, li48, li57, li59, li63, li86, li97, li99, li100, li102, li115, li122, li200, li255, li289, li320, li400, li720, li999, li1000, nI_add, pk_mul, nI_sub, nI_clamp, vinT, Nat.le_refl, Nat.reduceLeDiff, Nat.reduceLT, Nat.reduceEqDiff, Nat.reduceAdd, Nat.reduceMul, Nat.reduceSub, forall_eq, true_and, and_true, not_true_eq_false, not_false_eq_true, false_implies, true_implies, implies_true, if_true, if_false, ite_self, nI_eqI, nI_leI2, nI_ltI2, eM_kindOf, eM_isOf, eM_valueOf]
  by_cases h : pSuch (σ 89 (22 + 4 * w)) (σ 89 (6 + 4 * b)) = true <;> simp (disch := first | assumption | omega | decide) [h, nI_eqI]
theorem eK_ripened {k wo ag : Int32} {σ : gM} {Q : Int32 → gM → Prop} {kd : Nat} (hk : k = nI kd) (h5 : kd ≤ 5) (h1 : 1 ≤ kd) : wK_ripened k wo ag σ Q = Q (pRip k wo ag) σ := by
  subst hk
  unfold wK_ripened pRip
  have e : (if nI 5 < ag then wo + nI 5 - nI 2 * (ag - nI 5) else wo + ag) = (if nI 6 ≤ ag then wo + nI 5 - nI 2 * (ag - nI 5) else wo + ag) := by
    have : (nI 5 < ag) ↔ (nI 6 ≤ ag) := by
      rw [i_lt, i_le, nI_I (by omega), nI_I (by omega)]
      omega
    simp [this]
  simp only [forall_eq, li0, li1, li2, li3, li4, li5, li6, li7, li8, li9, li10, li11, li12, li13, li14, li16, li17, li20, li21, li22, li23, li24, li30, li32, li40, li48, li57, li59, li63, li86, li97, li99, li100, li102, li115, li122, li200, li255, li289, li320, li400, li720, li999, li1000, e]
  have : kd = 1 ∨ kd = 2 ∨ kd = 3 ∨ kd = 4 ∨ kd = 5 := by omega
  rcases this with rfl | rfl | rfl | rfl | rfl <;> simp (disch := first | assumption | omega | decide) [nI_eqI] <;> rw [← e]
theorem e_max0 (r : Int32) : (if nI 0 < r then r else nI 0) = (if nI 0 ≤ r then r else nI 0) := by
  by_cases h : nI 0 < r
  · rw [if_pos h, if_pos (by rw [i_lt] at h; rw [i_le]; omega)]
  · rw [if_neg h]
    by_cases h2 : nI 0 ≤ r
    · rw [if_pos h2]
      exact i_eq.mpr (by rw [i_lt] at h; rw [i_le] at h2; omega)
    · rw [if_neg h2]
