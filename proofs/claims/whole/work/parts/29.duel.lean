/-! SEATED, LINED UP -/
theorem pG_congr {la lb la' lb' : Nat → Int32} {tf tf' : Nat → Bool} : ∀ (len i : Nat), (∀ j, i ≤ j → j < i + len → la j = la' j ∧ lb j = lb' j) → (∀ l, 1 ≤ l → l ≤ len → tf l = tf' l) → pG la lb tf len i = pG la' lb' tf' len i
  | 0, _, _, _ => rfl
  | len + 1, i, h, ht => by
    rw [pG, pG, pG_congr len (i + 1) (fun j h1 h2 => h j (by omega) (by omega)) (fun l h1 h2 => ht l h1 (by omega)), pG_congr len i (fun j h1 h2 => h j h1 (by omega)) (fun l h1 h2 => ht l h1 (by omega)), ht (len + 1) (by omega) (by omega)]
    unfold pStp
    rw [(h i (by omega) (by omega)).1, (h i (by omega) (by omega)).2, (h (i + len) (by omega) (by omega)).1, (h (i + len) (by omega) (by omega)).2]
theorem pStE_congr {la lb la' lb' : Nat → Int32} {t : Bool} {i len : Nat} {f g : Int32 × Int32} (h1 : la i = la' i ∧ lb i = lb' i) (h2 : la (i + len) = la' (i + len) ∧ lb (i + len) = lb' (i + len)) : pStE la lb t i len f g = pStE la' lb' t i len f g := by
  unfold pStE
  rw [h1.1, h1.2, h2.1, h2.2]
section Seat
variable {k nb nw nl a b : Nat} {N : Nat → Int32} {hp : Nat → Nat} {σ0 : gM} {Q : gM → Prop}
/-- the duel seated up to a place -/
def pSeat (N : Nat → Int32) (nl a b : Nat) (hp : Nat → Nat) (σ0 σ : gM) (i : Nat) : Prop := (∀ c, c ≠ 24 → c ≠ 26 → c ≠ 27 → c ≠ 28 → σ c = σ0 c) ∧ σ 24 3 = N 1 ∧ σ 24 4 = nI nl ∧ ∀ j, j < i → σ 26 j = nI (hp j) ∧ σ 27 (hp j) = pVT N a (hp j) (nI 0) ∧ σ 28 (hp j) = pVT N b (hp j) (nI 0)
theorem s_seat_l (hM : pMk σ0 42 N nb nw nl) (hW : pWF k N nb nw nl hp) (ha : a < nb) (hb : b < nb) (hQ : ∀ σ', pSeat N nl a b hp σ0 σ' nl → Q σ') : ∀ (m i : Nat) (σ : gM), i + m = nl → pSeat N nl a b hp σ0 σ i → wD_seat_l19 Q (m + 1) (nI a) (nI b) (nI i) σ := by
  have hn : nw ≤ 16 := hW.2.2.2.2.1
  have hl : nl ≤ nw := hW.2.2.2.2.2.1
  intro m
  induction m with
  | zero =>
    intro i σ hi hS
    have : i = nl := by omega
    subst this
    rw [wD_seat_l19]
    simp (disch := first | assumption | omega | decide) only [li0, li1, li2, li3, li4, li5, li6, li7, li8, li9, li10, li11, li12, li13, li14, li16, li17, li20, li21, li22, li23, li24, li30, li32, li40, li48, li57, li59, li63, li86, li97, li99, li100, li102, li115, li122, li200, li255, li289, li320, li400, li720, li999, li1000, nI_add, pk_mul, nI_sub, nI_clamp, vinT, Nat.le_refl, Nat.reduceLeDiff, Nat.reduceLT, Nat.reduceEqDiff, Nat.reduceAdd, Nat.reduceMul, Nat.reduceSub, forall_eq, true_and, and_true, not_true_eq_false, not_false_eq_true, false_implies, true_implies, implies_true, if_true, if_false, ite_self, nI_eqI, nI_leI2, nI_ltI2, hS.2.2.1]
    exact hQ σ hS
  | succ m ih =>
    intro i σ hi hS
    have h1 : ¬ nl ≤ i := by omega
    have hh := hW.2.2.2.2.2.2.2.2.1 i (by omega)
    have hw : hp i < nw := hh.1
    have eh : σ 51 i = nI (hp i) := by
      rw [hS.1 51 (by omega) (by omega) (by omega) (by omega)]
      exact (hM.2.2.2.2.2.2.2 i (by omega)).trans hh.2.1
    have hMf : ∀ τ : gM, (∀ c, c ≠ 24 → c ≠ 26 → c ≠ 27 → c ≠ 28 → τ c = σ0 c) → pMk τ 42 N nb nw nl := fun τ hτ => pMk_fr (fun j _ _ => by rw [hτ 42 (by omega) (by omega) (by omega) (by omega)]) (fun c c1 c2 => hτ c (by omega) (by omega) (by omega) (by omega)) hM
    have m1 : pMk (gU σ 26 i (nI (hp i))) 42 N nb nw nl := hMf _ (fun c c1 c2 c3 c4 => by rw [gU_ne c2]; exact hS.1 c c1 c2 c3 c4)
    have m2 : pMk (gU (gU σ 26 i (nI (hp i))) 27 (hp i) (pVT N a (hp i) (nI 0))) 42 N nb nw nl := hMf _ (fun c c1 c2 c3 c4 => by rw [gU_ne c3, gU_ne c2]; exact hS.1 c c1 c2 c3 c4)
    rw [wD_seat_l19]
    simp (disch := first | assumption | omega | decide) only [li0, li1, li2, li3, li4, li5, li6, li7, li8, li9, li10, li11, li12, li13, li14, li16, li17, li20, li21, li22, li23, li24, li30, li32, li40, li48, li57, li59, li63, li86, li97, li99, li100, li102, li115, li122, li200, li255, li289, li320, li400, li720, li999, li1000, nI_add, pk_mul, nI_sub, nI_clamp, vinT, Nat.le_refl, Nat.reduceLeDiff, Nat.reduceLT, Nat.reduceEqDiff, Nat.reduceAdd, Nat.reduceMul, Nat.reduceSub, forall_eq, true_and, and_true, not_true_eq_false, not_false_eq_true, false_implies, true_implies, implies_true, if_true, if_false, ite_self, nI_eqI, nI_leI2, nI_ltI2, hS.2.2.1, h1, eh, eK_valueTo m1 hW ha hw, eK_valueTo m2 hW hb hw]
    refine ih (i + 1) _ (by omega) ⟨fun c c1 c2 c3 c4 => ?_, ?_, ?_, fun j hj => ?_⟩
    · rw [gU_ne c4, gU_ne c3, gU_ne c2]; exact hS.1 c c1 c2 c3 c4
    · simp (disch := first | assumption | omega | decide) only [gU_ne]; exact hS.2.1
    · simp (disch := first | assumption | omega | decide) only [gU_ne]; exact hS.2.2.1
    · by_cases e : j = i
      · subst e
        simp (disch := first | assumption | omega | decide) only [gU_ne, gU_eq, and_self]
      · have ne : hp j ≠ hp i := fun q => e (hW.2.2.2.2.2.2.2.2.2.1 j i (by omega) (by omega) q)
        simp (disch := first | assumption | omega | decide) only [gU_ne, gU_off]
        exact hS.2.2.2 j (by omega)
theorem s_seat (hM : pMk σ0 42 N nb nw nl) (hW : pWF k N nb nw nl hp) (ha : a < nb) (hb : b < nb) (hQ : ∀ σ', pSeat N nl a b hp σ0 σ' nl → Q σ') : wD_seat (nI a) (nI b) σ0 Q := by
  unfold wD_seat
  simp only [forall_eq]
  refine ⟨nl + 1, s_seat_l hM hW ha hb hQ nl 0 _ (by omega) ⟨fun c c1 c2 c3 c4 => ?_, ?_, ?_, fun j hj => absurd hj (by omega)⟩⟩
  · rw [gU_ne c1, gU_ne c1]
  · simp (disch := first | assumption | omega | decide) only [gU_eq, gU_off]
    exact hM.1
  · simp (disch := first | assumption | omega | decide) only [gU_eq, gU_off, gU_ne]
    exact hM.2.2.2.2.1
/-- lined up from a place on -/
def pRo (nl c i : Nat) : Nat := if c + i < nl then c + i else c + i - nl
theorem pRo_lt {c i : Nat} (hc : c ≤ nl) (hi : i < nl) : pRo nl c i < nl := by unfold pRo; split <;> omega
theorem s_line_l {va vb : Nat → Int32} {c : Nat} (hn : nl ≤ 16) (hc : c < nl ∨ c = 0) (h4 : σ0 24 4 = nI nl) (hh : ∀ j, j < nl → hp j < 16 ∧ σ0 26 j = nI (hp j) ∧ σ0 27 (hp j) = va (hp j) ∧ σ0 28 (hp j) = vb (hp j)) (hQ : ∀ σ', (∀ d, d ≠ 29 → d ≠ 30 → σ' d = σ0 d) → (∀ j, j < nl → σ' 29 j = va (hp (pRo nl c j)) ∧ σ' 30 j = vb (hp (pRo nl c j))) → Q σ') : ∀ (m i : Nat) (σ : gM), i + m = nl → (∀ d, d ≠ 29 → d ≠ 30 → σ d = σ0 d) → (∀ j, j < i → σ 29 j = va (hp (pRo nl c j)) ∧ σ 30 j = vb (hp (pRo nl c j))) → wD_lineUpFrom_l2 Q (m + 1) (nI c) (nI i) σ := by
  intro m
  induction m with
  | zero =>
    intro i σ hi hF hS
    have : i = nl := by omega
    subst this
    have e4 : σ 24 4 = nI i := by rw [hF 24 (by omega) (by omega)]; exact h4
    rw [wD_lineUpFrom_l2]
    simp (disch := first | assumption | omega | decide) only [li0, li1, li2, li3, li4, li5, li6, li7, li8, li9, li10, li11, li12, li13, li14, li16, li17, li20, li21, li22, li23, li24, li30, li32, li40, li48, li57, li59, li63, li86, li97, li99, li100, li102, li115, li122, li200, li255, li289, li320, li400, li720, li999, li1000, nI_add, pk_mul, nI_sub, nI_clamp, vinT, Nat.le_refl, Nat.reduceLeDiff, Nat.reduceLT, Nat.reduceEqDiff, Nat.reduceAdd, Nat.reduceMul, Nat.reduceSub, forall_eq, true_and, and_true, not_true_eq_false, not_false_eq_true, false_implies, true_implies, implies_true, if_true, if_false, ite_self, nI_eqI, nI_leI2, nI_ltI2, e4]
    exact hQ σ hF hS
  | succ m ih =>
    intro i σ hi hF hS
    have h1 : ¬ nl ≤ i := by omega
    have e4 : σ 24 4 = nI nl := by rw [hF 24 (by omega) (by omega)]; exact h4
    have er : (if nI nl ≤ nI c + nI i then nI c + nI i - nI nl else nI c + nI i) = nI (pRo nl c i) := by
      simp (disch := first | assumption | omega | decide) only [nI_add, nI_leI2]
      unfold pRo
      by_cases q : c + i < nl
      · rw [if_neg (by omega), if_pos q]
      · rw [if_pos (by omega), if_neg q, nI_sub (by omega)]
    have hr : pRo nl c i < nl := pRo_lt (by omega) (by omega)
    have hr16 : pRo nl c i < 16 := by omega
    obtain ⟨g1, g2, g3, g4⟩ := hh _ hr
    have g2 : σ 26 (pRo nl c i) = nI (hp (pRo nl c i)) := by rw [hF 26 (by omega) (by omega)]; exact g2
    have g3 : σ 27 (hp (pRo nl c i)) = va (hp (pRo nl c i)) := by rw [hF 27 (by omega) (by omega)]; exact g3
    have g4 : σ 28 (hp (pRo nl c i)) = vb (hp (pRo nl c i)) := by rw [hF 28 (by omega) (by omega)]; exact g4
    rw [wD_lineUpFrom_l2]
    simp (disch := first | assumption | omega | decide) only [e4, er]
    simp (disch := first | assumption | omega | decide) only [li0, li1, li2, li3, li4, li5, li6, li7, li8, li9, li10, li11, li12, li13, li14, li16, li17, li20, li21, li22, li23, li24, li30, li32, li40, li48, li57, li59, li63, li86, li97, li99, li100, li102, li115, li122, li200, li255, li289, li320, li400, li720, li999, li1000, nI_add, pk_mul, nI_sub, nI_clamp, vinT, Nat.le_refl, Nat.reduceLeDiff, Nat.reduceLT, Nat.reduceEqDiff, Nat.reduceAdd, Nat.reduceMul, Nat.reduceSub, forall_eq, true_and, and_true, not_true_eq_false, not_false_eq_true, false_implies, true_implies, implies_true, if_true, if_false, ite_self, nI_eqI, nI_leI2, nI_ltI2, h1, g2, g3, g4, gU_ne]
    refine ih (i + 1) _ (by omega) (fun d d1 d2 => ?_) (fun j hj => ?_)
    · rw [gU_ne d2, gU_ne d1]; exact hF d d1 d2
    · by_cases e : j = i
      · subst e
        simp (disch := first | assumption | omega | decide) only [gU_ne, gU_eq, and_self]
      · simp (disch := first | assumption | omega | decide) only [gU_ne, gU_off]
        exact hS j (by omega)
theorem s_line {va vb : Nat → Int32} {c : Nat} (hn : nl ≤ 16) (hc : c < nl ∨ c = 0) (h4 : σ0 24 4 = nI nl) (hh : ∀ j, j < nl → hp j < 16 ∧ σ0 26 j = nI (hp j) ∧ σ0 27 (hp j) = va (hp j) ∧ σ0 28 (hp j) = vb (hp j)) (hQ : ∀ σ', (∀ d, d ≠ 29 → d ≠ 30 → σ' d = σ0 d) → (∀ j, j < nl → σ' 29 j = va (hp (pRo nl c j)) ∧ σ' 30 j = vb (hp (pRo nl c j))) → Q σ') : wD_lineUpFrom (nI c) σ0 Q :=
  ⟨nl + 1, s_line_l hn hc h4 hh hQ nl 0 σ0 (by omega) (fun _ _ _ => rfl) (fun j hj => absurd hj (by omega))⟩
end Seat
/-- two buyers -/
def pTwo (nb : Nat) (x1 x2 : Int32) : Prop := ∃ a b : Nat, a < nb ∧ b < nb ∧ a ≠ b ∧ x1 = nI a ∧ x2 = nI b
theorem e_two {nb : Nat} (hn : nb ≤ 4) (x1 x2 : Int32) {σ : gM} (h1 : σ 42 3 = nI nb) (h2 : σ 89 2 = nI nb) : (pTwo nb x1 x2 ∧ (∀ Q, wH_areNoTwo x1 x2 σ Q = Q (nI 0) σ) ∧ (∀ τ Q, τ 89 2 = nI nb → wM_areUnlike x1 x2 τ Q = Q (nI 1) τ)) ∨ ((∀ Q, wH_areNoTwo x1 x2 σ Q = Q (nI 1) σ) ∧ (∀ τ Q, τ 89 2 = nI nb → wM_areUnlike x1 x2 τ Q = Q (nI 0) τ)) := by
  have n01 : ¬ nI 1 = nI 0 := by decide
  rcases i_in x1 nb (by omega) with ⟨a, ha, rfl⟩ | ⟨e1, e2⟩
  · rcases i_in x2 nb (by omega) with ⟨b, hb, rfl⟩ | ⟨f1, f2⟩
    · by_cases e : a = b
      · subst e
        refine Or.inr ⟨fun Q => ?_, fun τ Q h => ?_⟩
        · unfold wH_areNoTwo
          simp (disch := first | assumption | omega | decide) only [eH_isNoBuyer h1, pNB_in ha, Nat.le_refl, Nat.reduceLeDiff, Nat.reduceLT, Nat.reduceEqDiff, Nat.reduceAdd, Nat.reduceMul, Nat.reduceSub, forall_eq, true_and, and_true, not_true_eq_false, not_false_eq_true, false_implies, true_implies, implies_true, if_true, if_false, ite_self]
          try simp [n01]
        · unfold wM_areUnlike
          simp (disch := first | assumption | omega | decide) only [eM_isBuyerAt h hn, pB_in ha, Nat.le_refl, Nat.reduceLeDiff, Nat.reduceLT, Nat.reduceEqDiff, Nat.reduceAdd, Nat.reduceMul, Nat.reduceSub, forall_eq, true_and, and_true, not_true_eq_false, not_false_eq_true, false_implies, true_implies, implies_true, if_true, if_false, ite_self]
          try simp [n01]
      · refine Or.inl ⟨⟨a, b, ha, hb, e, rfl, rfl⟩, fun Q => ?_, fun τ Q h => ?_⟩
        · unfold wH_areNoTwo
          simp (disch := first | assumption | omega | decide) only [eH_isNoBuyer h1, pNB_in ha, pNB_in hb, nI_eqI, e, Nat.le_refl, Nat.reduceLeDiff, Nat.reduceLT, Nat.reduceEqDiff, Nat.reduceAdd, Nat.reduceMul, Nat.reduceSub, forall_eq, true_and, and_true, not_true_eq_false, not_false_eq_true, false_implies, true_implies, implies_true, if_true, if_false, ite_self]
          simp
        · unfold wM_areUnlike
          simp (disch := first | assumption | omega | decide) only [eM_isBuyerAt h hn, pB_in ha, pB_in hb, nI_eqI, e, Nat.le_refl, Nat.reduceLeDiff, Nat.reduceLT, Nat.reduceEqDiff, Nat.reduceAdd, Nat.reduceMul, Nat.reduceSub, forall_eq, true_and, and_true, not_true_eq_false, not_false_eq_true, false_implies, true_implies, implies_true, if_true, if_false, ite_self]
          try simp [n01]
    · refine Or.inr ⟨fun Q => ?_, fun τ Q h => ?_⟩
      · unfold wH_areNoTwo
        simp (disch := first | assumption | omega | decide) only [eH_isNoBuyer h1, pNB_in ha, f2, Nat.le_refl, Nat.reduceLeDiff, Nat.reduceLT, Nat.reduceEqDiff, Nat.reduceAdd, Nat.reduceMul, Nat.reduceSub, forall_eq, true_and, and_true, not_true_eq_false, not_false_eq_true, false_implies, true_implies, implies_true, if_true, if_false, ite_self]
        try simp [n01]
      · unfold wM_areUnlike
        simp (disch := first | assumption | omega | decide) only [eM_isBuyerAt h hn, pB_in ha, f1, Nat.le_refl, Nat.reduceLeDiff, Nat.reduceLT, Nat.reduceEqDiff, Nat.reduceAdd, Nat.reduceMul, Nat.reduceSub, forall_eq, true_and, and_true, not_true_eq_false, not_false_eq_true, false_implies, true_implies, implies_true, if_true, if_false, ite_self]
        try simp [n01]
  · refine Or.inr ⟨fun Q => ?_, fun τ Q h => ?_⟩
    · unfold wH_areNoTwo
      simp (disch := first | assumption | omega | decide) only [eH_isNoBuyer h1, e2, Nat.le_refl, Nat.reduceLeDiff, Nat.reduceLT, Nat.reduceEqDiff, Nat.reduceAdd, Nat.reduceMul, Nat.reduceSub, forall_eq, true_and, and_true, not_true_eq_false, not_false_eq_true, false_implies, true_implies, implies_true, if_true, if_false, ite_self]
      try simp [n01]
    · unfold wM_areUnlike
      simp (disch := first | assumption | omega | decide) only [eM_isBuyerAt h hn, e1, Nat.le_refl, Nat.reduceLeDiff, Nat.reduceLT, Nat.reduceEqDiff, Nat.reduceAdd, Nat.reduceMul, Nat.reduceSub, forall_eq, true_and, and_true, not_true_eq_false, not_false_eq_true, false_implies, true_implies, implies_true, if_true, if_false, ite_self]
      try simp [n01]
