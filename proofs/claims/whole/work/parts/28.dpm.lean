theorem i_nle {x y : Int32} : ¬ x ≤ y ↔ y < x := Int32.not_le
theorem nlt_of_le {x y : Int32} (h : x ≤ y) : ¬ y < x := fun q => (i_nle.mpr q) h
def pFM (σ0 σ : gM) : Prop := ∀ a, a ≠ 95 → a ≠ 96 → σ a = σ0 a
theorem cell_ne {l g l' g' : Nat} (h1 : l ≤ g) (h2 : l' ≤ g') (hg : g ≤ 16) (hg' : g' ≤ 16) (h : l ≠ l' ∨ g ≠ g') : 17 * l + (g - l) ≠ 17 * l' + (g' - l') := by omega
section LayBest
variable {n a b on : Nat} {ln : Nat → Nat} {N : Nat → Int32} {Q : gM → Prop}
/-- one cell of the table -/
theorem s_M_cell {K : Int32 → Int32 → Int32 → Int32 → Int32 → gM → Prop} (hn : n ≤ 16) (ha : a < 4) (hb : b < 4) (hon : on ≤ 1) {m gone l : Nat} {σ : gM} (hN : σ 89 = N) (hl : l ≤ gone) (hg : gone < n) (hln : ∀ i, i < n → ln i < 16 ∧ σ 94 i = nI (ln i))
    (hK : wM_layBest_l11 Q K m (nI n) (nI a) (nI b) (nI on) (nI gone) (nI (l + 1)) (gU (gU σ 95 (17 * l + (gone - l)) (pStp (fun i => pVT N a (ln i) (nI 0)) (fun i => pVT N b (ln i) (nI 0)) (pTurn (N 1) (gone + on)) l (n - 1 - gone) (σ 95 (17 * l + (gone - l) + 17), σ 96 (17 * l + (gone - l) + 17)) (σ 95 (17 * l + (gone - l) + 1), σ 96 (17 * l + (gone - l) + 1))).1) 96 (17 * l + (gone - l)) (pStp (fun i => pVT N a (ln i) (nI 0)) (fun i => pVT N b (ln i) (nI 0)) (pTurn (N 1) (gone + on)) l (n - 1 - gone) (σ 95 (17 * l + (gone - l) + 17), σ 96 (17 * l + (gone - l) + 17)) (σ 95 (17 * l + (gone - l) + 1), σ 96 (17 * l + (gone - l) + 1))).2)) : wM_layBest_l11 Q K (m + 1) (nI n) (nI a) (nI b) (nI on) (nI gone) (nI l) σ := by
  have e1 : ¬ gone < l := by omega
  have e2 : ¬ gone = n := by omega
  have e3 : n - 1 - (gone - l) = l + (n - 1 - gone) := by omega
  obtain ⟨f1, f2⟩ := hln l (by omega)
  obtain ⟨g1, g2⟩ := hln (l + (n - 1 - gone)) (by omega)
  rw [wM_layBest_l11]
  simp (disch := first | assumption | omega | decide) only [li0, li1, li2, li3, li4, li5, li6, li7, li8, li9, li10, li11, li12, li13, li14, li16, li17, li20, li21, li22, li23, li24, li30, li32, li40, li48, li57, li59, li63, li86, li97, li99, li100, li102, li115, li122, li200, li255, li289, li320, li400, li720, li999, li1000, nI_add, pk_mul, nI_sub, nI_clamp, vinT, Nat.le_refl, Nat.reduceLeDiff, Nat.reduceLT, Nat.reduceEqDiff, Nat.reduceAdd, Nat.reduceMul, Nat.reduceSub, forall_eq, true_and, and_true, not_true_eq_false, not_false_eq_true, false_implies, true_implies, implies_true, if_true, if_false, ite_self, nI_eqI, nI_leI2, nI_ltI2, e1, e2, e3, f2, g2, eM_turnOf, hN, wM_layBest_b147, wM_layBest_b193, eM_worthOf]
  unfold pStp at hK
  cases ht : pTurn (N 1) (gone + on) with
  | true =>
    simp only [ht, Nat.le_refl, Nat.reduceLeDiff, Nat.reduceLT, Nat.reduceEqDiff, Nat.reduceAdd, Nat.reduceMul, Nat.reduceSub, forall_eq, true_and, and_true, not_true_eq_false, not_false_eq_true, false_implies, true_implies, implies_true, if_true, if_false, ite_self] at hK
    simp (disch := first | assumption | omega | decide) only [Nat.le_refl, Nat.reduceLeDiff, Nat.reduceLT, Nat.reduceEqDiff, Nat.reduceAdd, Nat.reduceMul, Nat.reduceSub, forall_eq, true_and, and_true, not_true_eq_false, not_false_eq_true, false_implies, true_implies, implies_true, if_true, if_false, ite_self, nI_eqI, eM_worthOf, hN]
    by_cases hc : pVT N a (ln (l + (n - 1 - gone))) (nI 0) + σ 95 (17 * l + (gone - l) + 1) ≤ pVT N a (ln l) (nI 0) + σ 95 (17 * l + (gone - l) + 17)
    · have hc2 := nlt_of_le hc
      simp only [hc, Nat.le_refl, Nat.reduceLeDiff, Nat.reduceLT, Nat.reduceEqDiff, Nat.reduceAdd, Nat.reduceMul, Nat.reduceSub, forall_eq, true_and, and_true, not_true_eq_false, not_false_eq_true, false_implies, true_implies, implies_true, if_true, if_false, ite_self] at hK
      simp (disch := first | assumption | omega | decide) only [Nat.le_refl, Nat.reduceLeDiff, Nat.reduceLT, Nat.reduceEqDiff, Nat.reduceAdd, Nat.reduceMul, Nat.reduceSub, forall_eq, true_and, and_true, not_true_eq_false, not_false_eq_true, false_implies, true_implies, implies_true, if_true, if_false, ite_self, gU_ne, gU_eq, gU_off, hc2, vinT, nI_clamp, nI_add]
      exact hK
    · have hc2 := i_nle.mp hc
      simp only [hc, Nat.le_refl, Nat.reduceLeDiff, Nat.reduceLT, Nat.reduceEqDiff, Nat.reduceAdd, Nat.reduceMul, Nat.reduceSub, forall_eq, true_and, and_true, not_true_eq_false, not_false_eq_true, false_implies, true_implies, implies_true, if_true, if_false, ite_self] at hK
      simp (disch := first | assumption | omega | decide) only [Nat.le_refl, Nat.reduceLeDiff, Nat.reduceLT, Nat.reduceEqDiff, Nat.reduceAdd, Nat.reduceMul, Nat.reduceSub, forall_eq, true_and, and_true, not_true_eq_false, not_false_eq_true, false_implies, true_implies, implies_true, if_true, if_false, ite_self, gU_ne, gU_eq, gU_off, hc2, vinT, nI_clamp, nI_add]
      exact hK
  | false =>
    simp only [ht, Nat.le_refl, Nat.reduceLeDiff, Nat.reduceLT, Nat.reduceEqDiff, Nat.reduceAdd, Nat.reduceMul, Nat.reduceSub, forall_eq, true_and, and_true, not_true_eq_false, not_false_eq_true, false_implies, true_implies, implies_true, if_true, if_false, ite_self, Bool.false_eq_true] at hK
    simp (disch := first | assumption | omega | decide) only [Nat.le_refl, Nat.reduceLeDiff, Nat.reduceLT, Nat.reduceEqDiff, Nat.reduceAdd, Nat.reduceMul, Nat.reduceSub, forall_eq, true_and, and_true, not_true_eq_false, not_false_eq_true, false_implies, true_implies, implies_true, if_true, if_false, ite_self, nI_eqI, eM_worthOf, hN, Bool.false_eq_true]
    by_cases hc : pVT N b (ln (l + (n - 1 - gone))) (nI 0) + σ 96 (17 * l + (gone - l) + 1) ≤ pVT N b (ln l) (nI 0) + σ 96 (17 * l + (gone - l) + 17)
    · have hc2 := nlt_of_le hc
      simp only [hc, Nat.le_refl, Nat.reduceLeDiff, Nat.reduceLT, Nat.reduceEqDiff, Nat.reduceAdd, Nat.reduceMul, Nat.reduceSub, forall_eq, true_and, and_true, not_true_eq_false, not_false_eq_true, false_implies, true_implies, implies_true, if_true, if_false, ite_self] at hK
      simp (disch := first | assumption | omega | decide) only [Nat.le_refl, Nat.reduceLeDiff, Nat.reduceLT, Nat.reduceEqDiff, Nat.reduceAdd, Nat.reduceMul, Nat.reduceSub, forall_eq, true_and, and_true, not_true_eq_false, not_false_eq_true, false_implies, true_implies, implies_true, if_true, if_false, ite_self, gU_ne, gU_eq, gU_off, hc2, vinT, nI_clamp, nI_add]
      exact hK
    · have hc2 := i_nle.mp hc
      simp only [hc, Nat.le_refl, Nat.reduceLeDiff, Nat.reduceLT, Nat.reduceEqDiff, Nat.reduceAdd, Nat.reduceMul, Nat.reduceSub, forall_eq, true_and, and_true, not_true_eq_false, not_false_eq_true, false_implies, true_implies, implies_true, if_true, if_false, ite_self] at hK
      simp (disch := first | assumption | omega | decide) only [Nat.le_refl, Nat.reduceLeDiff, Nat.reduceLT, Nat.reduceEqDiff, Nat.reduceAdd, Nat.reduceMul, Nat.reduceSub, forall_eq, true_and, and_true, not_true_eq_false, not_false_eq_true, false_implies, true_implies, implies_true, if_true, if_false, ite_self, gU_ne, gU_eq, gU_off, hc2, vinT, nI_clamp, nI_add]
      exact hK
variable {σ0 : gM}
/-- the table from level g on -/
def pTab (n a b on : Nat) (ln : Nat → Nat) (N : Nat → Int32) (σ : gM) (g : Nat) : Prop := ∀ g', g ≤ g' → g' ≤ n → ∀ l, l ≤ g' → (σ 95 (17 * l + (g' - l)), σ 96 (17 * l + (g' - l))) = pG (fun i => pVT N a (ln i) (nI 0)) (fun i => pVT N b (ln i) (nI 0)) (fun len => pTurn (N 1) (n - len + on)) (n - g') l
theorem s_M_row (hn : n ≤ 16) (ha : a < 4) (hb : b < 4) (hon : on ≤ 1) (hN : σ0 89 = N) (hln : ∀ i, i < n → ln i < 16 ∧ σ0 94 i = nI (ln i)) {K : Int32 → Int32 → Int32 → Int32 → Int32 → gM → Prop} {gone : Nat} (hg : gone ≤ n) : ∀ (m l : Nat) (σ : gM), l + m = gone + 1 → pFM σ0 σ → pTab n a b on ln N σ (gone + 1) → (∀ l', l' < l → (σ 95 (17 * l' + (gone - l')), σ 96 (17 * l' + (gone - l'))) = pG (fun i => pVT N a (ln i) (nI 0)) (fun i => pVT N b (ln i) (nI 0)) (fun len => pTurn (N 1) (n - len + on)) (n - gone) l') →
    (∀ σ', pFM σ0 σ' → pTab n a b on ln N σ' gone → K (nI n) (nI a) (nI b) (nI on) (nI gone - nI 1) σ') → wM_layBest_l11 Q K (m + 1) (nI n) (nI a) (nI b) (nI on) (nI gone) (nI l) σ := by
  intro m
  induction m with
  | zero =>
    intro l σ hl hF h1 h2 hK
    rw [wM_layBest_l11]
    have q : gone < l := by omega
    simp (disch := first | assumption | omega | decide) only [Nat.le_refl, Nat.reduceLeDiff, Nat.reduceLT, Nat.reduceEqDiff, Nat.reduceAdd, Nat.reduceMul, Nat.reduceSub, forall_eq, true_and, and_true, not_true_eq_false, not_false_eq_true, false_implies, true_implies, implies_true, if_true, if_false, ite_self, nI_ltI2, forall_eq, q, add_m1]
    refine hK σ hF (fun g' hg' hn' l' hl' => ?_)
    by_cases e : g' = gone
    · subst e
      exact h2 l' (by omega)
    · exact h1 g' (by omega) hn' l' hl'
  | succ m ih =>
    intro l σ hl hF h1 h2 hK
    have hlg : l ≤ gone := by omega
    by_cases e : gone = n
    · subst e
      rw [wM_layBest_l11]
      have q : ¬ gone < l := by omega
      simp (disch := first | assumption | omega | decide) only [li0, li1, li2, li3, li4, li5, li6, li7, li8, li9, li10, li11, li12, li13, li14, li16, li17, li20, li21, li22, li23, li24, li30, li32, li40, li48, li57, li59, li63, li86, li97, li99, li100, li102, li115, li122, li200, li255, li289, li320, li400, li720, li999, li1000, nI_add, pk_mul, nI_sub, nI_clamp, vinT, Nat.le_refl, Nat.reduceLeDiff, Nat.reduceLT, Nat.reduceEqDiff, Nat.reduceAdd, Nat.reduceMul, Nat.reduceSub, forall_eq, true_and, and_true, not_true_eq_false, not_false_eq_true, false_implies, true_implies, implies_true, if_true, if_false, ite_self, nI_eqI, nI_leI2, nI_ltI2, q]
      refine ih (l + 1) _ (by omega) (fun c c1 c2 => ?_) (fun g' hg' hn' => absurd hn' (by omega)) (fun l' hl' => ?_) hK
      · simp (disch := first | assumption | omega | decide) only [gU_ne]
        exact hF c c1 c2
      · by_cases el : l' = l
        · subst el
          simp (disch := first | assumption | omega | decide) only [gU_ne, gU_eq, Nat.sub_self]
          rfl
        · have ne := cell_ne (l := l') (g := gone) (l' := l) (g' := gone) (by omega) hlg hn hn (Or.inl el)
          simp (disch := first | assumption | omega | decide) only [gU_ne, gU_off]
          exact h2 l' (by omega)
    · refine s_M_cell hn ha hb hon ((hF 89 (by omega) (by omega)).trans hN) hlg (by omega) (fun i hi => by rw [hF 94 (by omega) (by omega)]; exact hln i hi) ?_
      have a1 := h1 (gone + 1) (Nat.le_refl _) (by omega) (l + 1) (by omega)
      have a2 := h1 (gone + 1) (Nat.le_refl _) (by omega) l (by omega)
      rw [show 17 * (l + 1) + (gone + 1 - (l + 1)) = 17 * l + (gone - l) + 17 by omega] at a1
      rw [show 17 * l + (gone + 1 - l) = 17 * l + (gone - l) + 1 by omega] at a2
      rw [a1, a2]
      refine ih (l + 1) _ (by omega) (fun c c1 c2 => ?_) (fun g' hg' hn' l' hl' => ?_) (fun l' hl' => ?_) hK
      · simp (disch := first | assumption | omega | decide) only [gU_ne]
        exact hF c c1 c2
      · have ne := cell_ne (l := l') (g := g') (l' := l) (g' := gone) hl' hlg (by omega) (by omega) (Or.inr (by omega))
        simp (disch := first | assumption | omega | decide) only [gU_ne, gU_off]
        exact h1 g' hg' hn' l' hl'
      · by_cases el : l' = l
        · subst el
          simp (disch := first | assumption | omega | decide) only [gU_ne, gU_eq]
          rw [show n - gone = (n - (gone + 1)) + 1 by omega, pG, show n - (gone + 1) = n - 1 - gone by omega, show n - (n - 1 - gone + 1) + on = gone + on by omega]
        · have ne := cell_ne (l := l') (g := gone) (l' := l) (g' := gone) (by omega) hlg (by omega) (by omega) (Or.inl el)
          simp (disch := first | assumption | omega | decide) only [gU_ne, gU_off]
          exact h2 l' (by omega)
theorem s_M_lay (hn : n ≤ 16) (ha : a < 4) (hb : b < 4) (hon : on ≤ 1) (hN : σ0 89 = N) (hln : ∀ i, i < n → ln i < 16 ∧ σ0 94 i = nI (ln i)) (hQ : ∀ σ', pFM σ0 σ' → pTab n a b on ln N σ' 0 → Q σ') : ∀ (m : Nat) (σ : gM), m ≤ n + 1 → pFM σ0 σ → pTab n a b on ln N σ m → wM_layBest_l3 Q (m + 1) (nI n) (nI a) (nI b) (nI on) (nI m - nI 1) σ := by
  intro m
  induction m with
  | zero =>
    intro σ hm hF h1
    rw [wM_layBest_l3]
    have e : nI 0 - nI 1 < nI 0 := by rw [lt_sub (by omega) (by omega) (by omega)]; omega
    simp only [e, Nat.le_refl, Nat.reduceLeDiff, Nat.reduceLT, Nat.reduceEqDiff, Nat.reduceAdd, Nat.reduceMul, Nat.reduceSub, forall_eq, true_and, and_true, not_true_eq_false, not_false_eq_true, false_implies, true_implies, implies_true, if_true, if_false, ite_self]
    exact hQ σ hF h1
  | succ m ih =>
    intro σ hm hF h1
    rw [wM_layBest_l3]
    simp (disch := first | assumption | omega | decide) only [Nat.le_refl, Nat.reduceLeDiff, Nat.reduceLT, Nat.reduceEqDiff, Nat.reduceAdd, Nat.reduceMul, Nat.reduceSub, forall_eq, true_and, and_true, not_true_eq_false, not_false_eq_true, false_implies, true_implies, implies_true, if_true, if_false, ite_self, nI_sub, nI_ltI2, Nat.not_lt_zero, Nat.add_sub_cancel]
    exact ⟨m + 1 + 1, s_M_row hn ha hb hon hN hln (gone := m) (by omega) (m + 1) 0 σ (by omega) hF h1 (fun l' hl' => absurd hl' (by omega)) (fun σ' f1 f2 => ih σ' (by omega) f1 f2)⟩
theorem s_layBest (hn : n ≤ 16) (ha : a < 4) (hb : b < 4) (hon : on ≤ 1) {σ : gM} (hN : σ 89 = N) (hln : ∀ i, i < n → ln i < 16 ∧ σ 94 i = nI (ln i)) (hQ : ∀ σ', pFM σ σ' → pTab n a b on ln N σ' 0 → Q σ') : wM_layBest (nI n) (nI a) (nI b) (nI on) σ Q := by
  unfold wM_layBest
  refine ⟨n + 1 + 1, ?_⟩
  have h := s_M_lay hn ha hb hon hN hln hQ (n + 1) σ (Nat.le_refl _) (fun _ _ _ => rfl) (fun g' hg' hn' => absurd hn' (by omega))
  rw [nI_sub (by omega), Nat.add_sub_cancel] at h
  exact h
end LayBest
/-- the heap laid in line -/
theorem s_layHeap {k nb nw nl : Nat} {hp : Nat → Nat} {Q : gM → Prop} {σ0 : gM} (hW : pWF k (σ0 89) nb nw nl hp) (hQ : Q (gFn σ0 94 0 nl (fun i => nI (hp i)))) : ∀ (m i : Nat) (σ : gM), i + m = nl → σ = gFn σ0 94 0 i (fun i => nI (hp i)) → wM_layHeap_l2 Q (m + 1) (nI i) σ := by
  have hn : nw ≤ 16 := hW.2.2.2.2.1
  have hl : nl ≤ nw := hW.2.2.2.2.2.1
  intro m
  induction m with
  | zero =>
    intro i σ hi hσ
    have : i = nl := by omega
    subst this
    have e5 : σ 89 5 = nI i := by rw [hσ, gFn_ne (by decide)]; exact hW.2.2.1
    rw [wM_layHeap_l2]
    simp (disch := first | assumption | omega | decide) only [li0, li1, li2, li3, li4, li5, li6, li7, li8, li9, li10, li11, li12, li13, li14, li16, li17, li20, li21, li22, li23, li24, li30, li32, li40, li48, li57, li59, li63, li86, li97, li99, li100, li102, li115, li122, li200, li255, li289, li320, li400, li720, li999, li1000, nI_add, pk_mul, nI_sub, nI_clamp, vinT, Nat.le_refl, Nat.reduceLeDiff, Nat.reduceLT, Nat.reduceEqDiff, Nat.reduceAdd, Nat.reduceMul, Nat.reduceSub, forall_eq, true_and, and_true, not_true_eq_false, not_false_eq_true, false_implies, true_implies, implies_true, if_true, if_false, ite_self, nI_eqI, nI_leI2, nI_ltI2, e5]
    rw [hσ]
    exact hQ
  | succ m ih =>
    intro i σ hi hσ
    have e5 : σ 89 5 = nI nl := by rw [hσ, gFn_ne (by decide)]; exact hW.2.2.1
    have eh : σ 89 (86 + i) = nI (hp i) := by rw [hσ, gFn_ne (by decide)]; exact (hW.2.2.2.2.2.2.2.2.1 i (by omega)).2.1
    have h1 : ¬ nl ≤ i := by omega
    rw [wM_layHeap_l2]
    simp (disch := first | assumption | omega | decide) only [li0, li1, li2, li3, li4, li5, li6, li7, li8, li9, li10, li11, li12, li13, li14, li16, li17, li20, li21, li22, li23, li24, li30, li32, li40, li48, li57, li59, li63, li86, li97, li99, li100, li102, li115, li122, li200, li255, li289, li320, li400, li720, li999, li1000, nI_add, pk_mul, nI_sub, nI_clamp, vinT, Nat.le_refl, Nat.reduceLeDiff, Nat.reduceLT, Nat.reduceEqDiff, Nat.reduceAdd, Nat.reduceMul, Nat.reduceSub, forall_eq, true_and, and_true, not_true_eq_false, not_false_eq_true, false_implies, true_implies, implies_true, if_true, if_false, ite_self, nI_eqI, nI_leI2, nI_ltI2, e5, h1, eM_heap, eh]
    refine ih (i + 1) _ (by omega) ?_
    rw [hσ]
    have e := gFn_succ σ0 94 0 i (fun i => nI (hp i))
    rw [Nat.zero_add] at e
    exact e
