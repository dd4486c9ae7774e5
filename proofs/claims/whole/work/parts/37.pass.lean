/-! PASS -/
def pPs (la lb : Nat → Int32) (t : Bool) (i len : Nat) (fL fR o : Int32 × Int32) : Int32 × Int32 := if t = true then (if o.1 ≤ (pStp la lb t i len fL fR).1 then pStp la lb t i len fL fR else o) else pStp la lb t i len fL fR
def pP (la lb : Nat → Int32) (tf tf1 : Nat → Bool) : Nat → Nat → Int32 × Int32
  | 0, _ => (nI 0, nI 0)
  | len + 1, i => pPs la lb (tf (len + 1)) i len (pP la lb tf tf1 len (i + 1)) (pP la lb tf tf1 len i) (pG la lb tf1 (len + 1) i)
theorem pP_congr {la lb la' lb' : Nat → Int32} {tf tf1 : Nat → Bool} : ∀ (len i : Nat), (∀ j, i ≤ j → j < i + len → la j = la' j ∧ lb j = lb' j) → pP la lb tf tf1 len i = pP la' lb' tf tf1 len i
  | 0, _, _ => rfl
  | len + 1, i, h => by
    rw [pP, pP, pP_congr len (i + 1) (fun j h1 h2 => h j (by omega) (by omega)), pP_congr len i (fun j h1 h2 => h j h1 (by omega)), pG_congr (len + 1) i h (fun _ _ _ => rfl)]
    unfold pPs pStp
    rw [(h i (by omega) (by omega)).1, (h i (by omega) (by omega)).2, (h (i + len) (by omega) (by omega)).1, (h (i + len) (by omega) (by omega)).2]
theorem pP_nI {la lb : Nat → Int32} {tf tf1 : Nat → Bool} : ∀ (len i : Nat), len ≤ 16 → (∀ j, i ≤ j → j < i + len → (∃ m, m ≤ 6000 ∧ la j = nI m) ∧ ∃ m, m ≤ 6000 ∧ lb j = nI m) → ∃ a b : Nat, a ≤ pBd len ∧ b ≤ pBd len ∧ pP la lb tf tf1 len i = (nI a, nI b)
  | 0, i, _, _ => ⟨0, 0, Nat.zero_le _, Nat.zero_le _, rfl⟩
  | len + 1, i, hl, h => by
    obtain ⟨a, b, a1, b1, e1⟩ := pP_nI (tf := tf) (tf1 := tf1) len (i + 1) (by omega) (fun j h1 h2 => h j (by omega) (by omega))
    obtain ⟨c, d, c1, d1, e2⟩ := pP_nI (tf := tf) (tf1 := tf1) len i (by omega) (fun j h1 h2 => h j h1 (by omega))
    obtain ⟨e, f, g1, g2, e3⟩ := pG_nI (tf := tf1) (len + 1) i (by omega) h
    obtain ⟨⟨x, x1, x2⟩, ⟨y, y1, y2⟩⟩ := h i (by omega) (by omega)
    obtain ⟨⟨u, u1, u2⟩, ⟨v, v1, v2⟩⟩ := h (i + len) (by omega) (by omega)
    have key : ∃ a' b' : Nat, a' ≤ pBd (len + 1) ∧ b' ≤ pBd (len + 1) ∧ pStp la lb (tf (len + 1)) i len (nI a, nI b) (nI c, nI d) = (nI a', nI b') := by
      unfold pStp
      rw [x2, y2, u2, v2, pBd_s]
      have s1 : nI u + nI c = nI (u + c) := nI_add _ _
      have s2 : nI x + nI a = nI (x + a) := nI_add _ _
      have s3 : nI v + nI d = nI (v + d) := nI_add _ _
      have s4 : nI y + nI b = nI (y + b) := nI_add _ _
      by_cases ht : tf (len + 1) = true
      · rw [if_pos ht]
        by_cases hc : nI u + nI c ≤ nI x + nI a
        · exact ⟨x + a, b, by omega, by omega, by rw [if_pos hc, s2]⟩
        · exact ⟨u + c, d, by omega, by omega, by rw [if_neg hc, s1]⟩
      · rw [if_neg ht]
        by_cases hc : nI v + nI d ≤ nI y + nI b
        · exact ⟨a, y + b, by omega, by omega, by rw [if_pos hc, s4]⟩
        · exact ⟨c, v + d, by omega, by omega, by rw [if_neg hc, s3]⟩
    obtain ⟨a', b', k1, k2, k3⟩ := key
    rw [pP, e1, e2, e3]
    unfold pPs
    rw [k3]
    by_cases ht : tf (len + 1) = true
    · rw [if_pos ht]
      by_cases hc : (nI e, nI f).1 ≤ (nI a', nI b').1
      · rw [if_pos hc]; exact ⟨a', b', k1, k2, rfl⟩
      · rw [if_neg hc]; exact ⟨e, f, g1, g2, rfl⟩
    · rw [if_neg ht]; exact ⟨a', b', k1, k2, rfl⟩
def pFP (σ0 σ : gM) : Prop := ∀ a, a ≠ 31 → a ≠ 32 → a ≠ 33 → a ≠ 34 → σ a = σ0 a
section PassH
variable {nl : Nat} {σ0 : gM} {Q : gM → Prop} {tf tf1 : Nat → Bool}
theorem s_pp_in (hn : nl ≤ 16) (h4 : σ0 24 4 = nI nl) {c : Nat} (hc : c < nl) {K : Int32 → gM → Prop} : ∀ (m i : Nat) (σ : gM), i + m = nl - c → pFP σ0 σ → (∀ j, j < i → (σ 33 j, σ 34 j) = pG (σ0 29) (σ0 30) tf1 (c + 1) j) → (∀ j, i ≤ j → j + c ≤ nl → (σ 33 j, σ 34 j) = pG (σ0 29) (σ0 30) tf1 c j) → (∀ j, j < i → (σ 31 j, σ 32 j) = pP (σ0 29) (σ0 30) tf tf1 (c + 1) j) → (∀ j, i ≤ j → j + c ≤ nl → (σ 31 j, σ 32 j) = pP (σ0 29) (σ0 30) tf tf1 c j) →
    (∀ σ', pFP σ0 σ' → (∀ j, j + (c + 1) ≤ nl → (σ' 33 j, σ' 34 j) = pG (σ0 29) (σ0 30) tf1 (c + 1) j ∧ (σ' 31 j, σ' 32 j) = pP (σ0 29) (σ0 30) tf tf1 (c + 1) j) → K (nI (c + 1 + 1)) σ') → wD_playWithPass_l61 Q K (m + 1) (nI (c + 1)) (if tf (c + 1) = true then nI 1 else nI 0) (if tf1 (c + 1) = true then nI 1 else nI 0) (nI i) σ := by
  intro m
  induction m with
  | zero =>
    intro i σ hi hF h1 h2 h3 h5 hK
    rw [wD_playWithPass_l61]
    have e4 : σ 24 4 = nI nl := by rw [hF 24 (by omega) (by omega) (by omega) (by omega)]; exact h4
    have q : nl < i + (c + 1) := by omega
    simp (disch := first | assumption | omega | decide) only [li0, li1, li2, li3, li4, li5, li6, li7, li8, li9, li10, li11, li12, li13, li14, li16, li17, li20, li21, li22, li23, li24, li30, li32, li40, li48, li57, li59, li63, li86, li97, li99, li100, li102, li115, li122, li200, li255, li289, li320, li400, li720, li999, li1000, nI_add, pk_mul, nI_sub, nI_clamp, vinT, Nat.le_refl, Nat.reduceLeDiff, Nat.reduceLT, Nat.reduceEqDiff, Nat.reduceAdd, Nat.reduceMul, Nat.reduceSub, forall_eq, true_and, and_true, not_true_eq_false, not_false_eq_true, false_implies, true_implies, implies_true, if_true, if_false, ite_self, nI_eqI, nI_leI2, nI_ltI2, e4, q]
    exact hK σ hF (fun j hj => ⟨h1 j (by omega), h3 j (by omega)⟩)
  | succ m ih =>
    intro i σ hi hF h1 h2 h3 h5 hK
    rw [wD_playWithPass_l61]
    have e4 : σ 24 4 = nI nl := by rw [hF 24 (by omega) (by omega) (by omega) (by omega)]; exact h4
    have q : ¬ nl < i + (c + 1) := by omega
    simp (disch := first | assumption | omega | decide) only [nI_add, nI_ltI2, e4, q, Nat.le_refl, Nat.reduceLeDiff, Nat.reduceLT, Nat.reduceEqDiff, Nat.reduceAdd, Nat.reduceMul, Nat.reduceSub, forall_eq, true_and, and_true, not_true_eq_false, not_false_eq_true, false_implies, true_implies, implies_true, if_true, if_false, ite_self]
    have e29 : σ 29 = σ0 29 := hF 29 (by omega) (by omega) (by omega) (by omega)
    have e30 : σ 30 = σ0 30 := hF 30 (by omega) (by omega) (by omega) (by omega)
    have fin : ∀ σ', pFP σ0 σ' → (∀ j, j ≠ i → σ' 31 j = σ 31 j ∧ σ' 32 j = σ 32 j ∧ σ' 33 j = σ 33 j ∧ σ' 34 j = σ 34 j) → (σ' 33 i, σ' 34 i) = pG (σ0 29) (σ0 30) tf1 (c + 1) i → (σ' 31 i, σ' 32 i) = pP (σ0 29) (σ0 30) tf tf1 (c + 1) i → wD_playWithPass_l61 Q K (m + 1) (nI (c + 1)) (if tf (c + 1) = true then nI 1 else nI 0) (if tf1 (c + 1) = true then nI 1 else nI 0) (nI (i + 1)) σ' := by
      intro σ' g1 g2 g3 g4
      refine ih (i + 1) σ' (by omega) g1 (fun j hj => ?_) (fun j hj hj2 => ?_) (fun j hj => ?_) (fun j hj hj2 => ?_) hK
      · by_cases e : j = i
        · subst e; exact g3
        · rw [(g2 j e).2.2.1, (g2 j e).2.2.2]; exact h1 j (by omega)
      · rw [(g2 j (by omega)).2.2.1, (g2 j (by omega)).2.2.2]; exact h2 j (by omega) hj2
      · by_cases e : j = i
        · subst e; exact g4
        · rw [(g2 j e).1, (g2 j e).2.1]; exact h3 j (by omega)
      · rw [(g2 j (by omega)).1, (g2 j (by omega)).2.1]; exact h5 j (by omega) hj2
    refine s_take_33 (by omega) ?_
    rw [h2 i (by omega) (by omega), h2 (i + 1) (by omega) (by omega), e29, e30]
    have hB : pG (σ0 29) (σ0 30) tf1 (c + 1) i = pStp (σ0 29) (σ0 30) (tf1 (c + 1)) i c (pG (σ0 29) (σ0 30) tf1 c (i + 1)) (pG (σ0 29) (σ0 30) tf1 c i) := rfl
    rw [← hB]
    refine s_take_31 (by omega) ?_
    simp (disch := first | assumption | omega | decide) only [gU_ne]
    rw [h5 i (by omega) (by omega), h5 (i + 1) (by omega) (by omega), e29, e30]
    have hP : pP (σ0 29) (σ0 30) tf tf1 (c + 1) i = pPs (σ0 29) (σ0 30) (tf (c + 1)) i c (pP (σ0 29) (σ0 30) tf tf1 c (i + 1)) (pP (σ0 29) (σ0 30) tf tf1 c i) (pG (σ0 29) (σ0 30) tf1 (c + 1) i) := rfl
    rw [hP] at fin
    unfold pPs at fin
    generalize pG (σ0 29) (σ0 30) tf1 (c + 1) i = B at fin ⊢
    generalize pStp (σ0 29) (σ0 30) (tf (c + 1)) i c (pP (σ0 29) (σ0 30) tf tf1 c (i + 1)) (pP (σ0 29) (σ0 30) tf tf1 c i) = A at fin ⊢
    cases ht : tf (c + 1) with
    | false =>
      simp only [ht, Bool.false_eq_true, if_false] at fin
      simp (disch := first | assumption | omega | decide) only [Nat.le_refl, Nat.reduceLeDiff, Nat.reduceLT, Nat.reduceEqDiff, Nat.reduceAdd, Nat.reduceMul, Nat.reduceSub, forall_eq, true_and, and_true, not_true_eq_false, not_false_eq_true, false_implies, true_implies, implies_true, if_true, if_false, ite_self, Bool.false_eq_true]
      refine fin _ (fun a a1 a2 a3 a4 => by rw [gU_ne a2, gU_ne a1, gU_ne a4, gU_ne a3]; exact hF a a1 a2 a3 a4) (fun j hj => ?_) ?_ ?_
      · simp (disch := first | assumption | omega | decide) only [gU_ne, gU_off, and_self]
      · simp (disch := first | assumption | omega | decide) only [gU_ne, gU_eq]
      · simp (disch := first | assumption | omega | decide) only [gU_ne, gU_eq]
    | true =>
      simp only [ht, if_true] at fin
      have n01 : ¬ nI 1 = nI 0 := by decide
      by_cases hc : B.1 ≤ A.1
      · rw [if_pos hc] at fin
        simp (disch := first | assumption | omega | decide) only [Nat.le_refl, Nat.reduceLeDiff, Nat.reduceLT, Nat.reduceEqDiff, Nat.reduceAdd, Nat.reduceMul, Nat.reduceSub, forall_eq, true_and, and_true, not_true_eq_false, not_false_eq_true, false_implies, true_implies, implies_true, if_true, if_false, ite_self, n01, nI_clamp, vinT, gU_ne, gU_eq, hc]
        refine fin _ (fun a a1 a2 a3 a4 => by rw [gU_ne a2, gU_ne a1, gU_ne a4, gU_ne a3]; exact hF a a1 a2 a3 a4) (fun j hj => ?_) ?_ ?_
        · simp (disch := first | assumption | omega | decide) only [gU_ne, gU_off, and_self]
        · simp (disch := first | assumption | omega | decide) only [gU_ne, gU_eq]
        · simp (disch := first | assumption | omega | decide) only [gU_ne, gU_eq]
      · rw [if_neg hc] at fin
        simp (disch := first | assumption | omega | decide) only [Nat.le_refl, Nat.reduceLeDiff, Nat.reduceLT, Nat.reduceEqDiff, Nat.reduceAdd, Nat.reduceMul, Nat.reduceSub, forall_eq, true_and, and_true, not_true_eq_false, not_false_eq_true, false_implies, true_implies, implies_true, if_true, if_false, ite_self, n01, nI_clamp, vinT, gU_ne, gU_eq, hc]
        refine fin _ (fun a a1 a2 a3 a4 => by rw [gU_ne a2, gU_ne a1, gU_ne a2, gU_ne a1, gU_ne a4, gU_ne a3]; exact hF a a1 a2 a3 a4) (fun j hj => ?_) ?_ ?_
        · simp (disch := first | assumption | omega | decide) only [gU_ne, gU_off, and_self]
        · simp (disch := first | assumption | omega | decide) only [gU_ne, gU_eq]
        · simp (disch := first | assumption | omega | decide) only [gU_ne, gU_eq]
theorem s_pp_out (hn : nl ≤ 16) (h4 : σ0 24 4 = nI nl) (htf : ∀ c, c < nl → tf (c + 1) = pTurn (σ0 24 3) (nl - (c + 1))) (htf1 : ∀ c, c < nl → tf1 (c + 1) = pTurn (σ0 24 3) (nl - (c + 1) + 1)) : ∀ (m c : Nat) (σ : gM), c + m = nl → pFP σ0 σ → (∀ j, j + c ≤ nl → (σ 33 j, σ 34 j) = pG (σ0 29) (σ0 30) tf1 c j ∧ (σ 31 j, σ 32 j) = pP (σ0 29) (σ0 30) tf tf1 c j) →
    (∀ σ', pFP σ0 σ' → (σ' 31 0, σ' 32 0) = pP (σ0 29) (σ0 30) tf tf1 nl 0 → Q σ') → wD_playWithPass_l26 Q (m + 1) (nI (c + 1)) σ := by
  intro m
  induction m with
  | zero =>
    intro c σ hi hF h1 hQ
    rw [wD_playWithPass_l26]
    have e4 : σ 24 4 = nI nl := by rw [hF 24 (by omega) (by omega) (by omega) (by omega)]; exact h4
    have q : nl < c + 1 := by omega
    simp (disch := first | assumption | omega | decide) only [li0, li1, li2, li3, li4, li5, li6, li7, li8, li9, li10, li11, li12, li13, li14, li16, li17, li20, li21, li22, li23, li24, li30, li32, li40, li48, li57, li59, li63, li86, li97, li99, li100, li102, li115, li122, li200, li255, li289, li320, li400, li720, li999, li1000, nI_add, pk_mul, nI_sub, nI_clamp, vinT, Nat.le_refl, Nat.reduceLeDiff, Nat.reduceLT, Nat.reduceEqDiff, Nat.reduceAdd, Nat.reduceMul, Nat.reduceSub, forall_eq, true_and, and_true, not_true_eq_false, not_false_eq_true, false_implies, true_implies, implies_true, if_true, if_false, ite_self, nI_eqI, nI_leI2, nI_ltI2, e4, q]
    have hcn : c = nl := by omega
    subst hcn
    exact hQ σ hF (h1 0 (by omega)).2
  | succ m ih =>
    intro c σ hi hF h1 hQ
    rw [wD_playWithPass_l26]
    have e4 : σ 24 4 = nI nl := by rw [hF 24 (by omega) (by omega) (by omega) (by omega)]; exact h4
    have e3 : σ 24 3 = σ0 24 3 := by rw [hF 24 (by omega) (by omega) (by omega) (by omega)]
    have q : ¬ nl < c + 1 := by omega
    simp (disch := first | assumption | omega | decide) only [li0, li1, li2, li3, li4, li5, li6, li7, li8, li9, li10, li11, li12, li13, li14, li16, li17, li20, li21, li22, li23, li24, li30, li32, li40, li48, li57, li59, li63, li86, li97, li99, li100, li102, li115, li122, li200, li255, li289, li320, li400, li720, li999, li1000, nI_add, pk_mul, nI_sub, nI_clamp, vinT, Nat.le_refl, Nat.reduceLeDiff, Nat.reduceLT, Nat.reduceEqDiff, Nat.reduceAdd, Nat.reduceMul, Nat.reduceSub, forall_eq, true_and, and_true, not_true_eq_false, not_false_eq_true, false_implies, true_implies, implies_true, if_true, if_false, ite_self, nI_eqI, nI_leI2, nI_ltI2, e4, q, eD_isTurnOfA, e3]
    rw [← htf c (by omega), ← htf1 c (by omega)]
    exact ⟨nl - c + 1, s_pp_in hn h4 (c := c) (by omega) (nl - c) 0 σ (by omega) hF (fun j hj => absurd hj (by omega)) (fun j _ hj => (h1 j hj).1) (fun j hj => absurd hj (by omega)) (fun j _ hj => (h1 j hj).2) (fun σ' f1 f2 => ih (c + 1) σ' (by omega) f1 f2 hQ)⟩
theorem s_playWithPass (hn : nl ≤ 16) {σ : gM} (h4 : σ 24 4 = nI nl) (htf : ∀ c, c < nl → tf (c + 1) = pTurn (σ 24 3) (nl - (c + 1))) (htf1 : ∀ c, c < nl → tf1 (c + 1) = pTurn (σ 24 3) (nl - (c + 1) + 1)) (hQ : ∀ σ', pFP σ σ' → (σ' 31 0, σ' 32 0) = pP (σ 29) (σ 30) tf tf1 nl 0 → Q σ') : wD_playWithPass σ Q := by
  unfold wD_playWithPass wD_clearGains_31_32 wD_clearGains_33_34
  refine ⟨nl + 1 + 1, s_clear_31 hn (nl + 1) 0 _ σ h4 (by omega) (by rw [gFn_0, gFn_0]) ⟨nl + 1 + 1, s_clear_33 hn (nl + 1) 0 _ _ (by rw [gFn_ne (by decide), gFn_ne (by decide)]; exact h4) (by omega) (by rw [gFn_0, gFn_0]) ⟨nl + 1, ?_⟩⟩⟩
  refine s_pp_out hn (σ0 := σ) h4 htf htf1 nl 0 _ (by omega) (fun a a1 a2 a3 a4 => by rw [gFn_ne a4, gFn_ne a3, gFn_ne a2, gFn_ne a1]) (fun j hj => ?_) hQ
  simp (disch := first | assumption | omega | decide) only [gFn_ne, gFn_in]
  exact ⟨rfl, rfl⟩
end PassH
