/-! TWO WHO BUY BY TURNS -/
def pTurn (t : Int32) (g : Nat) : Bool := decide ((if t = nI 0 then g else (g + 1) / 2) % 2 = 0)
theorem rem2 {g : Nat} (hg : g < 2147483648) : nI g - nI g / nI 2 * nI 2 = nI (g % 2) := pk_rem hg (by omega) (by omega)
theorem div2 {g : Nat} (hg : g < 2147483648) : nI g / nI 2 = nI (g / 2) := pk_div hg (by omega) (by omega)
theorem rem2b {g : Nat} (hg : g < 2147483648) : nI g - nI (g / 2) * nI 2 = nI (g % 2) := by rw [← div2 hg]; exact rem2 hg
theorem eD_isTurnOfA {g : Nat} {σ : gM} {Q : Int32 → gM → Prop} (hg : g < 1000) : wD_isTurnOfA (nI g) σ Q = Q (if pTurn (σ 24 3) g = true then nI 1 else nI 0) σ := by
  unfold wD_isTurnOfA pTurn
  by_cases h : σ 24 3 = nI 0
  · simp (disch := first | assumption | omega | decide) only [forall_eq, h, if_true, rem2, nI_eqI]
    by_cases h2 : g % 2 = 0 <;> simp [h2]
  · simp (disch := first | assumption | omega | decide) only [forall_eq, h, if_false, nI_add, div2, rem2, rem2b, nI_eqI]
    by_cases h2 : (g + 1) / 2 % 2 = 0 <;> simp [h2]
theorem eM_turnOf {g : Nat} {σ : gM} {Q : Int32 → gM → Prop} (hg : g < 1000) : wM_turnOf (nI g) σ Q = Q (if pTurn (σ 89 1) g = true then nI 0 else nI 1) σ := by
  unfold wM_turnOf pTurn
  by_cases h : σ 89 1 = nI 0
  · simp (disch := first | assumption | omega | decide) only [forall_eq, h, if_true, rem2, nI_eqI]
    have : g % 2 = 0 ∨ g % 2 = 1 := by omega
    rcases this with h2 | h2 <;> simp [h2]
  · simp (disch := first | assumption | omega | decide) only [forall_eq, h, if_false, nI_add, div2, rem2, rem2b, nI_eqI]
    have : (g + 1) / 2 % 2 = 0 ∨ (g + 1) / 2 % 2 = 1 := by omega
    rcases this with h2 | h2 <;> simp [h2]
/-- one turn, len + 1 wares from i on: the gains behind the left end taken fL, behind the right one fR -/
def pStp (la lb : Nat → Int32) (t : Bool) (i len : Nat) (fL fR : Int32 × Int32) : Int32 × Int32 :=
  if t = true then (if la (i + len) + fR.1 ≤ la i + fL.1 then (la i + fL.1, fL.2) else (la (i + len) + fR.1, fR.2))
  else (if lb (i + len) + fR.2 ≤ lb i + fL.2 then (fL.1, lb i + fL.2) else (fR.1, lb (i + len) + fR.2))
def pStE (la lb : Nat → Int32) (t : Bool) (i len : Nat) (fL fR : Int32 × Int32) : Int32 :=
  if t = true then (if la (i + len) + fR.1 ≤ la i + fL.1 then nI 0 else nI 1) else (if lb (i + len) + fR.2 ≤ lb i + fL.2 then nI 0 else nI 1)
/-- the gains by best play, len wares from i on; tf says whose turn it is when so many lie -/
def pG (la lb : Nat → Int32) (tf : Nat → Bool) : Nat → Nat → Int32 × Int32
  | 0, _ => (nI 0, nI 0)
  | len + 1, i => pStp la lb (tf (len + 1)) i len (pG la lb tf len (i + 1)) (pG la lb tf len i)
theorem gU_self {σ : gM} {o k : Nat} : gU σ o k (σ o k) = σ := by
  funext a j
  simp only [gU]
  by_cases h : a = o ∧ j = k
  · rw [if_pos h, h.1, h.2]
  · rw [if_neg h]
theorem gU_comm {σ : gM} {o p k q : Nat} {v w : Int32} (h : o ≠ p) : gU (gU σ o k v) p q w = gU (gU σ p q w) o k v := by
  funext a j
  simp only [gU]
  by_cases h1 : a = p ∧ j = q
  · rw [if_pos h1, if_neg (fun z => h (z.1.symm.trans h1.1)), if_pos h1]
  · rw [if_neg h1]
    by_cases h2 : a = o ∧ j = k
    · rw [if_pos h2, if_pos h2]
    · rw [if_neg h2, if_neg h2, if_neg h1]
theorem gU_gFn {σ : gM} {o p k lo n : Nat} {v : Int32} {f : Nat → Int32} (h : o ≠ p) : gU (gFn σ p lo n f) o k v = gFn (gU σ o k v) p lo n f := by
  funext a j
  simp only [gU, gFn]
  by_cases h1 : a = p
  · subst h1
    have h2 : ¬ (a = o ∧ j = k) := fun z => h z.1.symm
    rw [if_neg h2, if_neg h2]
  · have h2 : ¬ (a = p ∧ lo ≤ j ∧ j < lo + n) := fun z => h1 z.1
    rw [if_neg h2, if_neg h2]
theorem s_take_31 {i len : Nat} {t : Bool} {σ : gM} {Q : Int32 → gM → Prop} (hi : i + len < 16) (h : Q (pStE (σ 29) (σ 30) t i len (σ 31 (i + 1), σ 32 (i + 1)) (σ 31 i, σ 32 i)) (gU (gU σ 31 i (pStp (σ 29) (σ 30) t i len (σ 31 (i + 1), σ 32 (i + 1)) (σ 31 i, σ 32 i)).1) 32 i (pStp (σ 29) (σ 30) t i len (σ 31 (i + 1), σ 32 (i + 1)) (σ 31 i, σ 32 i)).2)) : wD_takeEnd_31_32 (nI i) (nI (len + 1)) (if t = true then nI 1 else nI 0) σ Q := by
  unfold wD_takeEnd_31_32
  have e : i + (len + 1) - 1 = i + len := by omega
  cases t with
  | true =>
    unfold pStE pStp at h
    simp (disch := first | assumption | omega | decide) only [li0, li1, li2, li3, li4, li5, li6, li7, li8, li9, li10, li11, li12, li13, li14, li16, li17, li20, li21, li22, li23, li24, li30, li32, li40, li48, li57, li59, li63, li86, li97, li99, li100, li102, li115, li122, li200, li255, li289, li320, li400, li720, li999, li1000, nI_add, pk_mul, nI_sub, nI_clamp, vinT, Nat.le_refl, Nat.reduceLeDiff, Nat.reduceLT, Nat.reduceEqDiff, Nat.reduceAdd, Nat.reduceMul, Nat.reduceSub, forall_eq, true_and, and_true, not_true_eq_false, not_false_eq_true, false_implies, true_implies, implies_true, if_true, if_false, ite_self, nI_eqI, nI_leI2, nI_ltI2, e, gU_ne, gU_eq, gU_off] at h ⊢
    by_cases hc : σ 29 (i + len) + σ 31 i ≤ σ 29 i + σ 31 (i + 1)
    · simp only [hc, Nat.le_refl, Nat.reduceLeDiff, Nat.reduceLT, Nat.reduceEqDiff, Nat.reduceAdd, Nat.reduceMul, Nat.reduceSub, forall_eq, true_and, and_true, not_true_eq_false, not_false_eq_true, false_implies, true_implies, implies_true, if_true, if_false, ite_self] at h ⊢
      exact h
    · simp only [hc, Nat.le_refl, Nat.reduceLeDiff, Nat.reduceLT, Nat.reduceEqDiff, Nat.reduceAdd, Nat.reduceMul, Nat.reduceSub, forall_eq, true_and, and_true, not_true_eq_false, not_false_eq_true, false_implies, true_implies, implies_true, if_true, if_false, ite_self] at h ⊢
      rw [show gU (gU σ 31 i (σ 29 (i + len) + σ 31 i)) 32 i (σ 32 i) = gU σ 31 i (σ 29 (i + len) + σ 31 i) from by
        rw [gU_comm (by decide), gU_self]] at h
      exact h
  | false =>
    unfold pStE pStp at h
    simp (disch := first | assumption | omega | decide) only [li0, li1, li2, li3, li4, li5, li6, li7, li8, li9, li10, li11, li12, li13, li14, li16, li17, li20, li21, li22, li23, li24, li30, li32, li40, li48, li57, li59, li63, li86, li97, li99, li100, li102, li115, li122, li200, li255, li289, li320, li400, li720, li999, li1000, nI_add, pk_mul, nI_sub, nI_clamp, vinT, Nat.le_refl, Nat.reduceLeDiff, Nat.reduceLT, Nat.reduceEqDiff, Nat.reduceAdd, Nat.reduceMul, Nat.reduceSub, forall_eq, true_and, and_true, not_true_eq_false, not_false_eq_true, false_implies, true_implies, implies_true, if_true, if_false, ite_self, nI_eqI, nI_leI2, nI_ltI2, e, gU_ne, gU_eq, gU_off, Bool.false_eq_true] at h ⊢
    by_cases hc : σ 30 (i + len) + σ 32 i ≤ σ 30 i + σ 32 (i + 1)
    · simp only [hc, Nat.le_refl, Nat.reduceLeDiff, Nat.reduceLT, Nat.reduceEqDiff, Nat.reduceAdd, Nat.reduceMul, Nat.reduceSub, forall_eq, true_and, and_true, not_true_eq_false, not_false_eq_true, false_implies, true_implies, implies_true, if_true, if_false, ite_self] at h ⊢
      rw [gU_comm (by decide)] at h
      exact h
    · simp only [hc, Nat.le_refl, Nat.reduceLeDiff, Nat.reduceLT, Nat.reduceEqDiff, Nat.reduceAdd, Nat.reduceMul, Nat.reduceSub, forall_eq, true_and, and_true, not_true_eq_false, not_false_eq_true, false_implies, true_implies, implies_true, if_true, if_false, ite_self] at h ⊢
      rw [gU_self] at h
      exact h
theorem s_clear_31 {nl : Nat} {Q : gM → Prop} (hn : nl ≤ 16) : ∀ (m i : Nat) (σ σ0 : gM), σ 24 4 = nI nl → i + m = nl + 1 → σ = gFn (gFn σ0 31 0 i (fun _ => nI 0)) 32 0 i (fun _ => nI 0) → Q (gFn (gFn σ0 31 0 (nl + 1) (fun _ => nI 0)) 32 0 (nl + 1) (fun _ => nI 0)) → wD_clearGains_31_32_l2 Q (m + 1) (nI i) σ := by
  intro m
  induction m with
  | zero =>
    intro i σ σ0 h4 hi hσ h
    have : i = nl + 1 := by omega
    subst this
    rw [wD_clearGains_31_32_l2]
    have h1 : nl < nl + 1 := by omega
    simp (disch := first | assumption | omega | decide) only [li0, li1, li2, li3, li4, li5, li6, li7, li8, li9, li10, li11, li12, li13, li14, li16, li17, li20, li21, li22, li23, li24, li30, li32, li40, li48, li57, li59, li63, li86, li97, li99, li100, li102, li115, li122, li200, li255, li289, li320, li400, li720, li999, li1000, nI_add, pk_mul, nI_sub, nI_clamp, vinT, Nat.le_refl, Nat.reduceLeDiff, Nat.reduceLT, Nat.reduceEqDiff, Nat.reduceAdd, Nat.reduceMul, Nat.reduceSub, forall_eq, true_and, and_true, not_true_eq_false, not_false_eq_true, false_implies, true_implies, implies_true, if_true, if_false, ite_self, nI_eqI, nI_leI2, nI_ltI2, h4, h1]
    rw [hσ]
    exact h
  | succ m ih =>
    intro i σ σ0 h4 hi hσ h
    have h1 : ¬ nl < i := by omega
    rw [wD_clearGains_31_32_l2]
    simp (disch := first | assumption | omega | decide) only [li0, li1, li2, li3, li4, li5, li6, li7, li8, li9, li10, li11, li12, li13, li14, li16, li17, li20, li21, li22, li23, li24, li30, li32, li40, li48, li57, li59, li63, li86, li97, li99, li100, li102, li115, li122, li200, li255, li289, li320, li400, li720, li999, li1000, nI_add, pk_mul, nI_sub, nI_clamp, vinT, Nat.le_refl, Nat.reduceLeDiff, Nat.reduceLT, Nat.reduceEqDiff, Nat.reduceAdd, Nat.reduceMul, Nat.reduceSub, forall_eq, true_and, and_true, not_true_eq_false, not_false_eq_true, false_implies, true_implies, implies_true, if_true, if_false, ite_self, nI_eqI, nI_leI2, nI_ltI2, h4, h1]
    refine ih (i + 1) _ σ0 ?_ (by omega) ?_ h
    · simp (disch := first | assumption | omega | decide) only [gU_ne]
      exact h4
    · rw [hσ, gU_gFn (by decide)]
      have e1 := gFn_succ σ0 31 0 i (fun _ => nI 0)
      have e2 := gFn_succ (gFn σ0 31 0 (i + 1) (fun _ => nI 0)) 32 0 i (fun _ => nI 0)
      simp only [Nat.zero_add] at e1 e2
      rw [e1, e2]
theorem s_take_33 {i len : Nat} {t : Bool} {σ : gM} {Q : Int32 → gM → Prop} (hi : i + len < 16) (h : Q (pStE (σ 29) (σ 30) t i len (σ 33 (i + 1), σ 34 (i + 1)) (σ 33 i, σ 34 i)) (gU (gU σ 33 i (pStp (σ 29) (σ 30) t i len (σ 33 (i + 1), σ 34 (i + 1)) (σ 33 i, σ 34 i)).1) 34 i (pStp (σ 29) (σ 30) t i len (σ 33 (i + 1), σ 34 (i + 1)) (σ 33 i, σ 34 i)).2)) : wD_takeEnd_33_34 (nI i) (nI (len + 1)) (if t = true then nI 1 else nI 0) σ Q := by
  unfold wD_takeEnd_33_34
  have e : i + (len + 1) - 1 = i + len := by omega
  cases t with
  | true =>
    unfold pStE pStp at h
    simp (disch := first | assumption | omega | decide) only [li0, li1, li2, li3, li4, li5, li6, li7, li8, li9, li10, li11, li12, li13, li14, li16, li17, li20, li21, li22, li23, li24, li30, li32, li40, li48, li57, li59, li63, li86, li97, li99, li100, li102, li115, li122, li200, li255, li289, li320, li400, li720, li999, li1000, nI_add, pk_mul, nI_sub, nI_clamp, vinT, Nat.le_refl, Nat.reduceLeDiff, Nat.reduceLT, Nat.reduceEqDiff, Nat.reduceAdd, Nat.reduceMul, Nat.reduceSub, forall_eq, true_and, and_true, not_true_eq_false, not_false_eq_true, false_implies, true_implies, implies_true, if_true, if_false, ite_self, nI_eqI, nI_leI2, nI_ltI2, e, gU_ne, gU_eq, gU_off] at h ⊢
    by_cases hc : σ 29 (i + len) + σ 33 i ≤ σ 29 i + σ 33 (i + 1)
    · simp only [hc, Nat.le_refl, Nat.reduceLeDiff, Nat.reduceLT, Nat.reduceEqDiff, Nat.reduceAdd, Nat.reduceMul, Nat.reduceSub, forall_eq, true_and, and_true, not_true_eq_false, not_false_eq_true, false_implies, true_implies, implies_true, if_true, if_false, ite_self] at h ⊢
      exact h
    · simp only [hc, Nat.le_refl, Nat.reduceLeDiff, Nat.reduceLT, Nat.reduceEqDiff, Nat.reduceAdd, Nat.reduceMul, Nat.reduceSub, forall_eq, true_and, and_true, not_true_eq_false, not_false_eq_true, false_implies, true_implies, implies_true, if_true, if_false, ite_self] at h ⊢
      rw [show gU (gU σ 33 i (σ 29 (i + len) + σ 33 i)) 34 i (σ 34 i) = gU σ 33 i (σ 29 (i + len) + σ 33 i) from by
        rw [gU_comm (by decide), gU_self]] at h
      exact h
  | false =>
    unfold pStE pStp at h
    simp (disch := first | assumption | omega | decide) only [li0, li1, li2, li3, li4, li5, li6, li7, li8, li9, li10, li11, li12, li13, li14, li16, li17, li20, li21, li22, li23, li24, li30, li32, li40, li48, li57, li59, li63, li86, li97, li99, li100, li102, li115, li122, li200, li255, li289, li320, li400, li720, li999, li1000, nI_add, pk_mul, nI_sub, nI_clamp, vinT, Nat.le_refl, Nat.reduceLeDiff, Nat.reduceLT, Nat.reduceEqDiff, Nat.reduceAdd, Nat.reduceMul, Nat.reduceSub, forall_eq, true_and, and_true, not_true_eq_false, not_false_eq_true, false_implies, true_implies, implies_true, if_true, if_false, ite_self, nI_eqI, nI_leI2, nI_ltI2, e, gU_ne, gU_eq, gU_off, Bool.false_eq_true] at h ⊢
    by_cases hc : σ 30 (i + len) + σ 34 i ≤ σ 30 i + σ 34 (i + 1)
    · simp only [hc, Nat.le_refl, Nat.reduceLeDiff, Nat.reduceLT, Nat.reduceEqDiff, Nat.reduceAdd, Nat.reduceMul, Nat.reduceSub, forall_eq, true_and, and_true, not_true_eq_false, not_false_eq_true, false_implies, true_implies, implies_true, if_true, if_false, ite_self] at h ⊢
      rw [gU_comm (by decide)] at h
      exact h
    · simp only [hc, Nat.le_refl, Nat.reduceLeDiff, Nat.reduceLT, Nat.reduceEqDiff, Nat.reduceAdd, Nat.reduceMul, Nat.reduceSub, forall_eq, true_and, and_true, not_true_eq_false, not_false_eq_true, false_implies, true_implies, implies_true, if_true, if_false, ite_self] at h ⊢
      rw [gU_self] at h
      exact h
theorem s_clear_33 {nl : Nat} {Q : gM → Prop} (hn : nl ≤ 16) : ∀ (m i : Nat) (σ σ0 : gM), σ 24 4 = nI nl → i + m = nl + 1 → σ = gFn (gFn σ0 33 0 i (fun _ => nI 0)) 34 0 i (fun _ => nI 0) → Q (gFn (gFn σ0 33 0 (nl + 1) (fun _ => nI 0)) 34 0 (nl + 1) (fun _ => nI 0)) → wD_clearGains_33_34_l2 Q (m + 1) (nI i) σ := by
  intro m
  induction m with
  | zero =>
    intro i σ σ0 h4 hi hσ h
    have : i = nl + 1 := by omega
    subst this
    rw [wD_clearGains_33_34_l2]
    have h1 : nl < nl + 1 := by omega
    simp (disch := first | assumption | omega | decide) only [li0, li1, li2, li3, li4, li5, li6, li7, li8, li9, li10, li11, li12, li13, li14, li16, li17, li20, li21, li22, li23, li24, li30, li32, li40, li48, li57, li59, li63, li86, li97, li99, li100, li102, li115, li122, li200, li255, li289, li320, li400, li720, li999, li1000, nI_add, pk_mul, nI_sub, nI_clamp, vinT, Nat.le_refl, Nat.reduceLeDiff, Nat.reduceLT, Nat.reduceEqDiff, Nat.reduceAdd, Nat.reduceMul, Nat.reduceSub, forall_eq, true_and, and_true, not_true_eq_false, not_false_eq_true, false_implies, true_implies, implies_true, if_true, if_false, ite_self, nI_eqI, nI_leI2, nI_ltI2, h4, h1]
    rw [hσ]
    exact h
  | succ m ih =>
    intro i σ σ0 h4 hi hσ h
    have h1 : ¬ nl < i := by omega
    rw [wD_clearGains_33_34_l2]
    simp (disch := first | assumption | omega | decide) only [li0, li1, li2, li3, li4, li5, li6, li7, li8, li9, li10, li11, li12, li13, li14, li16, li17, li20, li21, li22, li23, li24, li30, li32, li40, li48, li57, li59, li63, li86, li97, li99, li100, li102, li115, li122, li200, li255, li289, li320, li400, li720, li999, li1000, nI_add, pk_mul, nI_sub, nI_clamp, vinT, Nat.le_refl, Nat.reduceLeDiff, Nat.reduceLT, Nat.reduceEqDiff, Nat.reduceAdd, Nat.reduceMul, Nat.reduceSub, forall_eq, true_and, and_true, not_true_eq_false, not_false_eq_true, false_implies, true_implies, implies_true, if_true, if_false, ite_self, nI_eqI, nI_leI2, nI_ltI2, h4, h1]
    refine ih (i + 1) _ σ0 ?_ (by omega) ?_ h
    · simp (disch := first | assumption | omega | decide) only [gU_ne]
      exact h4
    · rw [hσ, gU_gFn (by decide)]
      have e1 := gFn_succ σ0 33 0 i (fun _ => nI 0)
      have e2 := gFn_succ (gFn σ0 33 0 (i + 1) (fun _ => nI 0)) 34 0 i (fun _ => nI 0)
      simp only [Nat.zero_add] at e1 e2
      rw [e1, e2]
/-- what play leaves as it was -/
def pFD (σ0 σ : gM) : Prop := (∀ a, a ≠ 24 → a ≠ 31 → a ≠ 32 → σ a = σ0 a) ∧ ∀ j, j ≠ 2 → σ 24 j = σ0 24 j
section Play
variable {nl : Nat} {σ0 : gM} {Q : gM → Prop} {tf : Nat → Bool}
theorem s_play_in (hn : nl ≤ 16) (h4 : σ0 24 4 = nI nl) {c : Nat} (hc : c < nl) {K : Int32 → gM → Prop} : ∀ (m i : Nat) (σ : gM), i + m = nl - c → pFD σ0 σ → (∀ j, j < i → (σ 31 j, σ 32 j) = pG (σ0 29) (σ0 30) tf (c + 1) j) → (∀ j, i ≤ j → j + c ≤ nl → (σ 31 j, σ 32 j) = pG (σ0 29) (σ0 30) tf c j) → (0 < i → σ 24 2 = pStE (σ0 29) (σ0 30) (tf (c + 1)) (i - 1) c (pG (σ0 29) (σ0 30) tf c i) (pG (σ0 29) (σ0 30) tf c (i - 1))) →
    (∀ σ', pFD σ0 σ' → (∀ j, j + (c + 1) ≤ nl → (σ' 31 j, σ' 32 j) = pG (σ0 29) (σ0 30) tf (c + 1) j) → σ' 24 2 = pStE (σ0 29) (σ0 30) (tf (c + 1)) (nl - (c + 1)) c (pG (σ0 29) (σ0 30) tf c (nl - c)) (pG (σ0 29) (σ0 30) tf c (nl - (c + 1))) → K (nI (c + 1 + 1)) σ') → wD_play_l41 Q K (m + 1) (nI (c + 1)) (if tf (c + 1) = true then nI 1 else nI 0) (nI i) σ := by
  intro m
  induction m with
  | zero =>
    intro i σ hi hF h1 h2 h3 hK
    rw [wD_play_l41]
    have e4 : σ 24 4 = nI nl := by rw [hF.2 4 (by omega)]; exact h4
    have q : nl < i + (c + 1) := by omega
    simp (disch := first | assumption | omega | decide) only [li0, li1, li2, li3, li4, li5, li6, li7, li8, li9, li10, li11, li12, li13, li14, li16, li17, li20, li21, li22, li23, li24, li30, li32, li40, li48, li57, li59, li63, li86, li97, li99, li100, li102, li115, li122, li200, li255, li289, li320, li400, li720, li999, li1000, nI_add, pk_mul, nI_sub, nI_clamp, vinT, Nat.le_refl, Nat.reduceLeDiff, Nat.reduceLT, Nat.reduceEqDiff, Nat.reduceAdd, Nat.reduceMul, Nat.reduceSub, forall_eq, true_and, and_true, not_true_eq_false, not_false_eq_true, false_implies, true_implies, implies_true, if_true, if_false, ite_self, nI_eqI, nI_leI2, nI_ltI2, e4, q]
    refine hK σ hF (fun j hj => h1 j (by omega)) ?_
    have := h3 (by omega)
    rw [this, show i = nl - c by omega, show nl - c - 1 = nl - (c + 1) by omega]
  | succ m ih =>
    intro i σ hi hF h1 h2 h3 hK
    rw [wD_play_l41]
    have e4 : σ 24 4 = nI nl := by rw [hF.2 4 (by omega)]; exact h4
    have q : ¬ nl < i + (c + 1) := by omega
    simp (disch := first | assumption | omega | decide) only [li0, li1, li2, li3, li4, li5, li6, li7, li8, li9, li10, li11, li12, li13, li14, li16, li17, li20, li21, li22, li23, li24, li30, li32, li40, li48, li57, li59, li63, li86, li97, li99, li100, li102, li115, li122, li200, li255, li289, li320, li400, li720, li999, li1000, nI_add, pk_mul, nI_sub, nI_clamp, vinT, Nat.le_refl, Nat.reduceLeDiff, Nat.reduceLT, Nat.reduceEqDiff, Nat.reduceAdd, Nat.reduceMul, Nat.reduceSub, forall_eq, true_and, and_true, not_true_eq_false, not_false_eq_true, false_implies, true_implies, implies_true, if_true, if_false, ite_self, nI_eqI, nI_leI2, nI_ltI2, e4, q]
    refine s_take_31 (by omega) ?_
    have e29 : σ 29 = σ0 29 := hF.1 29 (by omega) (by omega) (by omega)
    have e30 : σ 30 = σ0 30 := hF.1 30 (by omega) (by omega) (by omega)
    rw [h2 i (by omega) (by omega), h2 (i + 1) (by omega) (by omega), e29, e30]
    refine ih (i + 1) _ (by omega) ⟨fun a a1 a2 a3 => ?_, fun j hj => ?_⟩ (fun j hj => ?_) (fun j hj hj2 => ?_) (fun _ => ?_) hK
    · simp (disch := first | assumption | omega | decide) only [gU_ne]
      exact hF.1 a a1 a2 a3
    · simp (disch := first | assumption | omega | decide) only [gU_off, gU_ne]
      exact hF.2 j hj
    · by_cases ej : j = i
      · subst ej
        simp (disch := first | assumption | omega | decide) only [gU_ne, gU_eq]
        rfl
      · simp (disch := first | assumption | omega | decide) only [gU_ne, gU_off]
        exact h1 j (by omega)
    · simp (disch := first | assumption | omega | decide) only [gU_ne, gU_off]
      exact h2 j (by omega) hj2
    · simp (disch := first | assumption | omega | decide) only [gU_ne, gU_eq, Nat.add_sub_cancel]
theorem s_play_out (hn : nl ≤ 16) (h4 : σ0 24 4 = nI nl) (htf : ∀ c, c < nl → tf (c + 1) = pTurn (σ0 24 3) (nl - (c + 1))) : ∀ (m c : Nat) (σ : gM), c + m = nl → pFD σ0 σ → (∀ j, j + c ≤ nl → (σ 31 j, σ 32 j) = pG (σ0 29) (σ0 30) tf c j) → (c = 0 → σ 24 2 = -1000000) → (∀ d, c = d + 1 → σ 24 2 = pStE (σ0 29) (σ0 30) (tf (d + 1)) (nl - (d + 1)) d (pG (σ0 29) (σ0 30) tf d (nl - d)) (pG (σ0 29) (σ0 30) tf d (nl - (d + 1)))) →
    (∀ σ', pFD σ0 σ' → (σ' 31 0, σ' 32 0) = pG (σ0 29) (σ0 30) tf nl 0 → (nl = 0 → σ' 24 2 = -1000000) → (∀ d, nl = d + 1 → σ' 24 2 = pStE (σ0 29) (σ0 30) (tf (d + 1)) 0 d (pG (σ0 29) (σ0 30) tf d 1) (pG (σ0 29) (σ0 30) tf d 0)) → Q σ') → wD_play_l20 Q (m + 1) (nI (c + 1)) σ := by
  intro m
  induction m with
  | zero =>
    intro c σ hi hF h1 h2 h3 hQ
    rw [wD_play_l20]
    have e4 : σ 24 4 = nI nl := by rw [hF.2 4 (by omega)]; exact h4
    have q : nl < c + 1 := by omega
    simp (disch := first | assumption | omega | decide) only [li0, li1, li2, li3, li4, li5, li6, li7, li8, li9, li10, li11, li12, li13, li14, li16, li17, li20, li21, li22, li23, li24, li30, li32, li40, li48, li57, li59, li63, li86, li97, li99, li100, li102, li115, li122, li200, li255, li289, li320, li400, li720, li999, li1000, nI_add, pk_mul, nI_sub, nI_clamp, vinT, Nat.le_refl, Nat.reduceLeDiff, Nat.reduceLT, Nat.reduceEqDiff, Nat.reduceAdd, Nat.reduceMul, Nat.reduceSub, forall_eq, true_and, and_true, not_true_eq_false, not_false_eq_true, false_implies, true_implies, implies_true, if_true, if_false, ite_self, nI_eqI, nI_leI2, nI_ltI2, e4, q]
    have hcn : c = nl := by omega
    subst hcn
    refine hQ σ hF (h1 0 (by omega)) h2 (fun d hd => ?_)
    subst hd
    have := h3 d rfl
    rw [Nat.sub_self, show d + 1 - d = 1 by omega] at this
    exact this
  | succ m ih =>
    intro c σ hi hF h1 h2 h3 hQ
    rw [wD_play_l20]
    have e4 : σ 24 4 = nI nl := by rw [hF.2 4 (by omega)]; exact h4
    have e3 : σ 24 3 = σ0 24 3 := hF.2 3 (by omega)
    have q : ¬ nl < c + 1 := by omega
    simp (disch := first | assumption | omega | decide) only [li0, li1, li2, li3, li4, li5, li6, li7, li8, li9, li10, li11, li12, li13, li14, li16, li17, li20, li21, li22, li23, li24, li30, li32, li40, li48, li57, li59, li63, li86, li97, li99, li100, li102, li115, li122, li200, li255, li289, li320, li400, li720, li999, li1000, nI_add, pk_mul, nI_sub, nI_clamp, vinT, Nat.le_refl, Nat.reduceLeDiff, Nat.reduceLT, Nat.reduceEqDiff, Nat.reduceAdd, Nat.reduceMul, Nat.reduceSub, forall_eq, true_and, and_true, not_true_eq_false, not_false_eq_true, false_implies, true_implies, implies_true, if_true, if_false, ite_self, nI_eqI, nI_leI2, nI_ltI2, e4, q, eD_isTurnOfA, e3]
    rw [← htf c (by omega)]
    refine ⟨nl - c + 1, s_play_in hn h4 (c := c) (by omega) (nl - c) 0 σ (by omega) hF (fun j hj => absurd hj (by omega)) (fun j _ hj => h1 j hj) (fun q => absurd q (by omega)) (fun σ' f1 f2 f3 => ?_)⟩
    exact ih (c + 1) σ' (by omega) f1 f2 (fun q => absurd q (by omega)) (fun d hd => by
      have : d = c := by omega
      subst this
      exact f3) hQ
/-- play: the whole row's gains, and the first end -/
theorem s_play (hn : nl ≤ 16) {σ : gM} (h4 : σ 24 4 = nI nl) (htf : ∀ c, c < nl → tf (c + 1) = pTurn (σ 24 3) (nl - (c + 1))) (hQ : ∀ σ', pFD σ σ' → (σ' 31 0, σ' 32 0) = pG (σ 29) (σ 30) tf nl 0 → (nl = 0 → σ' 24 2 = -1000000) → (∀ d, nl = d + 1 → σ' 24 2 = pStE (σ 29) (σ 30) (tf (d + 1)) 0 d (pG (σ 29) (σ 30) tf d 1) (pG (σ 29) (σ 30) tf d 0)) → Q σ') : wD_play σ Q := by
  unfold wD_play wD_clearGains_31_32
  simp only [forall_eq]
  refine ⟨nl + 1 + 1, s_clear_31 hn (nl + 1) 0 _ _ (by simp (disch := first | assumption | omega | decide) only [gU_off]; exact h4) (by omega) (by rw [gFn_0, gFn_0]) ⟨nl + 1, ?_⟩⟩
  refine s_play_out hn (σ0 := σ) h4 htf nl 0 _ (by omega) ⟨fun a a1 a2 a3 => ?_, fun j hj => ?_⟩ (fun j hj => ?_) (fun _ => ?_) (fun d hd => absurd hd (by omega)) hQ
  · simp (disch := first | assumption | omega | decide) only [gFn_ne, gU_ne]
  · simp (disch := first | assumption | omega | decide) only [gFn_ne, gU_off]
  · simp (disch := first | assumption | omega | decide) only [gFn_ne, gFn_in]
    rfl
  · simp (disch := first | assumption | omega | decide) only [gFn_ne, gU_eq]
end Play
