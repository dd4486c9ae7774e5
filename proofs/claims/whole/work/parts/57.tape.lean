/-! THE TAPE: tokens from a place on -/
def rn (P : Nat → Bool) : Nat → Nat → Nat
  | 0, p => p
  | m + 1, p => if P p = true then rn P m (p + 1) else p
theorem rn_spec {P : Nat → Bool} : ∀ (m p : Nat), p ≤ rn P m p ∧ rn P m p ≤ p + m ∧ (∀ j, p ≤ j → j < rn P m p → P j = true) ∧ (rn P m p < p + m → P (rn P m p) = false)
  | 0, p => ⟨Nat.le_refl _, Nat.le_refl _, fun j a b => absurd b (Nat.not_lt.mpr a), fun h => absurd h (Nat.lt_irrefl _)⟩
  | m + 1, p => by
    rw [rn]
    by_cases q : P p = true
    · rw [if_pos q]
      obtain ⟨h1, h2, h3, h4⟩ := rn_spec (P := P) m (p + 1)
      refine ⟨by omega, by omega, fun j a b => ?_, fun h => h4 (by omega)⟩
      by_cases e : j = p
      · rw [e]; exact q
      · exact h3 j (by omega) b
    · rw [if_neg q]
      exact ⟨by omega, by omega, fun j a b => absurd b (by omega), fun _ => Bool.not_eq_true _ ▸ q⟩
def isLt (x : Int32) : Bool := decide (¬ x < nI 97 ∧ ¬ nI 122 < x)
def isFg (x : Int32) : Bool := decide (¬ x < nI 48 ∧ ¬ nI 57 < x)
def isBk (x : Int32) : Bool := decide (x = nI 32 ∨ x = nI 10)
theorem eT_isLetter {x : Int32} {σ : gM} {Q : Int32 → gM → Prop} : wT_isLetter x σ Q = Q (if isLt x = true then nI 1 else nI 0) σ := by
  unfold wT_isLetter isLt
  by_cases h1 : x < nI 97 <;> by_cases h2 : nI 122 < x <;> simp [h1, h2]
theorem eT_isFigure {x : Int32} {σ : gM} {Q : Int32 → gM → Prop} : wT_isFigure x σ Q = Q (if isFg x = true then nI 1 else nI 0) σ := by
  unfold wT_isFigure isFg
  by_cases h1 : x < nI 48 <;> by_cases h2 : nI 57 < x <;> simp [h1, h2]
theorem eT_isBlank {x : Int32} {σ : gM} {Q : Int32 → gM → Prop} : wT_isBlank x σ Q = Q (if isBk x = true then nI 1 else nI 0) σ := by
  unfold wT_isBlank isBk
  by_cases h1 : x = nI 32 <;> by_cases h2 : x = nI 10 <;> simp [h1, h2]
theorem eM_inL {x : Int32} {σ : gM} {Q : Int32 → gM → Prop} : wM_in x (nI 97) (nI 122) σ Q = Q (if isLt x = true then nI 1 else nI 0) σ := by
  rw [eM_in]
  unfold isLt
  by_cases h1 : x < nI 97 <;> by_cases h2 : nI 122 < x <;> simp [h1, h2]
theorem eM_inF {x : Int32} {σ : gM} {Q : Int32 → gM → Prop} : wM_in x (nI 48) (nI 57) σ Q = Q (if isFg x = true then nI 1 else nI 0) σ := by
  rw [eM_in]
  unfold isFg
  by_cases h1 : x < nI 48 <;> by_cases h2 : nI 57 < x <;> simp [h1, h2]
theorem isLt_of {x : Int32} (h : isLt x = true) : ∃ c, 97 ≤ c ∧ c ≤ 122 ∧ x = nI c := by
  unfold isLt at h
  have h := of_decide_eq_true h
  rcases i_nat x with q | ⟨c, hc, rfl⟩
  · exact absurd (by rw [ng_lt q (by omega)]; trivial) h.1
  · rw [nI_ltI2 (by omega) (by omega), nI_ltI2 (by omega) (by omega)] at h
    exact ⟨c, by omega, by omega, rfl⟩
theorem isFg_of {x : Int32} (h : isFg x = true) : ∃ c, 48 ≤ c ∧ c ≤ 57 ∧ x = nI c := by
  unfold isFg at h
  have h := of_decide_eq_true h
  rcases i_nat x with q | ⟨c, hc, rfl⟩
  · exact absurd (by rw [ng_lt q (by omega)]; trivial) h.1
  · rw [nI_ltI2 (by omega) (by omega), nI_ltI2 (by omega) (by omega)] at h
    exact ⟨c, by omega, by omega, rfl⟩
section Tok
variable {t : Nat} {f : Nat → Int32}
def tS (f : Nat → Int32) (t p : Nat) : Nat := rn (fun j => isBk (f j)) (t - p) p
/-- the end of a token that begins at s -/
def tEs (f : Nat → Int32) (t s : Nat) : Nat := if t ≤ s then s else if isLt (f s) = true then rn (fun j => isLt (f j)) (t - s) s else if isFg (f s) = true then rn (fun j => isFg (f j)) (t - s) s else s + 1
def tKs (f : Nat → Int32) (t s : Nat) : Nat := if t ≤ s then 3 else if isLt (f s) = true then 0 else if isFg (f s) = true then (if tEs f t s - s ≤ 3 then 1 else 4) else if f s = nI 59 then 2 else 4
def fv (f : Nat → Int32) (s : Nat) : Nat → Nat
  | 0 => 0
  | i + 1 => 10 * fv f s i + ((f (s + i)).toNatClampNeg - 48)
def m3 (i : Nat) : Nat := if i ≤ 3 then i else 3
def tVs (f : Nat → Int32) (t s : Nat) : Nat := fv f s (m3 (tEs f t s - s))
theorem tS_spec {p : Nat} (hp : p ≤ t) : p ≤ tS f t p ∧ tS f t p ≤ t := by
  obtain ⟨h1, h2, -, -⟩ := rn_spec (P := fun j => isBk (f j)) (t - p) p
  unfold tS
  omega
theorem tEs_spec {s : Nat} (hs : s ≤ t) : s ≤ tEs f t s ∧ tEs f t s ≤ t := by
  unfold tEs
  obtain ⟨h1, h2, -, -⟩ := rn_spec (P := fun j => isLt (f j)) (t - s) s
  obtain ⟨g1, g2, -, -⟩ := rn_spec (P := fun j => isFg (f j)) (t - s) s
  split
  · omega
  · split
    · omega
    · split <;> omega
theorem fv_lt {s : Nat} : ∀ i, (∀ j, j < i → isFg (f (s + j)) = true) → fv f s i < 10 ^ i
  | 0, _ => by rw [fv]; simp
  | i + 1, h => by
    have h1 := fv_lt i (fun j hj => h j (by omega))
    obtain ⟨c, c1, c2, c3⟩ := isFg_of (h i (by omega))
    rw [fv, c3, nI_clamp (by omega), Nat.pow_succ]
    omega
theorem tVs_lt {s : Nat} (hF : isFg (f s) = true) (hL : ¬ isLt (f s) = true) (hs : ¬ t ≤ s) : tVs f t s < 1000 := by
  have e : tEs f t s = rn (fun j => isFg (f j)) (t - s) s := by
    unfold tEs
    rw [if_neg hs, if_neg hL, if_pos hF]
  obtain ⟨h1, h2, h3, h4⟩ := rn_spec (P := fun j => isFg (f j)) (t - s) s
  unfold tVs
  have hm : m3 (tEs f t s - s) ≤ 3 ∧ m3 (tEs f t s - s) ≤ tEs f t s - s := by unfold m3; split <;> omega
  have hlt := fv_lt (f := f) (s := s) (m3 (tEs f t s - s)) (fun j hj => h3 (s + j) (by omega) (by omega))
  have hb : (10 : Nat) ^ m3 (tEs f t s - s) ≤ 10 ^ 3 := Nat.pow_le_pow_right (by omega) hm.1
  omega
def CS (f : Nat → Int32) (t : Nat) (σ : gM) : Prop := σ 18 0 = nI t ∧ ∀ i, i < t → σ 19 i = f i
/-- a step changes the reading's places alone -/
def pStpF (σ0 σ : gM) : Prop := (∀ c, c ≠ 18 → σ c = σ0 c) ∧ ∀ j, j ≠ 4 → j ≠ 5 → j ≠ 6 → j ≠ 7 → σ 18 j = σ0 18 j
theorem pStpF_CS {σ0 σ : gM} (h : pStpF σ0 σ) (hc : CS f t σ0) : CS f t σ := ⟨by rw [h.2 0 (by omega) (by omega) (by omega) (by omega)]; exact hc.1, fun i hi => by rw [h.1 19 (by omega)]; exact hc.2 i hi⟩
theorem pStpF_U {σ0 σ : gM} {j : Nat} {v : Int32} (h : pStpF σ0 σ) (hj : j = 4 ∨ j = 5 ∨ j = 6 ∨ j = 7) : pStpF σ0 (gU σ 18 j v) := ⟨fun c hc => by rw [gU_ne hc]; exact h.1 c hc, fun i h1 h2 h3 h4 => by rw [gU_off (by omega)]; exact h.2 i h1 h2 h3 h4⟩
theorem s_stepName {σ0 : gM} {s : Nat} (ht : t ≤ 400) (hc : CS f t σ0) {Q : gM → Prop} (hQ : ∀ σ', pStpF σ0 σ' → σ' 18 4 = nI s → σ' 18 5 = nI (rn (fun j => isLt (f j)) (t - s) s) → σ' 18 6 = nI 0 → Q σ') : ∀ (m q : Nat) (σ : gM), q + m = t → pStpF σ0 σ → σ 18 4 = nI s → σ 18 5 = nI q → rn (fun j => isLt (f j)) m q = rn (fun j => isLt (f j)) (t - s) s → wT_stepName_l0 Q (m + 1) σ := by
  have n01 : ¬ nI 1 = nI 0 := by decide
  intro m
  induction m with
  | zero =>
    intro q σ hq hF h4 h5 hr
    have h0 := (pStpF_CS hF hc).1
    have : t ≤ q := by omega
    rw [wT_stepName_l0]
    simp (disch := first | assumption | omega | decide) only [h0, h5, nI_leI2, this, Nat.le_refl, Nat.reduceLeDiff, Nat.reduceLT, Nat.reduceEqDiff, Nat.reduceAdd, Nat.reduceMul, Nat.reduceSub, forall_eq, true_and, and_true, not_true_eq_false, not_false_eq_true, false_implies, true_implies, implies_true, if_true, if_false, ite_self]
    refine hQ _ (pStpF_U hF (by omega)) (by rw [gU_off (by omega)]; exact h4) (by rw [gU_off (by omega), h5, ← hr]; rfl) gU_eq
  | succ m ih =>
    intro q σ hq hF h4 h5 hr
    obtain ⟨h0, hb⟩ := pStpF_CS hF hc
    have q1 : ¬ t ≤ q := by omega
    have q2 : q < 400 := by omega
    have e := hb q (by omega)
    rw [rn] at hr
    rw [wT_stepName_l0]
    simp (disch := first | assumption | omega | decide) only [h0, h5, nI_leI2, q1, vinT, nI_clamp, e, eT_isLetter, Nat.le_refl, Nat.reduceLeDiff, Nat.reduceLT, Nat.reduceEqDiff, Nat.reduceAdd, Nat.reduceMul, Nat.reduceSub, forall_eq, true_and, and_true, not_true_eq_false, not_false_eq_true, false_implies, true_implies, implies_true, if_true, if_false, ite_self]
    cases hl : isLt (f q) with
    | true =>
      rw [if_pos hl] at hr
      simp only [Nat.le_refl, Nat.reduceLeDiff, Nat.reduceLT, Nat.reduceEqDiff, Nat.reduceAdd, Nat.reduceMul, Nat.reduceSub, forall_eq, true_and, and_true, not_true_eq_false, not_false_eq_true, false_implies, true_implies, implies_true, if_true, if_false, ite_self, n01, nI_add]
      exact ih (q + 1) _ (by omega) (pStpF_U hF (by omega)) (by rw [gU_off (by omega)]; exact h4) gU_eq hr
    | false =>
      rw [if_neg (by rw [hl]; simp)] at hr
      simp only [Nat.le_refl, Nat.reduceLeDiff, Nat.reduceLT, Nat.reduceEqDiff, Nat.reduceAdd, Nat.reduceMul, Nat.reduceSub, forall_eq, true_and, and_true, not_true_eq_false, not_false_eq_true, false_implies, true_implies, implies_true, if_true, if_false, ite_self, Bool.false_eq_true]
      exact hQ _ (pStpF_U hF (by omega)) (by rw [gU_off (by omega)]; exact h4) (by rw [gU_off (by omega), h5, ← hr]) gU_eq
theorem s_stepNumber_l {σ0 : gM} {s : Nat} (ht : t ≤ 400) (hst : s ≤ t) (hc : CS f t σ0) {Q : gM → Prop} (hQ : ∀ σ', pStpF σ0 σ' → σ' 18 4 = nI s → σ' 18 5 = nI (rn (fun j => isFg (f j)) (t - s) s) → σ' 18 6 = nI (if rn (fun j => isFg (f j)) (t - s) s - s ≤ 3 then 1 else 4) → σ' 18 7 = nI (fv f s (m3 (rn (fun j => isFg (f j)) (t - s) s - s))) → Q σ') : ∀ (m i : Nat) (σ : gM), s + i + m = t → pStpF σ0 σ → σ 18 4 = nI s → σ 18 5 = nI (s + i) → σ 18 7 = nI (fv f s (m3 i)) → rn (fun j => isFg (f j)) m (s + i) = rn (fun j => isFg (f j)) (t - s) s → wT_stepNumber_l5 Q (m + 1) σ := by
  have n01 : ¬ nI 1 = nI 0 := by decide
  have fin : ∀ (i : Nat) (σ : gM), s + i ≤ t → pStpF σ0 σ → σ 18 4 = nI s → σ 18 5 = nI (s + i) → σ 18 7 = nI (fv f s (m3 i)) → s + i = rn (fun j => isFg (f j)) (t - s) s → Q (gU σ 18 6 (if nI 3 < nI (s + i) - nI s then nI 4 else nI 1)) := by
    intro i σ hi hF h4 h5 h7 hr
    refine hQ _ (pStpF_U hF (by omega)) (by rw [gU_off (by omega)]; exact h4) (by rw [gU_off (by omega), h5, hr]) ?_ (by rw [gU_off (by omega), h7, ← hr, Nat.add_sub_cancel_left])
    rw [gU_eq, ← hr, nI_sub (by omega), Nat.add_sub_cancel_left]
    by_cases q : i ≤ 3
    · rw [if_pos q, if_neg (by rw [nI_ltI2 (by omega) (by omega)]; omega)]
    · rw [if_neg q, if_pos (by rw [nI_ltI2 (by omega) (by omega)]; omega)]
  intro m
  induction m with
  | zero =>
    intro i σ hq hF h4 h5 h7 hr
    have h0 := (pStpF_CS hF hc).1
    have : t ≤ s + i := by omega
    rw [wT_stepNumber_l5]
    simp (disch := first | assumption | omega | decide) only [h0, h4, h5, nI_leI2, this, Nat.le_refl, Nat.reduceLeDiff, Nat.reduceLT, Nat.reduceEqDiff, Nat.reduceAdd, Nat.reduceMul, Nat.reduceSub, forall_eq, true_and, and_true, not_true_eq_false, not_false_eq_true, false_implies, true_implies, implies_true, if_true, if_false, ite_self]
    exact fin i σ (by omega) hF h4 h5 h7 hr
  | succ m ih =>
    intro i σ hq hF h4 h5 h7 hr
    obtain ⟨h0, hb⟩ := pStpF_CS hF hc
    have q1 : ¬ t ≤ s + i := by omega
    have q2 : s + i < 400 := by omega
    have e := hb (s + i) (by omega)
    rw [rn] at hr
    rw [wT_stepNumber_l5]
    simp (disch := first | assumption | omega | decide) only [h0, h4, h5, nI_leI2, q1, vinT, nI_clamp, e, eT_isFigure, Nat.le_refl, Nat.reduceLeDiff, Nat.reduceLT, Nat.reduceEqDiff, Nat.reduceAdd, Nat.reduceMul, Nat.reduceSub, forall_eq, true_and, and_true, not_true_eq_false, not_false_eq_true, false_implies, true_implies, implies_true, if_true, if_false, ite_self]
    cases hl : isFg (f (s + i)) with
    | true =>
      rw [if_pos hl] at hr
      simp only [Nat.le_refl, Nat.reduceLeDiff, Nat.reduceLT, Nat.reduceEqDiff, Nat.reduceAdd, Nat.reduceMul, Nat.reduceSub, forall_eq, true_and, and_true, not_true_eq_false, not_false_eq_true, false_implies, true_implies, implies_true, if_true, if_false, ite_self, n01]
      obtain ⟨c, c1, c2, c3⟩ := isFg_of hl
      have hsub : nI (s + i) - nI s = nI i := by rw [nI_sub (by omega), Nat.add_sub_cancel_left]
      rw [hsub]
      by_cases q3 : 3 ≤ i
      · simp (disch := first | assumption | omega | decide) only [nI_leI2, q3, nI_add, Nat.le_refl, Nat.reduceLeDiff, Nat.reduceLT, Nat.reduceEqDiff, Nat.reduceAdd, Nat.reduceMul, Nat.reduceSub, forall_eq, true_and, and_true, not_true_eq_false, not_false_eq_true, false_implies, true_implies, implies_true, if_true, if_false, ite_self]
        refine ih (i + 1) _ (by omega) (pStpF_U hF (by omega)) (by rw [gU_off (by omega)]; exact h4) gU_eq ?_ hr
        rw [gU_off (by omega), h7]
        have a1 : m3 i = 3 := by unfold m3; split <;> omega
        have a2 : m3 (i + 1) = 3 := by unfold m3; split <;> omega
        rw [a1, a2]
      · have a1 : m3 i = i := by unfold m3; rw [if_pos (by omega)]
        have a2 : m3 (i + 1) = i + 1 := by unfold m3; rw [if_pos (by omega)]
        simp (disch := first | assumption | omega | decide) only [nI_leI2, q3, Nat.le_refl, Nat.reduceLeDiff, Nat.reduceLT, Nat.reduceEqDiff, Nat.reduceAdd, Nat.reduceMul, Nat.reduceSub, forall_eq, true_and, and_true, not_true_eq_false, not_false_eq_true, false_implies, true_implies, implies_true, if_true, if_false, ite_self, h7, c3, pk_mul, nI_add, nI_sub, gU_off, h5]
        refine ih (i + 1) _ (by omega) (pStpF_U (pStpF_U hF (by omega)) (by omega)) (by rw [gU_off (by omega), gU_off (by omega)]; exact h4) gU_eq ?_ hr
        rw [gU_off (by omega), gU_eq, a1, a2, fv, c3, nI_clamp (by omega)]
        congr 1
        omega
    | false =>
      rw [if_neg (by rw [hl]; simp)] at hr
      simp only [Nat.le_refl, Nat.reduceLeDiff, Nat.reduceLT, Nat.reduceEqDiff, Nat.reduceAdd, Nat.reduceMul, Nat.reduceSub, forall_eq, true_and, and_true, not_true_eq_false, not_false_eq_true, false_implies, true_implies, implies_true, if_true, if_false, ite_self, Bool.false_eq_true]
      exact fin i σ (by omega) hF h4 h5 h7 hr
theorem s_step_b {σ0 σ : gM} {s : Nat} (ht : t ≤ 400) (hst : s ≤ t) (hc : CS f t σ0) (hF : pStpF σ0 σ) (h4 : σ 18 4 = nI s) {Q : gM → Prop} (hQ : ∀ σ', pStpF σ0 σ' → σ' 18 4 = nI s → σ' 18 5 = nI (tEs f t s) → σ' 18 6 = nI (tKs f t s) → (tKs f t s = 1 → σ' 18 7 = nI (tVs f t s)) → Q σ') : wT_step_b47 Q σ := by
  have n01 : ¬ nI 1 = nI 0 := by decide
  obtain ⟨h0, hb⟩ := pStpF_CS hF hc
  have hE : tEs f t s = (if t ≤ s then s else if isLt (f s) = true then rn (fun j => isLt (f j)) (t - s) s else if isFg (f s) = true then rn (fun j => isFg (f j)) (t - s) s else s + 1) := rfl
  have hK : tKs f t s = (if t ≤ s then 3 else if isLt (f s) = true then 0 else if isFg (f s) = true then (if tEs f t s - s ≤ 3 then 1 else 4) else if f s = nI 59 then 2 else 4) := rfl
  unfold wT_step_b47
  have hF5 : pStpF σ0 (gU σ 18 5 (nI s)) := pStpF_U hF (by omega)
  have h45 : gU σ 18 5 (nI s) 18 4 = nI s := by rw [gU_off (by omega)]; exact h4
  by_cases q : t ≤ s
  · rw [if_pos q] at hE hK
    have q2 : ¬ s < t := by omega
    simp (disch := first | assumption | omega | decide) only [forall_eq, h4, gU_off, h0, nI_ltI2, q2, Nat.le_refl, Nat.reduceLeDiff, Nat.reduceLT, Nat.reduceEqDiff, Nat.reduceAdd, Nat.reduceMul, Nat.reduceSub, forall_eq, true_and, and_true, not_true_eq_false, not_false_eq_true, false_implies, true_implies, implies_true, if_true, if_false, ite_self]
    refine hQ _ (pStpF_U hF5 (by omega)) (by rw [gU_off (by omega)]; exact h45) (by rw [gU_off (by omega), gU_eq, hE]) (by rw [gU_eq, hK]) (fun z => by rw [hK] at z; omega)
  · rw [if_neg q] at hE hK
    have q2 : s < t := by omega
    have q3 : s < 400 := by omega
    have e : σ 19 s = f s := hb s q2
    simp (disch := first | assumption | omega | decide) only [forall_eq, h4, gU_off, gU_ne, h0, nI_ltI2, q2, Nat.le_refl, Nat.reduceLeDiff, Nat.reduceLT, Nat.reduceEqDiff, Nat.reduceAdd, Nat.reduceMul, Nat.reduceSub, forall_eq, true_and, and_true, not_true_eq_false, not_false_eq_true, false_implies, true_implies, implies_true, if_true, if_false, ite_self, vinT, nI_clamp, e, eT_isLetter]
    cases hl : isLt (f s) with
    | true =>
      rw [if_pos hl] at hE hK
      simp only [Nat.le_refl, Nat.reduceLeDiff, Nat.reduceLT, Nat.reduceEqDiff, Nat.reduceAdd, Nat.reduceMul, Nat.reduceSub, forall_eq, true_and, and_true, not_true_eq_false, not_false_eq_true, false_implies, true_implies, implies_true, if_true, if_false, ite_self, n01]
      unfold wT_stepName
      exact ⟨t - s + 1, s_stepName ht hc (fun σ' g1 g2 g3 g4 => hQ σ' g1 g2 (by rw [g3, hE]) (by rw [g4, hK]) (fun z => by rw [hK] at z; omega)) (t - s) s _ (by omega) hF5 h45 gU_eq rfl⟩
    | false =>
      rw [if_neg (by rw [hl]; simp)] at hE hK
      simp only [Nat.le_refl, Nat.reduceLeDiff, Nat.reduceLT, Nat.reduceEqDiff, Nat.reduceAdd, Nat.reduceMul, Nat.reduceSub, forall_eq, true_and, and_true, not_true_eq_false, not_false_eq_true, false_implies, true_implies, implies_true, if_true, if_false, ite_self, Bool.false_eq_true, eT_isFigure]
      cases hg : isFg (f s) with
      | true =>
        rw [if_pos hg] at hE hK
        simp only [Nat.le_refl, Nat.reduceLeDiff, Nat.reduceLT, Nat.reduceEqDiff, Nat.reduceAdd, Nat.reduceMul, Nat.reduceSub, forall_eq, true_and, and_true, not_true_eq_false, not_false_eq_true, false_implies, true_implies, implies_true, if_true, if_false, ite_self, n01]
        unfold wT_stepNumber
        simp only [forall_eq]
        refine ⟨t - s + 1, s_stepNumber_l ht hst hc (fun σ' g1 g2 g3 g4 g5 => hQ σ' g1 g2 (by rw [g3, hE]) (by rw [g4, hK, hE]) (fun _ => by rw [g5]; unfold tVs; rw [hE])) (t - s) 0 _ (by omega) (pStpF_U hF5 (by omega)) (by rw [gU_off (by omega)]; exact h45) (by rw [gU_off (by omega), gU_eq, Nat.add_zero]) gU_eq (by rw [Nat.add_zero])⟩
      | false =>
        rw [if_neg (by rw [hg]; simp)] at hE hK
        simp (disch := first | assumption | omega | decide) only [Nat.le_refl, Nat.reduceLeDiff, Nat.reduceLT, Nat.reduceEqDiff, Nat.reduceAdd, Nat.reduceMul, Nat.reduceSub, forall_eq, true_and, and_true, not_true_eq_false, not_false_eq_true, false_implies, true_implies, implies_true, if_true, if_false, ite_self, Bool.false_eq_true, gU_off, gU_ne, h4, nI_add, vinT, nI_clamp, e]
        refine hQ _ (pStpF_U (j := 5) (v := nI (s + 1)) (pStpF_U (j := 6) (v := if f s = nI 59 then nI 2 else nI 4) hF5 (by omega)) (by omega)) (by rw [gU_off (by omega), gU_off (by omega)]; exact h45) (by rw [gU_eq, hE]) ?_ (fun z => by rw [hK] at z; split at z <;> omega)
        rw [gU_off (by omega), gU_eq, hK]
        split <;> rfl
theorem s_step_l {σ0 : gM} {p : Nat} (ht : t ≤ 400) (hc : CS f t σ0) {Q : gM → Prop} (hQ : ∀ σ', pStpF σ0 σ' → σ' 18 4 = nI (tS f t p) → wT_step_b47 Q σ') : ∀ (m q : Nat) (σ : gM), q + m = t → pStpF σ0 σ → σ 18 4 = nI q → rn (fun j => isBk (f j)) m q = tS f t p → wT_step_l8 Q (m + 1) σ := by
  have n01 : ¬ nI 1 = nI 0 := by decide
  intro m
  induction m with
  | zero =>
    intro q σ hq hF h4 hr
    have h0 := (pStpF_CS hF hc).1
    have : t ≤ q := by omega
    rw [wT_step_l8]
    simp (disch := first | assumption | omega | decide) only [h0, h4, nI_leI2, this, Nat.le_refl, Nat.reduceLeDiff, Nat.reduceLT, Nat.reduceEqDiff, Nat.reduceAdd, Nat.reduceMul, Nat.reduceSub, forall_eq, true_and, and_true, not_true_eq_false, not_false_eq_true, false_implies, true_implies, implies_true, if_true, if_false, ite_self]
    exact hQ σ hF (by rw [h4, ← hr]; rfl)
  | succ m ih =>
    intro q σ hq hF h4 hr
    obtain ⟨h0, hb⟩ := pStpF_CS hF hc
    have q1 : ¬ t ≤ q := by omega
    have q2 : q < 400 := by omega
    have e := hb q (by omega)
    rw [rn] at hr
    rw [wT_step_l8]
    simp (disch := first | assumption | omega | decide) only [h0, h4, nI_leI2, q1, vinT, nI_clamp, e, eT_isBlank, Nat.le_refl, Nat.reduceLeDiff, Nat.reduceLT, Nat.reduceEqDiff, Nat.reduceAdd, Nat.reduceMul, Nat.reduceSub, forall_eq, true_and, and_true, not_true_eq_false, not_false_eq_true, false_implies, true_implies, implies_true, if_true, if_false, ite_self]
    cases hl : isBk (f q) with
    | true =>
      rw [if_pos hl] at hr
      simp only [Nat.le_refl, Nat.reduceLeDiff, Nat.reduceLT, Nat.reduceEqDiff, Nat.reduceAdd, Nat.reduceMul, Nat.reduceSub, forall_eq, true_and, and_true, not_true_eq_false, not_false_eq_true, false_implies, true_implies, implies_true, if_true, if_false, ite_self, n01, nI_add]
      exact ih (q + 1) _ (by omega) (pStpF_U hF (by omega)) gU_eq hr
    | false =>
      rw [if_neg (by rw [hl]; simp)] at hr
      simp only [Nat.le_refl, Nat.reduceLeDiff, Nat.reduceLT, Nat.reduceEqDiff, Nat.reduceAdd, Nat.reduceMul, Nat.reduceSub, forall_eq, true_and, and_true, not_true_eq_false, not_false_eq_true, false_implies, true_implies, implies_true, if_true, if_false, ite_self, Bool.false_eq_true]
      exact hQ σ hF (by rw [h4, hr])
/-- a step of the class: the token from p on is ahead -/
def RCt (f : Nat → Int32) (t p : Nat) (σ : gM) : Prop := σ 18 4 = nI (tS f t p) ∧ σ 18 5 = nI (tEs f t (tS f t p)) ∧ σ 18 6 = nI (tKs f t (tS f t p)) ∧ (tKs f t (tS f t p) = 1 → σ 18 7 = nI (tVs f t (tS f t p)))
theorem s_step {σ : gM} {p : Nat} (ht : t ≤ 400) (hp : p ≤ t) (hc : CS f t σ) (h5 : σ 18 5 = nI p) {Q : gM → Prop} (hQ : ∀ σ', pStpF σ σ' → RCt f t p σ' → Q σ') : wT_step σ Q := by
  have h0 : pStpF σ σ := ⟨fun _ _ => rfl, fun _ _ _ _ _ => rfl⟩
  have hs := tS_spec (f := f) hp
  unfold wT_step
  simp only [forall_eq]
  refine ⟨t - p + 1, s_step_l (p := p) ht hc (fun σ' g1 g2 => s_step_b ht hs.2 hc g1 g2 (fun σ2 u1 u2 u3 u4 u5 => hQ σ2 u1 ⟨u2, u3, u4, u5⟩)) (t - p) p _ (by omega) (pStpF_U h0 (by omega)) (by rw [gU_eq, h5]) rfl⟩
end Tok
