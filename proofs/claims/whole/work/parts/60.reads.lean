/-! READINGS: the class's and the reference's, at the same place -/
def RC (f : Nat → Int32) (t p : Nat) (σ : gM) : Prop := CS f t σ ∧ σ 18 1 = nI 0 ∧ RCt f t p σ
def FC (num s : Nat) (σ : gM) : Prop := σ 18 1 = nI num ∧ σ 18 2 = nI s ∧ σ 18 6 = nI 4
def pF18 (σ0 σ : gM) : Prop := ∀ c, c ≠ 18 → σ c = σ0 c
def RM (f : Nat → Int32) (t p : Nat) (σ : gM) : Prop := MS f t σ ∧ σ 82 6 = nI p
def pFm (σ0 σ : gM) : Prop := (∀ c, c ≠ 82 → σ c = σ0 c) ∧ ∀ j, j ≠ 6 → j ≠ 7 → j ≠ 8 → j ≠ 9 → j ≠ 10 → j ≠ 11 → j ≠ 108 → σ 82 j = σ0 82 j
theorem pF18_tr {a b c : gM} (h1 : pF18 a b) (h2 : pF18 b c) : pF18 a c := fun x hx => (h2 x hx).trans (h1 x hx)
theorem pFm_of {a b : gM} (h : pNxF a b) : pFm a b := ⟨h.1, fun j h1 h2 h3 h4 h5 _ h7 => h.2 j h1 h2 h3 h4 h5 h7⟩
theorem pFm_11 {a b : gM} {v : Int32} (h : pFm a b) : pFm a (gU b 82 11 v) := ⟨fun c hc => by rw [gU_ne hc]; exact h.1 c hc, fun j h1 h2 h3 h4 h5 h6 h7 => by rw [gU_off h6]; exact h.2 j h1 h2 h3 h4 h5 h6 h7⟩
section Reads
variable {t : Nat} {f : Nat → Int32} {p : Nat}
theorem c_fail {σ : gM} {num s : Nat} {Q : gM → Prop} (h1 : σ 18 1 = nI 0) (h4 : σ 18 4 = nI s) (hQ : ∀ σ', pF18 σ σ' → FC num s σ' → Q σ') : wT_fail (nI num) σ Q := by
  unfold wT_fail
  simp (disch := first | assumption | omega | decide) only [h1, Nat.le_refl, Nat.reduceLeDiff, Nat.reduceLT, Nat.reduceEqDiff, Nat.reduceAdd, Nat.reduceMul, Nat.reduceSub, forall_eq, true_and, and_true, not_true_eq_false, not_false_eq_true, false_implies, true_implies, implies_true, if_true, if_false, ite_self, gU_off, h4]
  refine hQ _ (fun c hc => by rw [gU_ne hc, gU_ne hc, gU_ne hc]) ⟨by rw [gU_off (by omega), gU_off (by omega), gU_eq], by rw [gU_off (by omega), gU_eq], gU_eq⟩
theorem f_fail {σ : gM} {num s : Nat} {x : Int32} {Q : gM → Prop} (hn : 1 ≤ num ∧ num ≤ 3) (h : FC num s σ) (hQ : ∀ σ', pF18 σ σ' → FC num s σ' → Q σ') : wT_fail x σ Q := by
  obtain ⟨h1, h2, h6⟩ := h
  have q : ¬ num = 0 := by omega
  unfold wT_fail
  simp (disch := first | assumption | omega | decide) only [h1, nI_eqI, q, Nat.le_refl, Nat.reduceLeDiff, Nat.reduceLT, Nat.reduceEqDiff, Nat.reduceAdd, Nat.reduceMul, Nat.reduceSub, forall_eq, true_and, and_true, not_true_eq_false, not_false_eq_true, false_implies, true_implies, implies_true, if_true, if_false, ite_self]
  exact hQ _ (fun c hc => gU_ne hc) ⟨by rw [gU_off (by omega)]; exact h1, by rw [gU_off (by omega)]; exact h2, gU_eq⟩
theorem f_num {σ : gM} {num s : Nat} {x : Int32} {Q : Int32 → gM → Prop} (hn : 1 ≤ num ∧ num ≤ 3) (h : FC num s σ) (hQ : ∀ σ', pF18 σ σ' → FC num s σ' → Q (nI 0) σ') : wT_readNumber x σ Q := by
  unfold wT_readNumber
  simp (disch := first | assumption | omega | decide) only [h.2.2, nI_eqI, Nat.le_refl, Nat.reduceLeDiff, Nat.reduceLT, Nat.reduceEqDiff, Nat.reduceAdd, Nat.reduceMul, Nat.reduceSub, forall_eq, true_and, and_true, not_true_eq_false, not_false_eq_true, false_implies, true_implies, implies_true, if_true, if_false, ite_self]
  exact f_fail hn h hQ
theorem f_sign {σ : gM} {num s : Nat} {Q : gM → Prop} (hn : 1 ≤ num ∧ num ≤ 3) (h : FC num s σ) (hQ : ∀ σ', pF18 σ σ' → FC num s σ' → Q σ') : wT_readSign σ Q := by
  unfold wT_readSign
  simp (disch := first | assumption | omega | decide) only [h.2.2, nI_eqI, Nat.le_refl, Nat.reduceLeDiff, Nat.reduceLT, Nat.reduceEqDiff, Nat.reduceAdd, Nat.reduceMul, Nat.reduceSub, forall_eq, true_and, and_true, not_true_eq_false, not_false_eq_true, false_implies, true_implies, implies_true, if_true, if_false, ite_self]
  exact f_fail hn h hQ
theorem c_step {σ : gM} {Q : gM → Prop} (ht : t ≤ 400) (hp : p ≤ t) (hR : RC f t p σ) (hQ : ∀ σ', pF18 σ σ' → RC f t (tEs f t (tS f t p)) σ' → Q σ') : wT_step σ Q := by
  obtain ⟨hc, h1, hr⟩ := hR
  have he := (tEs_spec (f := f) (tS_spec (f := f) hp).2).2
  refine s_step ht he hc hr.2.1 (fun σ' g1 g2 => hQ σ' g1.1 ⟨pStpF_CS g1 hc, by rw [g1.2 1 (by omega) (by omega) (by omega) (by omega)]; exact h1, g2⟩)
theorem tK_4 (s : Nat) : tKs f t s ≤ 4 := by
  rcases tK_cases (f := f) (t := t) s with ⟨a1, a2, a3⟩ | ⟨a1, a2, a3, a4⟩ | ⟨a1, a2, a3, a4, a5, a6⟩ | ⟨a1, a2⟩ | ⟨a1, a2⟩ <;> omega
theorem j_num (ht : t ≤ 400) (hp : p ≤ t) {most : Nat} (hm : most < 1000) :
    (∃ num, (1 ≤ num ∧ num ≤ 3) ∧ (∀ (σ : gM) (Q : Int32 → gM → Prop), RC f t p σ → (∀ σ', pF18 σ σ' → FC num (tS f t p) σ' → Q (nI 0) σ') → wT_readNumber (nI most) σ Q) ∧ (∀ (τ : gM) (Q : Int32 → gM → Prop), RM f t p τ → (∀ τ', pFm τ τ' → τ' 82 11 = nI num → τ' 82 7 = nI (tS f t p) → Q (nI 0) τ') → wM_isNext (nI 0) (nI most) τ Q)) ∨
    (∃ v p', v ≤ most ∧ p' ≤ t ∧ (∀ (σ : gM) (Q : Int32 → gM → Prop), RC f t p σ → (∀ σ', pF18 σ σ' → RC f t p' σ' → Q (nI v) σ') → wT_readNumber (nI most) σ Q) ∧ (∀ (τ : gM) (Q : Int32 → gM → Prop), RM f t p τ → (∀ τ', pNxF τ τ' → RM f t p' τ' → τ' 82 10 = nI v → Q (nI 1) τ') → wM_isNext (nI 0) (nI most) τ Q)) := by
  have n01 : ¬ nI 1 = nI 0 := by decide
  have hs := tS_spec (f := f) hp
  have he := tEs_spec (f := f) hs.2
  have hk4 := tK_4 (t := t) (f := f) (tS f t p)
  by_cases hk : tKs f t (tS f t p) = 1
  · have hv := tVs_1 hk
    by_cases hle : tVs f t (tS f t p) ≤ most
    · refine Or.inr ⟨tVs f t (tS f t p), tEs f t (tS f t p), hle, he.2, fun σ Q hR hQ => ?_, fun τ Q hR hQ => ?_⟩
      · have h7 := hR.2.2.2.2.2 hk
        have h6 := hR.2.2.2.2.1
        unfold wT_readNumber
        simp (disch := first | assumption | omega | decide) only [h6, h7, nI_eqI, nI_leI2, hk, hle, Nat.le_refl, Nat.reduceLeDiff, Nat.reduceLT, Nat.reduceEqDiff, Nat.reduceAdd, Nat.reduceMul, Nat.reduceSub, forall_eq, true_and, and_true, not_true_eq_false, not_false_eq_true, false_implies, true_implies, implies_true, if_true, if_false, ite_self]
        exact c_step ht hp hR hQ
      · unfold wM_isNext
        refine s_next ht hp hR.1 hR.2 (fun τ' g1 g2 => ?_)
        obtain ⟨g7, g6, gc, gv⟩ := g2
        have e : gLg (τ' 82 8) (τ' 82 108) = -1 := (tC_num gc).mpr hk
        have h10 := gv hk
        have q0 : ¬ most < tVs f t (tS f t p) := by omega
        simp (disch := first | assumption | omega | decide) only [e, lgc, h10, eM_in, nI_ltI2, Nat.not_lt_zero, q0, Nat.le_refl, Nat.reduceLeDiff, Nat.reduceLT, Nat.reduceEqDiff, Nat.reduceAdd, Nat.reduceMul, Nat.reduceSub, forall_eq, true_and, and_true, not_true_eq_false, not_false_eq_true, false_implies, true_implies, implies_true, if_true, if_false, ite_self, n01]
        exact hQ τ' g1 ⟨pNxF_MS g1 hR.1, g6⟩ h10
    · refine Or.inl ⟨2, by omega, fun σ Q hR hQ => ?_, fun τ Q hR hQ => ?_⟩
      · have h7 := hR.2.2.2.2.2 hk
        have h6 := hR.2.2.2.2.1
        unfold wT_readNumber
        simp (disch := first | assumption | omega | decide) only [h6, h7, nI_eqI, nI_leI2, hk, hle, Nat.le_refl, Nat.reduceLeDiff, Nat.reduceLT, Nat.reduceEqDiff, Nat.reduceAdd, Nat.reduceMul, Nat.reduceSub, forall_eq, true_and, and_true, not_true_eq_false, not_false_eq_true, false_implies, true_implies, implies_true, if_true, if_false, ite_self]
        exact c_fail hR.2.1 hR.2.2.1 hQ
      · unfold wM_isNext
        refine s_next ht hp hR.1 hR.2 (fun τ' g1 g2 => ?_)
        obtain ⟨g7, g6, gc, gv⟩ := g2
        have e : gLg (τ' 82 8) (τ' 82 108) = -1 := (tC_num gc).mpr hk
        have h10 := gv hk
        have q0 : most < tVs f t (tS f t p) := by omega
        simp (disch := first | assumption | omega | decide) only [e, lgc, h10, eM_in, nI_ltI2, Nat.not_lt_zero, q0, Nat.le_refl, Nat.reduceLeDiff, Nat.reduceLT, Nat.reduceEqDiff, Nat.reduceAdd, Nat.reduceMul, Nat.reduceSub, forall_eq, true_and, and_true, not_true_eq_false, not_false_eq_true, false_implies, true_implies, implies_true, if_true, if_false, ite_self, n01, wM_fails, true_or]
        exact hQ _ (pFm_11 (pFm_of g1)) gU_eq (by rw [gU_off (by omega)]; exact g7)
  · refine Or.inl ⟨1, by omega, fun σ Q hR hQ => ?_, fun τ Q hR hQ => ?_⟩
    · have h6 := hR.2.2.2.2.1
      unfold wT_readNumber
      simp (disch := first | assumption | omega | decide) only [h6, nI_eqI, hk, Nat.le_refl, Nat.reduceLeDiff, Nat.reduceLT, Nat.reduceEqDiff, Nat.reduceAdd, Nat.reduceMul, Nat.reduceSub, forall_eq, true_and, and_true, not_true_eq_false, not_false_eq_true, false_implies, true_implies, implies_true, if_true, if_false, ite_self]
      exact c_fail hR.2.1 hR.2.2.1 hQ
    · unfold wM_isNext
      refine s_next ht hp hR.1 hR.2 (fun τ' g1 g2 => ?_)
      obtain ⟨g7, g6, gc, gv⟩ := g2
      have e : ¬ gLg (τ' 82 8) (τ' 82 108) = -1 := fun z => hk ((tC_num gc).mp z)
      simp (disch := first | assumption | omega | decide) only [e, lgc, Nat.le_refl, Nat.reduceLeDiff, Nat.reduceLT, Nat.reduceEqDiff, Nat.reduceAdd, Nat.reduceMul, Nat.reduceSub, forall_eq, true_and, and_true, not_true_eq_false, not_false_eq_true, false_implies, true_implies, implies_true, if_true, if_false, ite_self, wM_fails, true_or]
      exact hQ _ (pFm_11 (pFm_of g1)) gU_eq (by rw [gU_off (by omega)]; exact g7)
theorem j_sign (ht : t ≤ 400) (hp : p ≤ t) :
    ((∀ (σ : gM) (Q : gM → Prop), RC f t p σ → (∀ σ', pF18 σ σ' → FC 1 (tS f t p) σ' → Q σ') → wT_readSign σ Q) ∧ (∀ (τ : gM) (Q : Int32 → gM → Prop), RM f t p τ → (∀ τ', pFm τ τ' → τ' 82 11 = nI 1 → τ' 82 7 = nI (tS f t p) → Q (nI 0) τ') → wM_ends τ Q)) ∨
    (∃ p', p' ≤ t ∧ (∀ (σ : gM) (Q : gM → Prop), RC f t p σ → (∀ σ', pF18 σ σ' → RC f t p' σ' → Q σ') → wT_readSign σ Q) ∧ (∀ (τ : gM) (Q : Int32 → gM → Prop), RM f t p τ → (∀ τ', pNxF τ τ' → RM f t p' τ' → Q (nI 1) τ') → wM_ends τ Q)) := by
  have n01 : ¬ nI 1 = nI 0 := by decide
  have hs := tS_spec (f := f) hp
  have he := tEs_spec (f := f) hs.2
  have hk4 := tK_4 (t := t) (f := f) (tS f t p)
  by_cases hk : tKs f t (tS f t p) = 2
  · refine Or.inr ⟨tEs f t (tS f t p), he.2, fun σ Q hR hQ => ?_, fun τ Q hR hQ => ?_⟩
    · have h6 := hR.2.2.2.2.1
      unfold wT_readSign
      simp (disch := first | assumption | omega | decide) only [h6, nI_eqI, hk, Nat.le_refl, Nat.reduceLeDiff, Nat.reduceLT, Nat.reduceEqDiff, Nat.reduceAdd, Nat.reduceMul, Nat.reduceSub, forall_eq, true_and, and_true, not_true_eq_false, not_false_eq_true, false_implies, true_implies, implies_true, if_true, if_false, ite_self]
      exact c_step ht hp hR hQ
    · unfold wM_ends
      refine s_next ht hp hR.1 hR.2 (fun τ' g1 g2 => ?_)
      obtain ⟨g7, g6, gc, gv⟩ := g2
      have e : gLg (τ' 82 8) (τ' 82 108) = -3 := (tC_sign gc).mpr hk
      simp (disch := first | assumption | omega | decide) only [e, lgc, Nat.le_refl, Nat.reduceLeDiff, Nat.reduceLT, Nat.reduceEqDiff, Nat.reduceAdd, Nat.reduceMul, Nat.reduceSub, forall_eq, true_and, and_true, not_true_eq_false, not_false_eq_true, false_implies, true_implies, implies_true, if_true, if_false, ite_self, n01]
      exact hQ τ' g1 ⟨pNxF_MS g1 hR.1, g6⟩
  · refine Or.inl ⟨fun σ Q hR hQ => ?_, fun τ Q hR hQ => ?_⟩
    · have h6 := hR.2.2.2.2.1
      unfold wT_readSign
      simp (disch := first | assumption | omega | decide) only [h6, nI_eqI, hk, Nat.le_refl, Nat.reduceLeDiff, Nat.reduceLT, Nat.reduceEqDiff, Nat.reduceAdd, Nat.reduceMul, Nat.reduceSub, forall_eq, true_and, and_true, not_true_eq_false, not_false_eq_true, false_implies, true_implies, implies_true, if_true, if_false, ite_self]
      exact c_fail hR.2.1 hR.2.2.1 hQ
    · unfold wM_ends
      refine s_next ht hp hR.1 hR.2 (fun τ' g1 g2 => ?_)
      obtain ⟨g7, g6, gc, gv⟩ := g2
      have e : ¬ gLg (τ' 82 8) (τ' 82 108) = -3 := fun z => hk ((tC_sign gc).mp z)
      simp (disch := first | assumption | omega | decide) only [e, lgc, Nat.le_refl, Nat.reduceLeDiff, Nat.reduceLT, Nat.reduceEqDiff, Nat.reduceAdd, Nat.reduceMul, Nat.reduceSub, forall_eq, true_and, and_true, not_true_eq_false, not_false_eq_true, false_implies, true_implies, implies_true, if_true, if_false, ite_self, wM_fails, true_or]
      exact hQ _ (pFm_11 (pFm_of g1)) gU_eq (by rw [gU_off (by omega)]; exact g7)
/-! the sort -/
theorem c_sort_fruit {σ : gM} {n : Nat} {Q : Int32 → gM → Prop} (ht : t ≤ 400) (hp : p ≤ t) (hR : RC f t p σ) (hy : isW f t 3 5 (tS f t p) → ∀ σ', pF18 σ σ' → RC f t (tEs f t (tS f t p)) σ' → Q (nI 1) σ') (hn : ¬ isW f t 3 5 (tS f t p) → wT_readSort_l2 Q n (nI 2) σ) : wT_readSort_l2 Q (n + 1) (nI 1) σ := by
  have n01 : ¬ nI 1 = nI 0 := by decide
  rw [wT_readSort_l2]
  simp (disch := first | assumption | omega | decide) only [nI_leI2, nI_ltI2, nI_eqI, nI_add, nI_sub, pk_mul, nI_clamp, vinT, Nat.add_sub_cancel, Nat.le_refl, Nat.reduceLeDiff, Nat.reduceLT, Nat.reduceEqDiff, Nat.reduceAdd, Nat.reduceMul, Nat.reduceSub, forall_eq, true_and, and_true, not_true_eq_false, not_false_eq_true, false_implies, true_implies, implies_true, if_true, if_false, ite_self, wT_wordOf, or_true, true_or, and_self]
  refine s_isWord_fruit ht hp hR.1 hR.2.2 (fun a => ?_) (fun a => ?_)
  · simp (disch := first | assumption | omega | decide) only [Nat.le_refl, Nat.reduceLeDiff, Nat.reduceLT, Nat.reduceEqDiff, Nat.reduceAdd, Nat.reduceMul, Nat.reduceSub, forall_eq, true_and, and_true, not_true_eq_false, not_false_eq_true, false_implies, true_implies, implies_true, if_true, if_false, ite_self, n01]
    exact c_step ht hp hR (hy a)
  · simp (disch := first | assumption | omega | decide) only [Nat.le_refl, Nat.reduceLeDiff, Nat.reduceLT, Nat.reduceEqDiff, Nat.reduceAdd, Nat.reduceMul, Nat.reduceSub, forall_eq, true_and, and_true, not_true_eq_false, not_false_eq_true, false_implies, true_implies, implies_true, if_true, if_false, ite_self, n01, nI_add]
    exact hn a
theorem f_sort_fruit {σ : gM} {n : Nat} {Q : Int32 → gM → Prop} (h6 : σ 18 6 = nI 4) (hn : wT_readSort_l2 Q n (nI 2) σ) : wT_readSort_l2 Q (n + 1) (nI 1) σ := by
  rw [wT_readSort_l2]
  simp (disch := first | assumption | omega | decide) only [nI_leI2, nI_ltI2, nI_eqI, nI_add, nI_sub, pk_mul, nI_clamp, vinT, Nat.add_sub_cancel, Nat.le_refl, Nat.reduceLeDiff, Nat.reduceLT, Nat.reduceEqDiff, Nat.reduceAdd, Nat.reduceMul, Nat.reduceSub, forall_eq, true_and, and_true, not_true_eq_false, not_false_eq_true, false_implies, true_implies, implies_true, if_true, if_false, ite_self, wT_wordOf, or_true, true_or, and_self]
  refine f_isWord_fruit h6 ?_
  simp (disch := first | assumption | omega | decide) only [Nat.le_refl, Nat.reduceLeDiff, Nat.reduceLT, Nat.reduceEqDiff, Nat.reduceAdd, Nat.reduceMul, Nat.reduceSub, forall_eq, true_and, and_true, not_true_eq_false, not_false_eq_true, false_implies, true_implies, implies_true, if_true, if_false, ite_self, nI_add]
  exact hn
theorem c_sort_melon {σ : gM} {n : Nat} {Q : Int32 → gM → Prop} (ht : t ≤ 400) (hp : p ≤ t) (hR : RC f t p σ) (hy : isW f t 4 5 (tS f t p) → ∀ σ', pF18 σ σ' → RC f t (tEs f t (tS f t p)) σ' → Q (nI 2) σ') (hn : ¬ isW f t 4 5 (tS f t p) → wT_readSort_l2 Q n (nI 3) σ) : wT_readSort_l2 Q (n + 1) (nI 2) σ := by
  have n01 : ¬ nI 1 = nI 0 := by decide
  rw [wT_readSort_l2]
  simp (disch := first | assumption | omega | decide) only [nI_leI2, nI_ltI2, nI_eqI, nI_add, nI_sub, pk_mul, nI_clamp, vinT, Nat.add_sub_cancel, Nat.le_refl, Nat.reduceLeDiff, Nat.reduceLT, Nat.reduceEqDiff, Nat.reduceAdd, Nat.reduceMul, Nat.reduceSub, forall_eq, true_and, and_true, not_true_eq_false, not_false_eq_true, false_implies, true_implies, implies_true, if_true, if_false, ite_self, wT_wordOf, or_true, true_or, and_self]
  refine s_isWord_melon ht hp hR.1 hR.2.2 (fun a => ?_) (fun a => ?_)
  · simp (disch := first | assumption | omega | decide) only [Nat.le_refl, Nat.reduceLeDiff, Nat.reduceLT, Nat.reduceEqDiff, Nat.reduceAdd, Nat.reduceMul, Nat.reduceSub, forall_eq, true_and, and_true, not_true_eq_false, not_false_eq_true, false_implies, true_implies, implies_true, if_true, if_false, ite_self, n01]
    exact c_step ht hp hR (hy a)
  · simp (disch := first | assumption | omega | decide) only [Nat.le_refl, Nat.reduceLeDiff, Nat.reduceLT, Nat.reduceEqDiff, Nat.reduceAdd, Nat.reduceMul, Nat.reduceSub, forall_eq, true_and, and_true, not_true_eq_false, not_false_eq_true, false_implies, true_implies, implies_true, if_true, if_false, ite_self, n01, nI_add]
    exact hn a
theorem f_sort_melon {σ : gM} {n : Nat} {Q : Int32 → gM → Prop} (h6 : σ 18 6 = nI 4) (hn : wT_readSort_l2 Q n (nI 3) σ) : wT_readSort_l2 Q (n + 1) (nI 2) σ := by
  rw [wT_readSort_l2]
  simp (disch := first | assumption | omega | decide) only [nI_leI2, nI_ltI2, nI_eqI, nI_add, nI_sub, pk_mul, nI_clamp, vinT, Nat.add_sub_cancel, Nat.le_refl, Nat.reduceLeDiff, Nat.reduceLT, Nat.reduceEqDiff, Nat.reduceAdd, Nat.reduceMul, Nat.reduceSub, forall_eq, true_and, and_true, not_true_eq_false, not_false_eq_true, false_implies, true_implies, implies_true, if_true, if_false, ite_self, wT_wordOf, or_true, true_or, and_self]
  refine f_isWord_melon h6 ?_
  simp (disch := first | assumption | omega | decide) only [Nat.le_refl, Nat.reduceLeDiff, Nat.reduceLT, Nat.reduceEqDiff, Nat.reduceAdd, Nat.reduceMul, Nat.reduceSub, forall_eq, true_and, and_true, not_true_eq_false, not_false_eq_true, false_implies, true_implies, implies_true, if_true, if_false, ite_self, nI_add]
  exact hn
theorem c_sort_berry {σ : gM} {n : Nat} {Q : Int32 → gM → Prop} (ht : t ≤ 400) (hp : p ≤ t) (hR : RC f t p σ) (hy : isW f t 5 5 (tS f t p) → ∀ σ', pF18 σ σ' → RC f t (tEs f t (tS f t p)) σ' → Q (nI 3) σ') (hn : ¬ isW f t 5 5 (tS f t p) → wT_readSort_l2 Q n (nI 4) σ) : wT_readSort_l2 Q (n + 1) (nI 3) σ := by
  have n01 : ¬ nI 1 = nI 0 := by decide
  rw [wT_readSort_l2]
  simp (disch := first | assumption | omega | decide) only [nI_leI2, nI_ltI2, nI_eqI, nI_add, nI_sub, pk_mul, nI_clamp, vinT, Nat.add_sub_cancel, Nat.le_refl, Nat.reduceLeDiff, Nat.reduceLT, Nat.reduceEqDiff, Nat.reduceAdd, Nat.reduceMul, Nat.reduceSub, forall_eq, true_and, and_true, not_true_eq_false, not_false_eq_true, false_implies, true_implies, implies_true, if_true, if_false, ite_self, wT_wordOf, or_true, true_or, and_self]
  refine s_isWord_berry ht hp hR.1 hR.2.2 (fun a => ?_) (fun a => ?_)
  · simp (disch := first | assumption | omega | decide) only [Nat.le_refl, Nat.reduceLeDiff, Nat.reduceLT, Nat.reduceEqDiff, Nat.reduceAdd, Nat.reduceMul, Nat.reduceSub, forall_eq, true_and, and_true, not_true_eq_false, not_false_eq_true, false_implies, true_implies, implies_true, if_true, if_false, ite_self, n01]
    exact c_step ht hp hR (hy a)
  · simp (disch := first | assumption | omega | decide) only [Nat.le_refl, Nat.reduceLeDiff, Nat.reduceLT, Nat.reduceEqDiff, Nat.reduceAdd, Nat.reduceMul, Nat.reduceSub, forall_eq, true_and, and_true, not_true_eq_false, not_false_eq_true, false_implies, true_implies, implies_true, if_true, if_false, ite_self, n01, nI_add]
    exact hn a
theorem f_sort_berry {σ : gM} {n : Nat} {Q : Int32 → gM → Prop} (h6 : σ 18 6 = nI 4) (hn : wT_readSort_l2 Q n (nI 4) σ) : wT_readSort_l2 Q (n + 1) (nI 3) σ := by
  rw [wT_readSort_l2]
  simp (disch := first | assumption | omega | decide) only [nI_leI2, nI_ltI2, nI_eqI, nI_add, nI_sub, pk_mul, nI_clamp, vinT, Nat.add_sub_cancel, Nat.le_refl, Nat.reduceLeDiff, Nat.reduceLT, Nat.reduceEqDiff, Nat.reduceAdd, Nat.reduceMul, Nat.reduceSub, forall_eq, true_and, and_true, not_true_eq_false, not_false_eq_true, false_implies, true_implies, implies_true, if_true, if_false, ite_self, wT_wordOf, or_true, true_or, and_self]
  refine f_isWord_berry h6 ?_
  simp (disch := first | assumption | omega | decide) only [Nat.le_refl, Nat.reduceLeDiff, Nat.reduceLT, Nat.reduceEqDiff, Nat.reduceAdd, Nat.reduceMul, Nat.reduceSub, forall_eq, true_and, and_true, not_true_eq_false, not_false_eq_true, false_implies, true_implies, implies_true, if_true, if_false, ite_self, nI_add]
  exact hn
theorem c_sort_cloth {σ : gM} {n : Nat} {Q : Int32 → gM → Prop} (ht : t ≤ 400) (hp : p ≤ t) (hR : RC f t p σ) (hy : isW f t 6 5 (tS f t p) → ∀ σ', pF18 σ σ' → RC f t (tEs f t (tS f t p)) σ' → Q (nI 4) σ') (hn : ¬ isW f t 6 5 (tS f t p) → wT_readSort_l2 Q n (nI 5) σ) : wT_readSort_l2 Q (n + 1) (nI 4) σ := by
  have n01 : ¬ nI 1 = nI 0 := by decide
  rw [wT_readSort_l2]
  simp (disch := first | assumption | omega | decide) only [nI_leI2, nI_ltI2, nI_eqI, nI_add, nI_sub, pk_mul, nI_clamp, vinT, Nat.add_sub_cancel, Nat.le_refl, Nat.reduceLeDiff, Nat.reduceLT, Nat.reduceEqDiff, Nat.reduceAdd, Nat.reduceMul, Nat.reduceSub, forall_eq, true_and, and_true, not_true_eq_false, not_false_eq_true, false_implies, true_implies, implies_true, if_true, if_false, ite_self, wT_wordOf, or_true, true_or, and_self]
  refine s_isWord_cloth ht hp hR.1 hR.2.2 (fun a => ?_) (fun a => ?_)
  · simp (disch := first | assumption | omega | decide) only [Nat.le_refl, Nat.reduceLeDiff, Nat.reduceLT, Nat.reduceEqDiff, Nat.reduceAdd, Nat.reduceMul, Nat.reduceSub, forall_eq, true_and, and_true, not_true_eq_false, not_false_eq_true, false_implies, true_implies, implies_true, if_true, if_false, ite_self, n01]
    exact c_step ht hp hR (hy a)
  · simp (disch := first | assumption | omega | decide) only [Nat.le_refl, Nat.reduceLeDiff, Nat.reduceLT, Nat.reduceEqDiff, Nat.reduceAdd, Nat.reduceMul, Nat.reduceSub, forall_eq, true_and, and_true, not_true_eq_false, not_false_eq_true, false_implies, true_implies, implies_true, if_true, if_false, ite_self, n01, nI_add]
    exact hn a
theorem f_sort_cloth {σ : gM} {n : Nat} {Q : Int32 → gM → Prop} (h6 : σ 18 6 = nI 4) (hn : wT_readSort_l2 Q n (nI 5) σ) : wT_readSort_l2 Q (n + 1) (nI 4) σ := by
  rw [wT_readSort_l2]
  simp (disch := first | assumption | omega | decide) only [nI_leI2, nI_ltI2, nI_eqI, nI_add, nI_sub, pk_mul, nI_clamp, vinT, Nat.add_sub_cancel, Nat.le_refl, Nat.reduceLeDiff, Nat.reduceLT, Nat.reduceEqDiff, Nat.reduceAdd, Nat.reduceMul, Nat.reduceSub, forall_eq, true_and, and_true, not_true_eq_false, not_false_eq_true, false_implies, true_implies, implies_true, if_true, if_false, ite_self, wT_wordOf, or_true, true_or, and_self]
  refine f_isWord_cloth h6 ?_
  simp (disch := first | assumption | omega | decide) only [Nat.le_refl, Nat.reduceLeDiff, Nat.reduceLT, Nat.reduceEqDiff, Nat.reduceAdd, Nat.reduceMul, Nat.reduceSub, forall_eq, true_and, and_true, not_true_eq_false, not_false_eq_true, false_implies, true_implies, implies_true, if_true, if_false, ite_self, nI_add]
  exact hn
theorem c_sort_silk {σ : gM} {n : Nat} {Q : Int32 → gM → Prop} (ht : t ≤ 400) (hp : p ≤ t) (hR : RC f t p σ) (hy : isW f t 7 4 (tS f t p) → ∀ σ', pF18 σ σ' → RC f t (tEs f t (tS f t p)) σ' → Q (nI 5) σ') (hn : ¬ isW f t 7 4 (tS f t p) → wT_readSort_l2 Q n (nI 6) σ) : wT_readSort_l2 Q (n + 1) (nI 5) σ := by
  have n01 : ¬ nI 1 = nI 0 := by decide
  rw [wT_readSort_l2]
  simp (disch := first | assumption | omega | decide) only [nI_leI2, nI_ltI2, nI_eqI, nI_add, nI_sub, pk_mul, nI_clamp, vinT, Nat.add_sub_cancel, Nat.le_refl, Nat.reduceLeDiff, Nat.reduceLT, Nat.reduceEqDiff, Nat.reduceAdd, Nat.reduceMul, Nat.reduceSub, forall_eq, true_and, and_true, not_true_eq_false, not_false_eq_true, false_implies, true_implies, implies_true, if_true, if_false, ite_self, wT_wordOf, or_true, true_or, and_self]
  refine s_isWord_silk ht hp hR.1 hR.2.2 (fun a => ?_) (fun a => ?_)
  · simp (disch := first | assumption | omega | decide) only [Nat.le_refl, Nat.reduceLeDiff, Nat.reduceLT, Nat.reduceEqDiff, Nat.reduceAdd, Nat.reduceMul, Nat.reduceSub, forall_eq, true_and, and_true, not_true_eq_false, not_false_eq_true, false_implies, true_implies, implies_true, if_true, if_false, ite_self, n01]
    exact c_step ht hp hR (hy a)
  · simp (disch := first | assumption | omega | decide) only [Nat.le_refl, Nat.reduceLeDiff, Nat.reduceLT, Nat.reduceEqDiff, Nat.reduceAdd, Nat.reduceMul, Nat.reduceSub, forall_eq, true_and, and_true, not_true_eq_false, not_false_eq_true, false_implies, true_implies, implies_true, if_true, if_false, ite_self, n01, nI_add]
    exact hn a
theorem f_sort_silk {σ : gM} {n : Nat} {Q : Int32 → gM → Prop} (h6 : σ 18 6 = nI 4) (hn : wT_readSort_l2 Q n (nI 6) σ) : wT_readSort_l2 Q (n + 1) (nI 5) σ := by
  rw [wT_readSort_l2]
  simp (disch := first | assumption | omega | decide) only [nI_leI2, nI_ltI2, nI_eqI, nI_add, nI_sub, pk_mul, nI_clamp, vinT, Nat.add_sub_cancel, Nat.le_refl, Nat.reduceLeDiff, Nat.reduceLT, Nat.reduceEqDiff, Nat.reduceAdd, Nat.reduceMul, Nat.reduceSub, forall_eq, true_and, and_true, not_true_eq_false, not_false_eq_true, false_implies, true_implies, implies_true, if_true, if_false, ite_self, wT_wordOf, or_true, true_or, and_self]
  refine f_isWord_silk h6 ?_
  simp (disch := first | assumption | omega | decide) only [Nat.le_refl, Nat.reduceLeDiff, Nat.reduceLT, Nat.reduceEqDiff, Nat.reduceAdd, Nat.reduceMul, Nat.reduceSub, forall_eq, true_and, and_true, not_true_eq_false, not_false_eq_true, false_implies, true_implies, implies_true, if_true, if_false, ite_self, nI_add]
  exact hn
theorem f_sort {σ : gM} {num s : Nat} {Q : Int32 → gM → Prop} (hn : 1 ≤ num ∧ num ≤ 3) (h : FC num s σ) (hQ : ∀ σ', pF18 σ σ' → FC num s σ' → Q (nI 0) σ') : wT_readSort σ Q := by
  refine ⟨6, f_sort_fruit h.2.2 (f_sort_melon h.2.2 (f_sort_berry h.2.2 (f_sort_cloth h.2.2 (f_sort_silk h.2.2 ?_))))⟩
  rw [wT_readSort_l2]
  simp (disch := first | assumption | omega | decide) only [nI_ltI2, Nat.le_refl, Nat.reduceLeDiff, Nat.reduceLT, Nat.reduceEqDiff, Nat.reduceAdd, Nat.reduceMul, Nat.reduceSub, forall_eq, true_and, and_true, not_true_eq_false, not_false_eq_true, false_implies, true_implies, implies_true, if_true, if_false, ite_self]
  exact f_fail hn h hQ
def csc (v : Int64) : Int32 := if lg_cmp v (3558512 : Int64) = nI 0 then nI 1 else (if lg_cmp v (7016315 : Int64) = nI 0 then nI 2 else (if lg_cmp v (1174930 : Int64) = nI 0 then nI 3 else (if lg_cmp v (1842002 : Int64) = nI 0 then nI 4 else (if lg_cmp v (380873 : Int64) = nI 0 then nI 5 else nI 0))))
theorem csc_of {s : Nat} {v : Int64} (hv : tCok f t s v) {kd : Nat} (h : (isW f t 3 5 s ∧ kd = 1) ∨ (¬ isW f t 3 5 s ∧ isW f t 4 5 s ∧ kd = 2) ∨ (¬ isW f t 3 5 s ∧ ¬ isW f t 4 5 s ∧ isW f t 5 5 s ∧ kd = 3) ∨ (¬ isW f t 3 5 s ∧ ¬ isW f t 4 5 s ∧ ¬ isW f t 5 5 s ∧ isW f t 6 5 s ∧ kd = 4) ∨ (¬ isW f t 3 5 s ∧ ¬ isW f t 4 5 s ∧ ¬ isW f t 5 5 s ∧ ¬ isW f t 6 5 s ∧ isW f t 7 4 s ∧ kd = 5) ∨ (¬ isW f t 3 5 s ∧ ¬ isW f t 4 5 s ∧ ¬ isW f t 5 5 s ∧ ¬ isW f t 6 5 s ∧ ¬ isW f t 7 4 s ∧ kd = 0)) : csc v = nI kd := by
  unfold csc
  simp only [lgc]
  rw [← tC_fruit hv, ← tC_melon hv, ← tC_berry hv, ← tC_cloth hv, ← tC_silk hv] at h
  rcases h with ⟨h1, rfl⟩ | ⟨h1, h2, rfl⟩ | ⟨h1, h2, h3, rfl⟩ | ⟨h1, h2, h3, h4, rfl⟩ | ⟨h1, h2, h3, h4, h5, rfl⟩ | ⟨h1, h2, h3, h4, h5, rfl⟩
  · rw [if_pos h1]
  · rw [if_neg h1, if_pos h2]
  · rw [if_neg h1, if_neg h2, if_pos h3]
  · rw [if_neg h1, if_neg h2, if_neg h3, if_pos h4]
  · rw [if_neg h1, if_neg h2, if_neg h3, if_neg h4, if_pos h5]
  · rw [if_neg h1, if_neg h2, if_neg h3, if_neg h4, if_neg h5]
theorem j_sort (ht : t ≤ 400) (hp : p ≤ t) :
    ((∀ (σ : gM) (Q : Int32 → gM → Prop), RC f t p σ → (∀ σ', pF18 σ σ' → FC 1 (tS f t p) σ' → Q (nI 0) σ') → wT_readSort σ Q) ∧ (∀ v, tCok f t (tS f t p) v → csc v = nI 0)) ∨
    (∃ kd p', 1 ≤ kd ∧ kd ≤ 5 ∧ p' ≤ t ∧ p' = tEs f t (tS f t p) ∧ (∀ (σ : gM) (Q : Int32 → gM → Prop), RC f t p σ → (∀ σ', pF18 σ σ' → RC f t p' σ' → Q (nI kd) σ') → wT_readSort σ Q) ∧ (∀ v, tCok f t (tS f t p) v → csc v = nI kd)) := by
  have hs := tS_spec (f := f) hp
  have he := tEs_spec (f := f) hs.2
  by_cases h1 : isW f t 3 5 (tS f t p)
  · exact Or.inr ⟨1, _, by omega, by omega, he.2, rfl, fun σ Q hR hQ => ⟨1, c_sort_fruit ht hp hR (fun _ => hQ) (fun z => absurd h1 z)⟩, fun v hv => csc_of hv (Or.inl ⟨h1, rfl⟩)⟩
  by_cases h2 : isW f t 4 5 (tS f t p)
  · exact Or.inr ⟨2, _, by omega, by omega, he.2, rfl, fun σ Q hR hQ => ⟨2, c_sort_fruit ht hp hR (fun z => absurd z h1) (fun _ => c_sort_melon ht hp hR (fun _ => hQ) (fun z => absurd h2 z))⟩, fun v hv => csc_of hv (Or.inr (Or.inl ⟨h1, h2, rfl⟩))⟩
  by_cases h3 : isW f t 5 5 (tS f t p)
  · exact Or.inr ⟨3, _, by omega, by omega, he.2, rfl, fun σ Q hR hQ => ⟨3, c_sort_fruit ht hp hR (fun z => absurd z h1) (fun _ => c_sort_melon ht hp hR (fun z => absurd z h2) (fun _ => c_sort_berry ht hp hR (fun _ => hQ) (fun z => absurd h3 z)))⟩, fun v hv => csc_of hv (Or.inr (Or.inr (Or.inl ⟨h1, h2, h3, rfl⟩)))⟩
  by_cases h4 : isW f t 6 5 (tS f t p)
  · exact Or.inr ⟨4, _, by omega, by omega, he.2, rfl, fun σ Q hR hQ => ⟨4, c_sort_fruit ht hp hR (fun z => absurd z h1) (fun _ => c_sort_melon ht hp hR (fun z => absurd z h2) (fun _ => c_sort_berry ht hp hR (fun z => absurd z h3) (fun _ => c_sort_cloth ht hp hR (fun _ => hQ) (fun z => absurd h4 z))))⟩, fun v hv => csc_of hv (Or.inr (Or.inr (Or.inr (Or.inl ⟨h1, h2, h3, h4, rfl⟩))))⟩
  by_cases h5 : isW f t 7 4 (tS f t p)
  · exact Or.inr ⟨5, _, by omega, by omega, he.2, rfl, fun σ Q hR hQ => ⟨5, c_sort_fruit ht hp hR (fun z => absurd z h1) (fun _ => c_sort_melon ht hp hR (fun z => absurd z h2) (fun _ => c_sort_berry ht hp hR (fun z => absurd z h3) (fun _ => c_sort_cloth ht hp hR (fun z => absurd z h4) (fun _ => c_sort_silk ht hp hR (fun _ => hQ) (fun z => absurd h5 z)))))⟩, fun v hv => csc_of hv (Or.inr (Or.inr (Or.inr (Or.inr (Or.inl ⟨h1, h2, h3, h4, h5, rfl⟩)))))⟩
  refine Or.inl ⟨fun σ Q hR hQ => ⟨6, c_sort_fruit ht hp hR (fun z => absurd z h1) (fun _ => c_sort_melon ht hp hR (fun z => absurd z h2) (fun _ => c_sort_berry ht hp hR (fun z => absurd z h3) (fun _ => c_sort_cloth ht hp hR (fun z => absurd z h4) (fun _ => c_sort_silk ht hp hR (fun z => absurd z h5) (fun _ => ?_)))))⟩, fun v hv => csc_of hv (Or.inr (Or.inr (Or.inr (Or.inr (Or.inr ⟨h1, h2, h3, h4, h5, rfl⟩)))))⟩
  rw [wT_readSort_l2]
  simp (disch := first | assumption | omega | decide) only [nI_ltI2, Nat.le_refl, Nat.reduceLeDiff, Nat.reduceLT, Nat.reduceEqDiff, Nat.reduceAdd, Nat.reduceMul, Nat.reduceSub, forall_eq, true_and, and_true, not_true_eq_false, not_false_eq_true, false_implies, true_implies, implies_true, if_true, if_false, ite_self]
  exact c_fail hR.2.1 hR.2.2.1 hQ
end Reads
