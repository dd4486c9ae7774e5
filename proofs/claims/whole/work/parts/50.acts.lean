/-! ACTS: kept, noted -/
def pU (f : Nat → Int32) (k : Nat) (v : Int32) : Nat → Int32 := fun j => if j = k then v else f j
theorem gU_pU {σ : gM} {o k : Nat} {v : Int32} : gU σ o k v o = pU (σ o) k v := by funext j; simp [gU, pU]
theorem pU_eq {f : Nat → Int32} {k : Nat} {v : Int32} : pU f k v k = v := by simp [pU]
theorem pU_ne {f : Nat → Int32} {k j : Nat} {v : Int32} (h : j ≠ k) : pU f k v j = f j := by simp [pU, h]
def noteN (n : Nat) : Nat := if n = 24 then 23 else n
theorem noteN_lt {n : Nat} (h : n ≤ 24) : noteN n < 24 := by unfold noteN; split <;> omega
theorem s_keep {σ : gM} {x1 x2 x3 : Int32} {n nx : Nat} (h3 : σ 20 3 = nI n) (h4 : σ 20 4 = nI nx) (hn : n ≤ 24) (hx : nx < 24) {Q : gM → Prop} (hQ : ∀ σ', (∀ c, c ≠ 20 → c ≠ 21 → c ≠ 22 → c ≠ 23 → σ' c = σ c) → σ' 20 3 = nI (noteN n + 1) → σ' 20 4 = nI ((nx + 1) % 24) → σ' 21 = pU (σ 21) nx x1 → σ' 22 = pU (σ 22) nx x2 → σ' 23 = pU (σ 23) nx x3 → Q σ') : wA_keep x1 x2 x3 σ Q := by
  have er : nI nx + nI 1 - (nI nx + nI 1) / nI 24 * nI 24 = nI ((nx + 1) % 24) := by rw [nI_add, pk_rem (by omega) (by omega) (by omega)]
  have em : (if nI 24 < nI n + nI 1 then nI 24 else nI n + nI 1) = nI (noteN n + 1) := by
    unfold noteN
    rw [nI_add]
    by_cases q : n = 24
    · rw [if_pos (by rw [nI_ltI2 (by omega) (by omega)]; omega), if_pos q]
    · rw [if_neg (by rw [nI_ltI2 (by omega) (by omega)]; omega), if_neg q]
  unfold wA_keep
  simp (disch := first | assumption | omega | decide) only [forall_eq, gU_ne, gU_off, h3, h4, nI_clamp, vinT, true_and, er, em]
  refine hQ _ (fun c c1 c2 c3 c4 => by simp (disch := first | assumption | omega | decide) only [gU_ne]) gU_eq (by rw [gU_off (by omega), gU_eq]) ?_ ?_ ?_
  · simp (disch := first | assumption | omega | decide) only [gU_ne, gU_pU]
  · simp (disch := first | assumption | omega | decide) only [gU_ne, gU_pU]
  · simp (disch := first | assumption | omega | decide) only [gU_ne, gU_pU]
theorem s_note_b {σ : gM} {x1 x2 x3 x4 x5 : Int32} {n : Nat} (h : σ 82 20 = nI n) (hn : n < 24) {Q : gM → Prop} (hQ : ∀ σ', (∀ c, c ≠ 82 → c ≠ 92 → σ' c = σ c) → (∀ j, j ≠ 20 → σ' 82 j = σ 82 j) → σ' 82 20 = nI (n + 1) → σ' 92 = pU (pU (pU (pU (pU (σ 92) (5 * n) x1) (5 * n + 1) x2) (5 * n + 2) x3) (5 * n + 3) x4) (5 * n + 4) x5 → Q σ') : wM_noteAct_b51 Q x1 x2 x3 x4 x5 σ := by
  unfold wM_noteAct_b51
  simp (disch := first | assumption | omega | decide) only [forall_eq, gU_ne, h, pk_mul, nI_add, nI_clamp, vinT, true_and]
  refine hQ _ (fun c c1 c2 => by simp (disch := first | assumption | omega | decide) only [gU_ne]) (fun j hj => by simp (disch := first | assumption | omega | decide) only [gU_off, gU_ne]) gU_eq ?_
  simp (disch := first | assumption | omega | decide) only [gU_ne, gU_pU]
theorem s_note_l {σ0 : gM} {x1 x2 x3 x4 x5 : Int32} (h : σ0 82 20 = nI 24) {Q : gM → Prop} (hQ : ∀ σ', (∀ c, c ≠ 82 → c ≠ 92 → σ' c = σ0 c) → (∀ j, j ≠ 20 → σ' 82 j = σ0 82 j) → σ' 82 20 = nI 24 → (∀ i, i < 115 → σ' 92 i = σ0 92 (i + 5)) → σ' 92 115 = x1 → σ' 92 116 = x2 → σ' 92 117 = x3 → σ' 92 118 = x4 → σ' 92 119 = x5 → Q σ') : ∀ (m j : Nat) (σ : gM), j + m = 115 → (∀ c, c ≠ 92 → σ c = σ0 c) → (∀ i, i < j → σ 92 i = σ0 92 (i + 5)) → (∀ i, j ≤ i → σ 92 i = σ0 92 i) → wM_noteAct_l12 Q (m + 1) x1 x2 x3 x4 x5 (nI j) σ := by
  intro m
  induction m with
  | zero =>
    intro j σ hj hF h1 h2
    have : j = 115 := by omega
    subst this
    have e : σ 82 20 = nI 24 := by rw [hF 82 (by omega)]; exact h
    rw [wM_noteAct_l12]
    simp (disch := first | assumption | omega | decide) only [nI_leI2, nI_ltI2, nI_eqI, nI_add, nI_sub, pk_mul, nI_clamp, vinT, Nat.add_sub_cancel, Nat.le_refl, Nat.reduceLeDiff, Nat.reduceLT, Nat.reduceEqDiff, Nat.reduceAdd, Nat.reduceMul, Nat.reduceSub, forall_eq, true_and, and_true, not_true_eq_false, not_false_eq_true, false_implies, true_implies, implies_true, if_true, if_false, ite_self, e]
    refine s_note_b (n := 23) gU_eq (by omega) (fun σ' f1 f2 f3 f4 => ?_)
    refine hQ σ' (fun c c1 c2 => by rw [f1 c c1 c2, gU_ne c1]; exact hF c c2) (fun j hj => by rw [f2 j hj, gU_off hj, hF 82 (by omega)]) f3 (fun i hi => ?_) ?_ ?_ ?_ ?_ ?_
    · rw [f4]
      simp (disch := omega) only [pU_ne, gU_ne]
      exact h1 i hi
    · rw [f4]; simp (disch := omega) only [pU_ne, pU_eq]
    · rw [f4]; simp (disch := omega) only [pU_ne, pU_eq]
    · rw [f4]; simp (disch := omega) only [pU_ne, pU_eq]
    · rw [f4]; simp (disch := omega) only [pU_ne, pU_eq]
    · rw [f4]; simp (disch := omega) only [pU_ne, pU_eq]
  | succ m ih =>
    intro j σ hj hF h1 h2
    have q : ¬ 115 ≤ j := by omega
    rw [wM_noteAct_l12]
    simp (disch := first | assumption | omega | decide) only [nI_leI2, nI_ltI2, nI_eqI, nI_add, nI_sub, pk_mul, nI_clamp, vinT, Nat.add_sub_cancel, Nat.le_refl, Nat.reduceLeDiff, Nat.reduceLT, Nat.reduceEqDiff, Nat.reduceAdd, Nat.reduceMul, Nat.reduceSub, forall_eq, true_and, and_true, not_true_eq_false, not_false_eq_true, false_implies, true_implies, implies_true, if_true, if_false, ite_self, q]
    refine ih (j + 1) _ (by omega) (fun c hc => by rw [gU_ne hc]; exact hF c hc) (fun i hi => ?_) (fun i hi => ?_)
    · by_cases e : i = j
      · subst e
        rw [gU_eq]
        exact h2 _ (by omega)
      · rw [gU_off e]
        exact h1 i (by omega)
    · rw [gU_off (by omega)]
      exact h2 i (by omega)
theorem s_note {σ : gM} {x1 x2 x3 x4 x5 : Int32} {n : Nat} (h : σ 82 20 = nI n) (hn : n ≤ 24) {Q : gM → Prop} (hQ : ∀ σ', (∀ c, c ≠ 82 → c ≠ 92 → σ' c = σ c) → (∀ j, j ≠ 20 → σ' 82 j = σ 82 j) → σ' 82 20 = nI (noteN n + 1) → (∀ i, i < 5 * noteN n → σ' 92 i = σ 92 (i + if n = 24 then 5 else 0)) → σ' 92 (5 * noteN n) = x1 → σ' 92 (5 * noteN n + 1) = x2 → σ' 92 (5 * noteN n + 2) = x3 → σ' 92 (5 * noteN n + 3) = x4 → σ' 92 (5 * noteN n + 4) = x5 → Q σ') : wM_noteAct x1 x2 x3 x4 x5 σ Q := by
  unfold wM_noteAct
  by_cases q : n = 24
  · subst q
    simp (disch := first | assumption | omega | decide) only [h, Nat.le_refl, Nat.reduceLeDiff, Nat.reduceLT, Nat.reduceEqDiff, Nat.reduceAdd, Nat.reduceMul, Nat.reduceSub, forall_eq, true_and, and_true, not_true_eq_false, not_false_eq_true, false_implies, true_implies, implies_true, if_true, if_false, ite_self]
    exact ⟨116, s_note_l h hQ 115 0 σ (by omega) (fun _ _ => rfl) (fun i hi => absurd hi (by omega)) (fun _ _ => rfl)⟩
  · have e : noteN n = n := by unfold noteN; rw [if_neg q]
    rw [e] at hQ
    simp (disch := first | assumption | omega | decide) only [h, nI_eqI, q, Nat.le_refl, Nat.reduceLeDiff, Nat.reduceLT, Nat.reduceEqDiff, Nat.reduceAdd, Nat.reduceMul, Nat.reduceSub, forall_eq, true_and, and_true, not_true_eq_false, not_false_eq_true, false_implies, true_implies, implies_true, if_true, if_false, ite_self]
    refine s_note_b h (by omega) (fun σ' f1 f2 f3 f4 => hQ σ' f1 f2 f3 (fun i hi => ?_) ?_ ?_ ?_ ?_ ?_)
    · rw [f4]
      simp (disch := omega) only [pU_ne]
      rw [if_neg q, Nat.add_zero]
    · rw [f4]; simp (disch := omega) only [pU_ne, pU_eq]
    · rw [f4]; simp (disch := omega) only [pU_ne, pU_eq]
    · rw [f4]; simp (disch := omega) only [pU_ne, pU_eq]
    · rw [f4]; simp (disch := omega) only [pU_ne, pU_eq]
    · rw [f4]; simp (disch := omega) only [pU_ne, pU_eq]
/-! what was done, told otherwise -/
theorem pHist_congr {k : Nat} : ∀ (n : Nat) (a a' N : Nat → Int32), (∀ i, i < 5 * n → a' i = a i) → pHist k n a N → pHist k n a' N
  | 0, _, _, _, _, _ => trivial
  | n + 1, a, a', N, ha, ⟨N0, nb, nw, nl, hp, h1, h2, h3⟩ => by
    refine ⟨N0, nb, nw, nl, hp, h1, pHist_congr n a a' N0 (fun i hi => ha i (by omega)) h2, ?_⟩
    rw [ha _ (by omega), ha _ (by omega), ha _ (by omega), ha _ (by omega), ha _ (by omega)]
    exact h3
theorem pHist_drop {k : Nat} : ∀ (n : Nat) (a N : Nat → Int32), pHist k (n + 1) a N → pHist k n (fun i => a (i + 5)) N
  | 0, _, _, _ => trivial
  | n + 1, a, N, ⟨N0, nb, nw, nl, hp, h1, h2, h3⟩ => by
    refine ⟨N0, nb, nw, nl, hp, h1, pHist_drop n a N0 h2, ?_⟩
    show pStep (a (5 * n + 5)) (a (5 * n + 1 + 5)) (a (5 * n + 2 + 5)) (a (5 * n + 3 + 5)) (a (5 * n + 4 + 5)) N0 N nb nw nl hp
    rw [show 5 * (n + 1) = 5 * n + 5 by omega] at h3
    rw [show 5 * n + 1 + 5 = 5 * n + 5 + 1 by omega, show 5 * n + 2 + 5 = 5 * n + 5 + 2 by omega, show 5 * n + 3 + 5 = 5 * n + 5 + 3 by omega, show 5 * n + 4 + 5 = 5 * n + 5 + 4 by omega]
    exact h3
theorem ring_ix1 {nx j : Nat} (hx : nx < 24) (hj : j < 23) : ((nx + 1) % 24 + 24 - (23 + 1) + j) % 24 = (nx + 24 - 24 + (j + 1)) % 24 := by omega
theorem ring_ix2 {n nx j : Nat} (hn : n < 24) (hx : nx < 24) (hj : j < n) : ((nx + 1) % 24 + 24 - (n + 1) + j) % 24 = (nx + 24 - n + (j + 0)) % 24 := by omega
theorem pActs_add {k k' n nx nb nw nl : Nat} {hp : Nat → Nat} {σ σ2 : gM} {s e b p g x1 x2 x3 : Int32} (hk : k ≤ k') (hn : n ≤ 24) (hx : nx < 24) (hR : pRing σ n nx) (hH : pHist k n (σ 92) (σ 89)) (hW : pWF k (σ 89) nb nw nl hp) (c1 : σ2 82 20 = nI (noteN n + 1)) (c2 : σ2 20 3 = nI (noteN n + 1)) (c3 : σ2 20 4 = nI ((nx + 1) % 24))
    (r1 : σ2 21 = pU (σ 21) nx x1) (r2 : σ2 22 = pU (σ 22) nx x2) (r3 : σ2 23 = pU (σ 23) nx x3) (a0 : ∀ i, i < 5 * noteN n → σ2 92 i = σ 92 (i + if n = 24 then 5 else 0)) (a1 : σ2 92 (5 * noteN n) = s) (a2 : σ2 92 (5 * noteN n + 1) = e) (a3 : σ2 92 (5 * noteN n + 2) = b) (a4 : σ2 92 (5 * noteN n + 3) = p) (a5 : σ2 92 (5 * noteN n + 4) = g)
    (hnew : (∃ w : Nat, w < 16 ∧ s = nI (3 + w) ∧ x1 = nI 0 ∧ x3 = nI w ∧ x2 = e) ∨ (s = nI 1 ∧ x1 = nI 1 ∧ x2 = e) ∨ (s = nI 2 ∧ x1 = nI 2)) (hS : pStep s e b p g (σ 89) (σ2 89) nb nw nl hp) : pActs k' σ2 := by
  have hn24 := noteN_lt hn
  refine ⟨noteN n + 1, (nx + 1) % 24, by omega, by omega, c1, c2, c3, fun j hj => ?_, ⟨σ 89, nb, nw, nl, hp, pWF_le hk hW, ?_, ?_⟩⟩
  · refine ⟨_, rfl, ?_⟩
    by_cases q : j = noteN n
    · have ep : ((nx + 1) % 24 + 24 - (noteN n + 1) + j) % 24 = nx := by
        rw [q]
        omega
      rw [ep, r1, r2, r3, pU_eq, pU_eq, pU_eq, q, a1, a2]
      rcases hnew with ⟨w, w1, w2, w3, w4, w5⟩ | ⟨w1, w2, w3⟩ | ⟨w1, w2⟩
      · exact Or.inl ⟨w, w1, w2, w3, w4, w5⟩
      · exact Or.inr (Or.inl ⟨w1, w2, w3⟩)
      · exact Or.inr (Or.inr ⟨w1, w2⟩)
    · have hjn : j < noteN n := by omega
      obtain ⟨pp, hpp, hh⟩ := hR (j + if n = 24 then 1 else 0) (by unfold noteN at hjn; split at hjn <;> split <;> omega)
      have ep : ((nx + 1) % 24 + 24 - (noteN n + 1) + j) % 24 = pp := by
        rw [hpp]
        unfold noteN at hjn ⊢
        by_cases q : n = 24
        · rw [if_pos q] at hjn ⊢
          rw [if_pos q, q]
          exact ring_ix1 hx hjn
        · rw [if_neg q] at hjn ⊢
          rw [if_neg q]
          exact ring_ix2 (by omega) hx hjn
      have ne : pp ≠ nx := by
        rw [hpp]
        unfold noteN at hjn
        split at hjn
        · rename_i q; rw [if_pos q]; omega
        · rename_i q; rw [if_neg q]; omega
      have e0 : σ2 92 (5 * j) = σ 92 (5 * (j + if n = 24 then 1 else 0)) := by
        rw [a0 _ (by omega)]
        congr 1
        split <;> omega
      have e1 : σ2 92 (5 * j + 1) = σ 92 (5 * (j + if n = 24 then 1 else 0) + 1) := by
        rw [a0 _ (by omega)]
        congr 1
        split <;> omega
      rw [ep, r1, r2, r3, pU_ne ne, pU_ne ne, pU_ne ne, e0, e1]
      exact hh
  · refine pHist_le hk _ _ _ ?_
    by_cases q : n = 24
    · subst q
      exact pHist_congr 23 (fun i => σ 92 (i + 5)) _ _ (fun i hi => a0 i hi) (pHist_drop 23 _ _ hH)
    · have e : noteN n = n := by unfold noteN; rw [if_neg q]
      rw [e] at a0 ⊢
      exact pHist_congr n _ _ _ (fun i hi => by rw [a0 i hi, if_neg q, Nat.add_zero]) hH
  · rw [a1, a2, a3, a4, a5]
    exact hS
/-- markets alike where it counts -/
def pRel (nb nw nl : Nat) (N M : Nat → Int32) : Prop := (∀ i, i < 6 → M i = N i) ∧ (∀ i, i < nb → ∀ c, c < 4 → M (6 + 4 * i + c) = N (6 + 4 * i + c)) ∧ (∀ w, w < nw → ∀ c, c < 4 → M (22 + 4 * w + c) = N (22 + 4 * w + c)) ∧ ∀ i, i < nl → M (86 + i) = N (86 + i)
theorem pWF_rel {k nb nw nl : Nat} {hp : Nat → Nat} {N M : Nat → Int32} (r : pRel nb nw nl N M) (h : pWF k N nb nw nl hp) : pWF k M nb nw nl hp := by
  obtain ⟨r0, rb, rw', rh⟩ := r
  obtain ⟨h1, h2, h3, h4, h5, h6, h7, ⟨dy, h8, h9⟩, h10, h11, h12, h13⟩ := h
  refine ⟨by rw [r0 2 (by omega)]; exact h1, by rw [r0 3 (by omega)]; exact h2, by rw [r0 5 (by omega)]; exact h3, h4, h5, h6, by rw [r0 1 (by omega)]; exact h7, ⟨dy, h8, by rw [r0 4 (by omega)]; exact h9⟩, fun i hi => ⟨(h10 i hi).1, by rw [rh i hi]; exact (h10 i hi).2.1, by rw [rw' _ (h10 i hi).1 3 (by omega)]; exact (h10 i hi).2.2⟩, h11, fun b hb => ?_, fun w hw => ?_⟩
  · have := rb b hb 0 (by omega)
    rw [Nat.add_zero] at this
    rw [this]; exact h12 b hb
  · have := rw' w hw 0 (by omega)
    rw [Nat.add_zero] at this
    rw [this, rw' w hw 1 (by omega), rw' w hw 2 (by omega)]; exact h13 w hw
theorem pStep_rel {s e b p g : Int32} {N0 N M : Nat → Int32} {nb nw nl nb0 nw0 nl0 k : Nat} {hp0 : Nat → Nat} (hW : pWF k N0 nb0 nw0 nl0 hp0) (n2 : N 2 = nI nb) (n3 : N 3 = nI nw) (n5 : N 5 = nI nl) (hb : nb ≤ 4) (hw : nw ≤ 16) (hl : nl ≤ 16) (r : pRel nb nw nl N M) (h : pStep s e b p g N0 N nb0 nw0 nl0 hp0) : pStep s e b p g N0 M nb0 nw0 nl0 hp0 := by
  obtain ⟨r0, rb, rw', rh⟩ := r
  obtain ⟨h1, h2, h3, h4, hc⟩ := h
  have e2 : nb = nb0 := by
    have := hW.1
    rw [← h3, n2] at this
    exact nI_inj (by omega) (by have := hW.2.2.2.1; omega) this
  have hw0 := hW.2.2.2.2.1
  have hl0 := hW.2.2.2.2.2.1
  subst e2
  have rb0 := fun i hi => rb i hi 0 (by omega)
  have rw0 := fun i hi => rw' i hi 0 (by omega)
  simp only [Nat.add_zero] at rb0 rw0
  refine ⟨by rw [r0 0 (by omega)]; exact h1, by rw [r0 1 (by omega)]; exact h2, by rw [r0 2 (by omega)]; exact h3, h4, ?_⟩
  rcases hc with ⟨w, bi, q1, q2, q3, q4, q5, q6, q7, q8, q9, q10, q11, q12, q13, q14⟩ | ⟨q1, q2, q3, q4, q5, q6, q7, q8, q9⟩ | ⟨q1, q2, q3, q4, q5, q6, q7⟩
  · have f3 : nw = nw0 := nI_inj (by omega) (by omega) (n3.symm.trans q8)
    have f5 : nl = nl0 - 1 := nI_inj (by omega) (by omega) (n5.symm.trans q10)
    subst f3
    refine Or.inl ⟨w, bi, q1, q2, q3, q4, q5, q6, q7, by rw [r0 3 (by omega)]; exact q8, by rw [r0 4 (by omega)]; exact q9, by rw [r0 5 (by omega)]; exact q10, fun i hi => by rw [rh i (by omega)]; exact q11 i hi, fun i hi => ?_, fun i hi => ?_, q14⟩
    · rw [rb0 i hi, rb i hi 1 (by omega), rb i hi 2 (by omega), rb i hi 3 (by omega)]; exact q12 i hi
    · rw [rw0 i hi, rw' i hi 1 (by omega), rw' i hi 2 (by omega), rw' i hi 3 (by omega)]; exact q13 i hi
  · have f3 : nw = nw0 + 1 := nI_inj (by omega) (by omega) (n3.symm.trans q3)
    have f5 : nl = nl0 + 1 := nI_inj (by omega) (by omega) (n5.symm.trans q5)
    refine Or.inr (Or.inl ⟨q1, q2, by rw [r0 3 (by omega)]; exact q3, by rw [r0 4 (by omega)]; exact q4, by rw [r0 5 (by omega)]; exact q5, fun i hi => by rw [rh _ (by split <;> omega)]; exact q6 i hi, by rw [rh _ (by split <;> omega)]; exact q7, fun i hi => ?_, fun i hi => ?_⟩)
    · rw [rb0 i hi, rb i hi 1 (by omega), rb i hi 2 (by omega), rb i hi 3 (by omega)]; exact q8 i hi
    · rw [rw0 i (by omega), rw' i (by omega) 1 (by omega), rw' i (by omega) 2 (by omega), rw' i (by omega) 3 (by omega)]; exact q9 i hi
  · have f3 : nw = nw0 := nI_inj (by omega) (by omega) (n3.symm.trans q2)
    have f5 : nl = nl0 := nI_inj (by omega) (by omega) (n5.symm.trans q4)
    subst f3
    subst f5
    refine Or.inr (Or.inr ⟨q1, by rw [r0 3 (by omega)]; exact q2, by rw [r0 4 (by omega)]; exact q3, by rw [r0 5 (by omega)]; exact q4, fun i hi => by rw [rh i hi]; exact q5 i hi, fun i hi => ?_, fun i hi => ?_⟩)
    · rw [rb0 i hi, rb i hi 1 (by omega), rb i hi 2 (by omega), rb i hi 3 (by omega)]; exact q6 i hi
    · rw [rw0 i hi, rw' i hi 1 (by omega), rw' i hi 2 (by omega), rw' i hi 3 (by omega)]; exact q7 i hi
theorem pHist_rel {k n nb nw nl : Nat} {a N M : Nat → Int32} (n2 : N 2 = nI nb) (n3 : N 3 = nI nw) (n5 : N 5 = nI nl) (hb : nb ≤ 4) (hw : nw ≤ 16) (hl : nl ≤ 16) (r : pRel nb nw nl N M) (h : pHist k n a N) : pHist k n a M := by
  cases n with
  | zero => trivial
  | succ n =>
    obtain ⟨N0, nb0, nw0, nl0, hp0, h1, h2, h3⟩ := h
    exact ⟨N0, nb0, nw0, nl0, hp0, h1, h2, pStep_rel h1 n2 n3 n5 hb hw hl r h3⟩
/-- an act is done or undone: what stays -/
theorem pInv_act {k k' : Nat} {σ σ2 : gM} (h : pInv k σ) (hk : k ≤ k') (e : ∀ c, (c < 20 ∨ (24 ≤ c ∧ c < 42) ∨ (52 ≤ c ∧ c ≠ 82 ∧ c ≠ 89 ∧ c ≠ 92)) → σ2 c = σ c) (e82 : ∀ j, j ≠ 20 → σ2 82 j = σ 82 j) (hst : pStands σ2) (hmk : pMkt k' σ2) (hac : pActs k' σ2) : pInv k' σ2 := by
  have h' := pInv_le hk h
  refine pInv_mk h' (fun a h1 h2 => e a (by omega)) (e 83 (by omega)) (e 84 (by omega)) (e 85 (by omega)) (by rw [e 0 (by omega)]) (e82 3 (by omega)) (by rw [e 0 (by omega), e82 11 (by omega)]; exact h.2.2.1)
    (pTape_fr (by rw [e 18 (by omega)]) (e82 4 (by omega)) (e 19 (by omega)) (e 86 (by omega)) h.2.2.2.1)
    (pTrace_fr (by rw [e 0 (by omega)]) (e82 22 (by omega)) (e 40 (by omega)) (e 93 (by omega)) h.2.2.2.2.1)
    hst hmk (fun a h1 h2 => e a (by omega)) (e 90 (by omega)) (e 91 (by omega)) hac
