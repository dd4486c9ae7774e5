/-! MARKET -/
/-- the reference's market as told -/
def pNew (D : Nat → Nat) (N : Nat → Int32) : Prop := N 0 = nI 1 ∧ N 1 = nI (D 0) ∧ N 2 = nI (D 1) ∧ N 3 = nI (D 2) ∧ N 4 = nI 0 ∧ N 5 = nI (D 2) ∧ (∀ i, i < D 1 → N (6 + 4 * i) = nI (D (6 + 4 * i)) ∧ N (6 + 4 * i + 1) = nI (D (6 + 4 * i + 1)) ∧ N (6 + 4 * i + 2) = nI 0 ∧ N (6 + 4 * i + 3) = nI 0) ∧ ∀ w, w < D 2 → N (22 + 4 * w) = nI (D (22 + 4 * w)) ∧ N (22 + 4 * w + 1) = nI (D (22 + 4 * w + 1)) ∧ N (22 + 4 * w + 2) = nI (D (22 + 4 * w + 2)) ∧ N (22 + 4 * w + 3) = -1000000 ∧ N (86 + w) = nI w
theorem pNew_WF {D : Nat → Nat} {N : Nat → Int32} {k : Nat} (hD : WFD D) (h : pNew D N) : pWF k N (D 1) (D 2) (D 2) (fun i => i) := by
  obtain ⟨h0, h1, h2, h3, h4, h5, hB, hW⟩ := h
  obtain ⟨d0, d1, d2, dB, dW⟩ := hD
  refine ⟨h2, h3, h5, d1, by omega, Nat.le_refl _, ?_, ⟨0, by omega, h4⟩, fun i hi => ⟨hi, (hW i hi).2.2.2.2, (hW i hi).2.2.2.1⟩, fun i j _ _ e => e, fun b hb => ⟨_, (dB b hb).1, (hB b hb).1⟩, fun w hw => ?_⟩
  · rw [h1]
    have : D 0 = 0 ∨ D 0 = 1 := by omega
    rcases this with e | e <;> rw [e]
    · exact Or.inl rfl
    · exact Or.inr rfl
  · obtain ⟨a1, a2, a3, a4⟩ := dW w hw
    obtain ⟨b1, b2, b3, -⟩ := hW w hw
    exact ⟨_, _, _, a1, a2, a3, by omega, b1, b2, b3⟩
section Mk
variable {D : Nat → Nat} {Q : Int32 → gM → Prop}
def pMkF (σ0 σ : gM) : Prop := ∀ c, c ≠ 89 → σ c = σ0 c
/-- 0 to 5, buyers ahead of b, wares ahead of w stand -/
def pPart (D : Nat → Nat) (b w : Nat) (N : Nat → Int32) : Prop := N 0 = nI 1 ∧ N 1 = nI (D 0) ∧ N 2 = nI (D 1) ∧ N 3 = nI (D 2) ∧ N 4 = nI 0 ∧ N 5 = nI (D 2) ∧ (∀ i, i < D 1 → N (6 + 4 * i + 2) = nI 0 ∧ N (6 + 4 * i + 3) = nI 0) ∧ (∀ i, i < b → N (6 + 4 * i) = nI (D (6 + 4 * i)) ∧ N (6 + 4 * i + 1) = nI (D (6 + 4 * i + 1))) ∧ ∀ i, i < w → N (22 + 4 * i) = nI (D (22 + 4 * i)) ∧ N (22 + 4 * i + 1) = nI (D (22 + 4 * i + 1)) ∧ N (22 + 4 * i + 2) = nI (D (22 + 4 * i + 2)) ∧ N (22 + 4 * i + 3) = -1000000 ∧ N (86 + i) = nI i
theorem s_mk_w {σ0 : gM} (hD : WFD D) (hM : DM D σ0) (hQ : ∀ σ', (∀ c, c ≠ 89 → c ≠ 82 → σ' c = σ0 c) → (∀ j, j ≠ 20 → σ' 82 j = σ0 82 j) → σ' 82 20 = nI 0 → pNew D (σ' 89) → Q (nI (D 2)) σ') : ∀ (m w : Nat) (σ : gM), w + m = D 2 → pMkF σ0 σ → pPart D (D 1) w (σ 89) → wM_market_l150 Q (m + 1) (nI w) σ := by
  obtain ⟨d0, d1, d2, dB, dW⟩ := hD
  intro m
  induction m with
  | zero =>
    intro w σ hw hF h
    have e : σ 82 14 = nI (D 2) := by rw [hF 82 (by omega)]; exact hM.2.2.1
    have q : D 2 ≤ w := by omega
    rw [wM_market_l150]
    simp (disch := first | assumption | omega | decide) only [e, nI_leI2, q, Nat.le_refl, Nat.reduceLeDiff, Nat.reduceLT, Nat.reduceEqDiff, Nat.reduceAdd, Nat.reduceMul, Nat.reduceSub, forall_eq, true_and, and_true, not_true_eq_false, not_false_eq_true, false_implies, true_implies, implies_true, if_true, if_false, ite_self, gU_off]
    obtain ⟨h0, h1, h2, h3, h4, h5, hz, hB, hW⟩ := h
    refine hQ _ (fun c c1 c2 => by rw [gU_ne c2]; exact hF c c1) (fun j hj => by rw [gU_off hj, hF 82 (by omega)]) gU_eq ?_
    rw [gU_ne (by omega)]
    exact ⟨h0, h1, h2, h3, h4, h5, fun i hi => ⟨(hB i hi).1, (hB i hi).2, (hz i hi).1, (hz i hi).2⟩, fun i hi => hW i (by omega)⟩
  | succ m ih =>
    intro w σ hw hF h
    have e : σ 82 14 = nI (D 2) := by rw [hF 82 (by omega)]; exact hM.2.2.1
    have q : ¬ D 2 ≤ w := by omega
    have k0 := (hM.2.2.2.2 w (by omega)).1
    have k1 := (hM.2.2.2.2 w (by omega)).2.1
    have k2 := (hM.2.2.2.2 w (by omega)).2.2
    have e88 : σ 88 = σ0 88 := hF 88 (by omega)
    rw [wM_market_l150]
    simp (disch := first | assumption | omega | decide) only [e, nI_leI2, q, Nat.le_refl, Nat.reduceLeDiff, Nat.reduceLT, Nat.reduceEqDiff, Nat.reduceAdd, Nat.reduceMul, Nat.reduceSub, forall_eq, true_and, and_true, not_true_eq_false, not_false_eq_true, false_implies, true_implies, implies_true, if_true, if_false, ite_self]
    refine ⟨4, ?_⟩
    rw [wM_market_l160]
    simp (disch := first | assumption | omega | decide) only [nI_leI2, nI_ltI2, nI_eqI, nI_add, nI_sub, pk_mul, nI_clamp, vinT, Nat.add_sub_cancel, Nat.le_refl, Nat.reduceLeDiff, Nat.reduceLT, Nat.reduceEqDiff, Nat.reduceAdd, Nat.reduceMul, Nat.reduceSub, forall_eq, true_and, and_true, not_true_eq_false, not_false_eq_true, false_implies, true_implies, implies_true, if_true, if_false, ite_self, Nat.add_zero, e88, k0]
    rw [wM_market_l160]
    simp (disch := first | assumption | omega | decide) only [nI_leI2, nI_ltI2, nI_eqI, nI_add, nI_sub, pk_mul, nI_clamp, vinT, Nat.add_sub_cancel, Nat.le_refl, Nat.reduceLeDiff, Nat.reduceLT, Nat.reduceEqDiff, Nat.reduceAdd, Nat.reduceMul, Nat.reduceSub, forall_eq, true_and, and_true, not_true_eq_false, not_false_eq_true, false_implies, true_implies, implies_true, if_true, if_false, ite_self, gU_ne, e88, k1]
    rw [wM_market_l160]
    simp (disch := first | assumption | omega | decide) only [nI_leI2, nI_ltI2, nI_eqI, nI_add, nI_sub, pk_mul, nI_clamp, vinT, Nat.add_sub_cancel, Nat.le_refl, Nat.reduceLeDiff, Nat.reduceLT, Nat.reduceEqDiff, Nat.reduceAdd, Nat.reduceMul, Nat.reduceSub, forall_eq, true_and, and_true, not_true_eq_false, not_false_eq_true, false_implies, true_implies, implies_true, if_true, if_false, ite_self, gU_ne, e88, k2]
    rw [wM_market_l160]
    simp (disch := first | assumption | omega | decide) only [nI_leI2, nI_ltI2, nI_eqI, nI_add, nI_sub, pk_mul, nI_clamp, vinT, Nat.add_sub_cancel, Nat.le_refl, Nat.reduceLeDiff, Nat.reduceLT, Nat.reduceEqDiff, Nat.reduceAdd, Nat.reduceMul, Nat.reduceSub, forall_eq, true_and, and_true, not_true_eq_false, not_false_eq_true, false_implies, true_implies, implies_true, if_true, if_false, ite_self]
    obtain ⟨h0, h1, h2, h3, h4, h5, hz, hB, hW⟩ := h
    refine ih (w + 1) _ (by omega) (fun c hc => by simp (disch := omega) only [gU_ne]; exact hF c hc) ?_
    refine ⟨?_, ?_, ?_, ?_, ?_, ?_, fun i hi => ⟨?_, ?_⟩, fun i hi => ⟨?_, ?_⟩, fun i hi => ?_⟩
    · simp (disch := omega) only [gU_off]; exact h0
    · simp (disch := omega) only [gU_off]; exact h1
    · simp (disch := omega) only [gU_off]; exact h2
    · simp (disch := omega) only [gU_off]; exact h3
    · simp (disch := omega) only [gU_off]; exact h4
    · simp (disch := omega) only [gU_off]; exact h5
    · simp (disch := omega) only [gU_off]; exact (hz i hi).1
    · simp (disch := omega) only [gU_off]; exact (hz i hi).2
    · simp (disch := omega) only [gU_off]; exact (hB i hi).1
    · simp (disch := omega) only [gU_off]; exact (hB i hi).2
    · by_cases e : i = w
      · subst e
        simp (disch := omega) only [gU_off, gU_eq, and_self]
      · simp (disch := omega) only [gU_off]
        exact hW i (by omega)
theorem s_mk_b {σ0 : gM} (hD : WFD D) (hM : DM D σ0) (hQ : ∀ σ', (∀ c, c ≠ 89 → c ≠ 82 → σ' c = σ0 c) → (∀ j, j ≠ 20 → σ' 82 j = σ0 82 j) → σ' 82 20 = nI 0 → pNew D (σ' 89) → Q (nI (D 2)) σ') : ∀ (m b : Nat) (σ : gM), b + m = D 1 → pMkF σ0 σ → pPart D b 0 (σ 89) → wM_market_l92 Q (m + 1) (nI b) σ := by
  have hD' := hD
  obtain ⟨d0, d1, d2, dB, dW⟩ := hD'
  intro m
  induction m with
  | zero =>
    intro b σ hw hF h
    have e : σ 82 13 = nI (D 1) := by rw [hF 82 (by omega)]; exact hM.2.1
    have q : D 1 ≤ b := by omega
    have eb : b = D 1 := by omega
    rw [wM_market_l92]
    simp (disch := first | assumption | omega | decide) only [e, nI_leI2, q, Nat.le_refl, Nat.reduceLeDiff, Nat.reduceLT, Nat.reduceEqDiff, Nat.reduceAdd, Nat.reduceMul, Nat.reduceSub, forall_eq, true_and, and_true, not_true_eq_false, not_false_eq_true, false_implies, true_implies, implies_true, if_true, if_false, ite_self]
    exact ⟨D 2 + 1, s_mk_w hD hM hQ (D 2) 0 σ (by omega) hF (by rw [← eb]; exact h)⟩
  | succ m ih =>
    intro b σ hw hF h
    have e : σ 82 13 = nI (D 1) := by rw [hF 82 (by omega)]; exact hM.2.1
    have q : ¬ D 1 ≤ b := by omega
    obtain ⟨k0, k1⟩ := hM.2.2.2.1 b (by omega)
    have e87 : σ 87 = σ0 87 := hF 87 (by omega)
    rw [wM_market_l92]
    simp (disch := first | assumption | omega | decide) only [nI_leI2, nI_ltI2, nI_eqI, nI_add, nI_sub, pk_mul, nI_clamp, vinT, Nat.add_sub_cancel, Nat.le_refl, Nat.reduceLeDiff, Nat.reduceLT, Nat.reduceEqDiff, Nat.reduceAdd, Nat.reduceMul, Nat.reduceSub, forall_eq, true_and, and_true, not_true_eq_false, not_false_eq_true, false_implies, true_implies, implies_true, if_true, if_false, ite_self, e, q, e87, k0, k1, gU_ne]
    obtain ⟨h0, h1, h2, h3, h4, h5, hz, hB, hW⟩ := h
    refine ih (b + 1) _ (by omega) (fun c hc => by simp (disch := omega) only [gU_ne]; exact hF c hc) ?_
    refine ⟨?_, ?_, ?_, ?_, ?_, ?_, fun i hi => ⟨?_, ?_⟩, fun i hi => ?_, fun i hi => absurd hi (by omega)⟩
    · simp (disch := omega) only [gU_off]; exact h0
    · simp (disch := omega) only [gU_off]; exact h1
    · simp (disch := omega) only [gU_off]; exact h2
    · simp (disch := omega) only [gU_off]; exact h3
    · simp (disch := omega) only [gU_off]; exact h4
    · simp (disch := omega) only [gU_off]; exact h5
    · simp (disch := omega) only [gU_off]; exact (hz i hi).1
    · simp (disch := omega) only [gU_off]; exact (hz i hi).2
    · by_cases e : i = b
      · subst e
        simp (disch := omega) only [gU_off, gU_eq, and_self]
      · simp (disch := omega) only [gU_off]
        exact hB i (by omega)
theorem s_mk_z {σ0 : gM} (hD : WFD D) (hM : DM D σ0) (hQ : ∀ σ', (∀ c, c ≠ 89 → c ≠ 82 → σ' c = σ0 c) → (∀ j, j ≠ 20 → σ' 82 j = σ0 82 j) → σ' 82 20 = nI 0 → pNew D (σ' 89) → Q (nI (D 2)) σ') : ∀ (m j : Nat) (σ : gM), j + m = 102 → pMkF σ0 σ → (∀ i, i < j → σ 89 i = nI 0) → wM_market_l24 Q (m + 1) (nI j) σ := by
  have hD' := hD
  obtain ⟨d0, d1, d2, dB, dW⟩ := hD'
  intro m
  induction m with
  | zero =>
    intro j σ hj hF h
    have : j = 102 := by omega
    subst this
    have e12 : σ 82 12 = nI (D 0) := by rw [hF 82 (by omega)]; exact hM.1
    have e13 : σ 82 13 = nI (D 1) := by rw [hF 82 (by omega)]; exact hM.2.1
    have e14 : σ 82 14 = nI (D 2) := by rw [hF 82 (by omega)]; exact hM.2.2.1
    rw [wM_market_l24]
    simp (disch := first | assumption | omega | decide) only [nI_leI2, Nat.le_refl, Nat.reduceLeDiff, Nat.reduceLT, Nat.reduceEqDiff, Nat.reduceAdd, Nat.reduceMul, Nat.reduceSub, forall_eq, true_and, and_true, not_true_eq_false, not_false_eq_true, false_implies, true_implies, implies_true, if_true, if_false, ite_self, gU_ne, e12, e13, e14]
    refine ⟨D 1 + 1, s_mk_b hD hM hQ (D 1) 0 _ (by omega) (fun c hc => by simp (disch := omega) only [gU_ne]; exact hF c hc) ⟨?_, ?_, ?_, ?_, ?_, ?_, fun i hi => ⟨?_, ?_⟩, fun i hi => absurd hi (by omega), fun i hi => absurd hi (by omega)⟩⟩
    · simp (disch := omega) only [gU_off, gU_eq]
    · simp (disch := omega) only [gU_off, gU_eq]
    · simp (disch := omega) only [gU_off, gU_eq]
    · simp (disch := omega) only [gU_off, gU_eq]
    · simp (disch := omega) only [gU_off]; exact h 4 (by omega)
    · simp (disch := omega) only [gU_eq]
    · simp (disch := omega) only [gU_off]; exact h _ (by omega)
    · simp (disch := omega) only [gU_off]; exact h _ (by omega)
  | succ m ih =>
    intro j σ hj hF h
    have q : ¬ 102 ≤ j := by omega
    rw [wM_market_l24]
    simp (disch := first | assumption | omega | decide) only [nI_leI2, nI_ltI2, nI_eqI, nI_add, nI_sub, pk_mul, nI_clamp, vinT, Nat.add_sub_cancel, Nat.le_refl, Nat.reduceLeDiff, Nat.reduceLT, Nat.reduceEqDiff, Nat.reduceAdd, Nat.reduceMul, Nat.reduceSub, forall_eq, true_and, and_true, not_true_eq_false, not_false_eq_true, false_implies, true_implies, implies_true, if_true, if_false, ite_self, q]
    refine ih (j + 1) _ (by omega) (fun c hc => by rw [gU_ne hc]; exact hF c hc) (fun i hi => ?_)
    by_cases e : i = j
    · rw [e, gU_eq]
    · rw [gU_off e]; exact h i (by omega)
end Mk
theorem op_market {k : Nat} {σ : gM} (h : pInv k σ) : pBoth wH_market wM_market σ (pInv k) := by
  obtain ⟨t, t1, t2, t3, t4⟩ := h.2.2.2.1
  obtain ⟨n, nx, a1, a2, a3, a4, a5, hR, hH⟩ := h.2.2.2.2.2.2.2.2.2
  have n01 : ¬ nI 1 = nI 0 := by decide
  obtain ⟨o, o1, o2, o3⟩ := j_read (f := σ 19) (t := t) t1
  have hCS : CS (σ 19) t σ := ⟨t2, fun i hi => rfl⟩
  have hMS : ∀ τ, (∀ c, c = 82 ∨ c = 86 → τ c = σ c) → MS (σ 19) t τ := fun τ hτ => ⟨by rw [hτ 82 (Or.inl rfl)]; exact t3, fun i hi => by rw [hτ 86 (Or.inr rfl)]; exact (t4 i hi).symm⟩
  unfold pBoth wH_market
  refine o2 σ _ hCS ?_
  cases o with
  | inl e =>
    obtain ⟨num, s⟩ := e
    obtain ⟨⟨n1, n3⟩, hst⟩ := o1
    have n1 : 1 ≤ num := n1
    have n3 : num ≤ 3 := n3
    intro σ1 hF h0 h1 h2 h19
    have h1 : σ1 18 1 = nI num := h1
    have h2 : σ1 18 2 = nI s := h2
    have e2 : gU σ1 0 10 (nI num) 18 2 = nI s := by rw [gU_ne (by omega)]; exact h2
    simp only [h1, e2, Nat.le_refl, Nat.reduceLeDiff, Nat.reduceLT, Nat.reduceEqDiff, Nat.reduceAdd, Nat.reduceMul, Nat.reduceSub, forall_eq, true_and, and_true, not_true_eq_false, not_false_eq_true, false_implies, true_implies, implies_true, if_true, if_false, ite_self]
    unfold wM_market
    refine o3 _ _ (hMS _ (fun c hc => by rw [gU_ne (by omega)]; exact hF c (by omega) (by omega))) ?_
    intro τ hr g11 g7
    have g11 : τ 82 11 = nI num := g11
    have g7 : τ 82 7 = nI s := g7
    have e7 : gU τ 82 4 (nI 0) 82 7 = nI s := by rw [gU_off (by omega)]; exact g7
    simp only [e7, Nat.le_refl, Nat.reduceLeDiff, Nat.reduceLT, Nat.reduceEqDiff, Nat.reduceAdd, Nat.reduceMul, Nat.reduceSub, forall_eq, true_and, and_true, not_true_eq_false, not_false_eq_true, false_implies, true_implies, implies_true, if_true, if_false, ite_self]
    have e : ∀ c, c ≠ 0 → c ≠ 18 → (c < 52 ∨ 61 < c) → c ≠ 82 → c ≠ 87 → c ≠ 88 → gU τ 82 4 (nI 0) c = σ c := fun c c0 c1 c2 c3 c4 c5 => by rw [gU_ne c3, hr.1 c c3 c4 c5, gU_ne c0]; exact hF c c1 c2
    have e0 : ∀ j, j ≠ 10 → gU τ 82 4 (nI 0) 0 j = σ 0 j := fun j hj => by rw [gU_ne (by omega), hr.1 0 (by omega) (by omega) (by omega), gU_off hj, hF 0 (by omega) (by omega)]
    have e82 : ∀ j, (j = 3 ∨ j = 20 ∨ j = 22) → gU τ 82 4 (nI 0) 82 j = σ 82 j := fun j hj => by rw [gU_off (by omega), hr.2 j (by omega) (by omega) (by omega) (by omega) (by omega) (by omega) (by omega) (by omega) (by omega) (by omega), gU_ne (by omega), hF 82 (by omega) (by omega)]
    have e18 : gU τ 82 4 (nI 0) 18 0 = nI 0 := by rw [gU_ne (by omega), hr.1 18 (by omega) (by omega) (by omega), gU_ne (by omega)]; exact h0
    refine pInv_mk h (fun a h1 h2 => e a (by omega) (by omega) (by omega) (by omega) (by omega) (by omega)) (e 83 (by omega) (by omega) (by omega) (by omega) (by omega) (by omega)) (e 84 (by omega) (by omega) (by omega) (by omega) (by omega) (by omega)) (e 85 (by omega) (by omega) (by omega) (by omega) (by omega) (by omega)) (e0 11 (by omega)) (e82 3 (by omega)) ?_
      ⟨0, by omega, e18, gU_eq, fun i hi => absurd hi (by omega)⟩
      (pTrace_fr (e0 9 (by omega)) (e82 22 (by omega)) (e 40 (by omega) (by omega) (by omega) (by omega) (by omega) (by omega)) (e 93 (by omega) (by omega) (by omega) (by omega) (by omega) (by omega)) h.2.2.2.2.1)
      (pStands_fr (by rw [e 42 (by omega) (by omega) (by omega) (by omega) (by omega) (by omega)]) (e 89 (by omega) (by omega) (by omega) (by omega) (by omega) (by omega)) h.2.2.2.2.2.1)
      (pMkt_fr (fun a h1 h2 => e a (by omega) (by omega) (by omega) (by omega) (by omega) (by omega)) (e 89 (by omega) (by omega) (by omega) (by omega) (by omega) (by omega)) h.2.2.2.2.2.2.1)
      (fun a h1 h2 => e a (by omega) (by omega) (by omega) (by omega) (by omega) (by omega)) (e 90 (by omega) (by omega) (by omega) (by omega) (by omega) (by omega)) (e 91 (by omega) (by omega) (by omega) (by omega) (by omega) (by omega))
      (pActs_fr (e82 20 (by omega)) (e _ (by omega) (by omega) (by omega) (by omega) (by omega) (by omega)) (e _ (by omega) (by omega) (by omega) (by omega) (by omega) (by omega)) (e _ (by omega) (by omega) (by omega) (by omega) (by omega) (by omega)) (e _ (by omega) (by omega) (by omega) (by omega) (by omega) (by omega)) (e _ (by omega) (by omega) (by omega) (by omega) (by omega) (by omega)) (e _ (by omega) (by omega) (by omega) (by omega) (by omega) (by omega)) h.2.2.2.2.2.2.2.2.2)
    rw [gU_ne (by omega), hr.1 0 (by omega) (by omega) (by omega), gU_eq, gU_off (by omega), g11]
  | inr D =>
    have hD : WFD D := o1
    intro σ1 hF h0 hDC h19
    simp only [n01, Nat.le_refl, Nat.reduceLeDiff, Nat.reduceLT, Nat.reduceEqDiff, Nat.reduceAdd, Nat.reduceMul, Nat.reduceSub, forall_eq, true_and, and_true, not_true_eq_false, not_false_eq_true, false_implies, true_implies, implies_true, if_true, if_false, ite_self]
    refine s_become_42_52 (Or.inr hDC.1) (fun σ2 hB => ?_)
    unfold wA_forget
    simp only [forall_eq]
    obtain ⟨d0, d1, d2, d3, d4, d5, dB, dW⟩ := hDC
    obtain ⟨b1, b2, b3⟩ := hB
    have e4 : gU σ2 20 3 (nI 0) 42 4 = nI (D 2) := by rw [gU_ne (by omega), b1 4 (by omega)]; exact d4
    rw [e4]
    have fr : ∀ c, c ≠ 18 → c ≠ 20 → (c < 42 ∨ 61 < c) → gU σ2 20 3 (nI 0) c = σ c := fun c c1 c2 c3 => by rw [gU_ne c2, b3 c (by omega)]; exact hF c c1 (by omega)
    unfold wM_market
    refine o3 _ _ (hMS _ (fun c hc => fr c (by omega) (by omega) (by omega))) ?_
    intro τ hr g11 hDM
    simp only [n01, Nat.le_refl, Nat.reduceLeDiff, Nat.reduceLT, Nat.reduceEqDiff, Nat.reduceAdd, Nat.reduceMul, Nat.reduceSub, forall_eq, true_and, and_true, not_true_eq_false, not_false_eq_true, false_implies, true_implies, implies_true, if_true, if_false, ite_self]
    have hDM' : DM D (gU τ 82 4 (nI 0)) := by
      obtain ⟨x1, x2, x3, x4, x5⟩ := hDM
      exact ⟨by rw [gU_off (by omega)]; exact x1, by rw [gU_off (by omega)]; exact x2, by rw [gU_off (by omega)]; exact x3, fun i hi => by rw [gU_ne (by omega)]; exact x4 i hi, fun i hi => by rw [gU_ne (by omega)]; exact x5 i hi⟩
    refine ⟨103, s_mk_z (σ0 := gU τ 82 4 (nI 0)) hD hDM' (fun σ' u1 u2 u3 u4 => ⟨rfl, ?_⟩) 102 0 _ (by omega) (fun _ _ => rfl) (fun i hi => absurd hi (by omega))⟩
    have frτ : ∀ c, c ≠ 89 → c ≠ 82 → c ≠ 87 → c ≠ 88 → σ' c = gU σ2 20 3 (nI 0) c := fun c c1 c2 c3 c4 => by rw [u1 c c1 c2, gU_ne c2, hr.1 c c2 c3 c4]
    have e : ∀ c, c ≠ 18 → c ≠ 20 → (c < 42 ∨ 61 < c) → c ≠ 89 → c ≠ 82 → c ≠ 87 → c ≠ 88 → σ' c = σ c := fun c c1 c2 c3 c4 c5 c6 c7 => by rw [frτ c c4 c5 c6 c7]; exact fr c c1 c2 c3
    have e82 : ∀ j, (j = 3 ∨ j = 22) → σ' 82 j = σ 82 j := fun j hj => by rw [u2 j (by omega), gU_off (by omega), hr.2 j (by omega) (by omega) (by omega) (by omega) (by omega) (by omega) (by omega) (by omega) (by omega) (by omega), fr 82 (by omega) (by omega) (by omega)]
    have em : ∀ c, 42 ≤ c → c ≤ 51 → σ' c = σ2 c := fun c c1 c2 => by rw [frτ c (by omega) (by omega) (by omega) (by omega), gU_ne (by omega)]
    have hnew := u4
    obtain ⟨y0, y1, y2, y3, y4, y5, yB, yW⟩ := u4
    obtain ⟨w0, w1, w2, wB, wW⟩ := hD
    refine pInv_mk h (fun a h1 h2 => e a (by omega) (by omega) (by omega) (by omega) (by omega) (by omega) (by omega)) (e 83 (by omega) (by omega) (by omega) (by omega) (by omega) (by omega) (by omega)) (e 84 (by omega) (by omega) (by omega) (by omega) (by omega) (by omega) (by omega)) (e 85 (by omega) (by omega) (by omega) (by omega) (by omega) (by omega) (by omega)) (by rw [e 0 (by omega) (by omega) (by omega) (by omega) (by omega) (by omega) (by omega)]) (e82 3 (by omega)) ?_
      ⟨0, by omega, ?_, ?_, fun i hi => absurd hi (by omega)⟩
      (pTrace_fr (by rw [e 0 (by omega) (by omega) (by omega) (by omega) (by omega) (by omega) (by omega)]) (e82 22 (by omega)) (e 40 (by omega) (by omega) (by omega) (by omega) (by omega) (by omega) (by omega)) (e 93 (by omega) (by omega) (by omega) (by omega) (by omega) (by omega) (by omega)) h.2.2.2.2.1)
      ⟨?_, Or.inr y0⟩ ⟨D 1, D 2, D 2, (fun i => i), ?_, pNew_WF ⟨w0, w1, w2, wB, wW⟩ hnew⟩
      (fun a h1 h2 => e a (by omega) (by omega) (by omega) (by omega) (by omega) (by omega) (by omega)) (e 90 (by omega) (by omega) (by omega) (by omega) (by omega) (by omega) (by omega)) (e 91 (by omega) (by omega) (by omega) (by omega) (by omega) (by omega) (by omega))
      ⟨0, nx, by omega, a2, u3, ?_, ?_, fun j hj => absurd hj (by omega), trivial⟩
    · rw [e 0 (by omega) (by omega) (by omega) (by omega) (by omega) (by omega) (by omega), u2 11 (by omega), gU_off (by omega), g11, fr 82 (by omega) (by omega) (by omega)]
      exact h.2.2.1
    · rw [frτ 18 (by omega) (by omega) (by omega) (by omega), gU_ne (by omega), b3 18 (by omega)]
      exact h0
    · rw [u2 4 (by omega), gU_eq]
    · rw [em 42 (by omega) (by omega), b1 0 (by omega), y0]
      exact d0
    · refine ⟨by rw [em 42 (by omega) (by omega), b1 1 (by omega), d1, y1], by rw [em 42 (by omega) (by omega), b1 2 (by omega), d2, y4], by rw [em 42 (by omega) (by omega), b1 3 (by omega), d3], by rw [em 42 (by omega) (by omega), b1 4 (by omega), d4], by rw [em 42 (by omega) (by omega), b1 5 (by omega), d5], fun i hi => ?_, fun i hi => ?_, fun i hi => ?_⟩
      · obtain ⟨z1, z2, z3, z4⟩ := yB i hi
        obtain ⟨x1, x2, x3, x4⟩ := dB i hi
        have f1 := b2 1 (by omega) (by omega) i (by rw [if_pos (by omega)]; omega)
        have f2 := b2 2 (by omega) (by omega) i (by rw [if_pos (by omega)]; omega)
        have f3 := b2 3 (by omega) (by omega) i (by rw [if_pos (by omega)]; omega)
        have f4 := b2 4 (by omega) (by omega) i (by rw [if_pos (by omega)]; omega)
        rw [z1, z2, z3, z4, em (42 + 1) (by omega) (by omega), em (42 + 2) (by omega) (by omega), em (42 + 3) (by omega) (by omega), em (42 + 4) (by omega) (by omega), f1, f2, f3, f4]
        exact ⟨x1, x2, x3, x4⟩
      · obtain ⟨z1, z2, z3, z4, z5⟩ := yW i hi
        obtain ⟨x1, x2, x3, x4, x5⟩ := dW i hi
        have f1 := b2 5 (by omega) (by omega) i (by rw [if_neg (by omega)]; omega)
        have f2 := b2 6 (by omega) (by omega) i (by rw [if_neg (by omega)]; omega)
        have f3 := b2 7 (by omega) (by omega) i (by rw [if_neg (by omega)]; omega)
        have f4 := b2 8 (by omega) (by omega) i (by rw [if_neg (by omega)]; omega)
        rw [z1, z2, z3, z4, em (42 + 5) (by omega) (by omega), em (42 + 6) (by omega) (by omega), em (42 + 7) (by omega) (by omega), em (42 + 8) (by omega) (by omega), f1, f2, f3, f4]
        exact ⟨x1, x2, x3, x4⟩
      · obtain ⟨z1, z2, z3, z4, z5⟩ := yW i hi
        obtain ⟨x1, x2, x3, x4, x5⟩ := dW i hi
        have f1 := b2 9 (by omega) (by omega) i (by rw [if_neg (by omega)]; omega)
        rw [z5, em (42 + 9) (by omega) (by omega), f1]
        exact x5
    · rw [frτ 20 (by omega) (by omega) (by omega) (by omega), gU_eq]
    · rw [frτ 20 (by omega) (by omega) (by omega) (by omega), gU_off (by omega), b3 20 (by omega), hF 20 (by omega) (by omega)]
      exact a5
