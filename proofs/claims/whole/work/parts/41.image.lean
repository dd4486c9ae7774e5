/-! IMAGES -/
def pBec (s t : Nat) (σ σ' : gM) : Prop := (∀ j, j ≤ 5 → σ' t j = σ s j) ∧ (∀ a, 1 ≤ a → a ≤ 9 → ∀ i, i < (if a ≤ 4 then 4 else 16) → σ' (t + a) i = σ (s + a) i) ∧ (∀ c, (c < t ∨ t + 9 < c) → σ' c = σ c)
theorem s_become_42_62 {σ : gM} {Q : gM → Prop} (h01 : σ 62 0 = nI 0 ∨ σ 62 0 = nI 1) (hQ : ∀ σ', pBec 62 42 σ σ' → Q σ') : wK42_become_62 σ Q := by
  unfold wK42_become_62
  refine ⟨h01, ?_⟩
  simp only [forall_eq]
  refine hQ _ ⟨fun j hj => ?_, fun a ha1 ha9 i hi => ?_, fun c hc => ?_⟩
  · have : j = 0 ∨ j = 1 ∨ j = 2 ∨ j = 3 ∨ j = 4 ∨ j = 5 := by omega
    rcases this with rfl | rfl | rfl | rfl | rfl | rfl <;> simp (disch := first | assumption | omega | decide) only [gCp_ne, gU_ne, gU_eq, gU_off]
  · have : a = 1 ∨ a = 2 ∨ a = 3 ∨ a = 4 ∨ a = 5 ∨ a = 6 ∨ a = 7 ∨ a = 8 ∨ a = 9 := by omega
    rcases this with rfl | rfl | rfl | rfl | rfl | rfl | rfl | rfl | rfl <;> simp only [Nat.reduceLeDiff, if_true, if_false] at hi <;> simp (disch := first | assumption | omega | decide) only [Nat.reduceAdd, gCp_ne, gCp_in, gU_ne, Nat.sub_zero, Nat.zero_add]
  · simp (disch := first | assumption | omega | decide) only [gCp_ne, gU_ne]
theorem s_become_42_72 {σ : gM} {Q : gM → Prop} (h01 : σ 72 0 = nI 0 ∨ σ 72 0 = nI 1) (hQ : ∀ σ', pBec 72 42 σ σ' → Q σ') : wK42_become_72 σ Q := by
  unfold wK42_become_72
  refine ⟨h01, ?_⟩
  simp only [forall_eq]
  refine hQ _ ⟨fun j hj => ?_, fun a ha1 ha9 i hi => ?_, fun c hc => ?_⟩
  · have : j = 0 ∨ j = 1 ∨ j = 2 ∨ j = 3 ∨ j = 4 ∨ j = 5 := by omega
    rcases this with rfl | rfl | rfl | rfl | rfl | rfl <;> simp (disch := first | assumption | omega | decide) only [gCp_ne, gU_ne, gU_eq, gU_off]
  · have : a = 1 ∨ a = 2 ∨ a = 3 ∨ a = 4 ∨ a = 5 ∨ a = 6 ∨ a = 7 ∨ a = 8 ∨ a = 9 := by omega
    rcases this with rfl | rfl | rfl | rfl | rfl | rfl | rfl | rfl | rfl <;> simp only [Nat.reduceLeDiff, if_true, if_false] at hi <;> simp (disch := first | assumption | omega | decide) only [Nat.reduceAdd, gCp_ne, gCp_in, gU_ne, Nat.sub_zero, Nat.zero_add]
  · simp (disch := first | assumption | omega | decide) only [gCp_ne, gU_ne]
theorem s_become_62_42 {σ : gM} {Q : gM → Prop} (h01 : σ 42 0 = nI 0 ∨ σ 42 0 = nI 1) (hQ : ∀ σ', pBec 42 62 σ σ' → Q σ') : wK62_become_42 σ Q := by
  unfold wK62_become_42
  refine ⟨h01, ?_⟩
  simp only [forall_eq]
  refine hQ _ ⟨fun j hj => ?_, fun a ha1 ha9 i hi => ?_, fun c hc => ?_⟩
  · have : j = 0 ∨ j = 1 ∨ j = 2 ∨ j = 3 ∨ j = 4 ∨ j = 5 := by omega
    rcases this with rfl | rfl | rfl | rfl | rfl | rfl <;> simp (disch := first | assumption | omega | decide) only [gCp_ne, gU_ne, gU_eq, gU_off]
  · have : a = 1 ∨ a = 2 ∨ a = 3 ∨ a = 4 ∨ a = 5 ∨ a = 6 ∨ a = 7 ∨ a = 8 ∨ a = 9 := by omega
    rcases this with rfl | rfl | rfl | rfl | rfl | rfl | rfl | rfl | rfl <;> simp only [Nat.reduceLeDiff, if_true, if_false] at hi <;> simp (disch := first | assumption | omega | decide) only [Nat.reduceAdd, gCp_ne, gCp_in, gU_ne, Nat.sub_zero, Nat.zero_add]
  · simp (disch := first | assumption | omega | decide) only [gCp_ne, gU_ne]
theorem s_become_72_42 {σ : gM} {Q : gM → Prop} (h01 : σ 42 0 = nI 0 ∨ σ 42 0 = nI 1) (hQ : ∀ σ', pBec 42 72 σ σ' → Q σ') : wK72_become_42 σ Q := by
  unfold wK72_become_42
  refine ⟨h01, ?_⟩
  simp only [forall_eq]
  refine hQ _ ⟨fun j hj => ?_, fun a ha1 ha9 i hi => ?_, fun c hc => ?_⟩
  · have : j = 0 ∨ j = 1 ∨ j = 2 ∨ j = 3 ∨ j = 4 ∨ j = 5 := by omega
    rcases this with rfl | rfl | rfl | rfl | rfl | rfl <;> simp (disch := first | assumption | omega | decide) only [gCp_ne, gU_ne, gU_eq, gU_off]
  · have : a = 1 ∨ a = 2 ∨ a = 3 ∨ a = 4 ∨ a = 5 ∨ a = 6 ∨ a = 7 ∨ a = 8 ∨ a = 9 := by omega
    rcases this with rfl | rfl | rfl | rfl | rfl | rfl | rfl | rfl | rfl <;> simp only [Nat.reduceLeDiff, if_true, if_false] at hi <;> simp (disch := first | assumption | omega | decide) only [Nat.reduceAdd, gCp_ne, gCp_in, gU_ne, Nat.sub_zero, Nat.zero_add]
  · simp (disch := first | assumption | omega | decide) only [gCp_ne, gU_ne]
theorem s_become_42_52 {σ : gM} {Q : gM → Prop} (h01 : σ 52 0 = nI 0 ∨ σ 52 0 = nI 1) (hQ : ∀ σ', pBec 52 42 σ σ' → Q σ') : wK42_become_52 σ Q := by
  unfold wK42_become_52
  refine ⟨h01, ?_⟩
  simp only [forall_eq]
  refine hQ _ ⟨fun j hj => ?_, fun a ha1 ha9 i hi => ?_, fun c hc => ?_⟩
  · have : j = 0 ∨ j = 1 ∨ j = 2 ∨ j = 3 ∨ j = 4 ∨ j = 5 := by omega
    rcases this with rfl | rfl | rfl | rfl | rfl | rfl <;> simp (disch := first | assumption | omega | decide) only [gCp_ne, gU_ne, gU_eq, gU_off]
  · have : a = 1 ∨ a = 2 ∨ a = 3 ∨ a = 4 ∨ a = 5 ∨ a = 6 ∨ a = 7 ∨ a = 8 ∨ a = 9 := by omega
    rcases this with rfl | rfl | rfl | rfl | rfl | rfl | rfl | rfl | rfl <;> simp only [Nat.reduceLeDiff, if_true, if_false] at hi <;> simp (disch := first | assumption | omega | decide) only [Nat.reduceAdd, gCp_ne, gCp_in, gU_ne, Nat.sub_zero, Nat.zero_add]
  · simp (disch := first | assumption | omega | decide) only [gCp_ne, gU_ne]
theorem pBec_mk {s t : Nat} {σ σ' : gM} {N : Nat → Int32} {nb nw nl : Nat} (hb : nb ≤ 4) (hw : nw ≤ 16) (hl : nl ≤ 16) (h : pBec s t σ σ') (hM : pMk σ s N nb nw nl) : pMk σ' t N nb nw nl := by
  obtain ⟨e1, e2, -⟩ := h
  obtain ⟨h1, h2, h3, h4, h5, h6, h7, h8⟩ := hM
  refine ⟨by rw [e1 _ (by omega)]; exact h1, by rw [e1 _ (by omega)]; exact h2, by rw [e1 _ (by omega)]; exact h3, by rw [e1 _ (by omega)]; exact h4, by rw [e1 _ (by omega)]; exact h5, fun i hi => ?_, fun w hi => ?_, fun i hi => ?_⟩
  · rw [e2 1 (by omega) (by omega) i (by simp; omega), e2 2 (by omega) (by omega) i (by simp; omega), e2 3 (by omega) (by omega) i (by simp; omega), e2 4 (by omega) (by omega) i (by simp; omega)]; exact h6 i hi
  · rw [e2 5 (by omega) (by omega) w (by simp; omega), e2 6 (by omega) (by omega) w (by simp; omega), e2 7 (by omega) (by omega) w (by simp; omega), e2 8 (by omega) (by omega) w (by simp; omega)]; exact h7 w hi
  · rw [e2 9 (by omega) (by omega) i (by simp; omega)]; exact h8 i hi
theorem pImg_fr2 {k j : Nat} {σ σ' : gM} (h1 : ∀ a, 62 + 10 * j ≤ a → a ≤ 71 + 10 * j → σ' a = σ a) (h2 : ∀ i, i < 102 → σ' 90 (102 * j + i) = σ 90 (102 * j + i)) (h3 : σ' 91 j = σ 91 j) (h : pImg k j σ) : pImg k j σ' := by
  unfold pImg at h ⊢
  rw [h3, h1 (62 + 10 * j) (by omega) (by omega)]
  rcases h with h | ⟨a1, a2, a3, nb, nw, nl, hp, a4, a5⟩
  · exact Or.inl h
  · have e : pEq (fun i => σ 90 (102 * j + i)) (fun i => σ' 90 (102 * j + i)) := fun i hi => h2 i hi
    have b1 := a5.2.2.2.1
    have b2 := a5.2.2.2.2.1
    have b3 := a5.2.2.2.2.2.1
    exact Or.inr ⟨a1, a2, (h2 0 (by omega)).trans a3, nb, nw, nl, hp, pMk_eq b1 b2 (by omega) e (pMk_fr (fun i _ _ => by rw [h1 (62 + 10 * j) (by omega) (by omega)]) (fun a c1 c2 => h1 a (by omega) (by omega)) a4), pWF_eq e a5⟩
theorem s_M_image {x : Nat} (hx : x < 2) {σ0 : gM} {Q : Int32 → gM → Prop} (hQ : ∀ σ', (∀ c, c ≠ 90 → c ≠ 91 → σ' c = σ0 c) → (∀ i, i < 102 → σ' 90 (102 * x + i) = σ0 89 i) → (∀ p, (p < 102 * x ∨ 102 * x + 102 ≤ p) → σ' 90 p = σ0 90 p) → σ' 91 x = nI 1 → (∀ p, p ≠ x → σ' 91 p = σ0 91 p) → Q (nI 1) σ') : ∀ (m i : Nat) (σ : gM), i + m = 102 → (∀ c, c ≠ 90 → σ c = σ0 c) → (∀ j, j < i → σ 90 (102 * x + j) = σ0 89 j) → (∀ p, (p < 102 * x ∨ 102 * x + 102 ≤ p) → σ 90 p = σ0 90 p) → wM_image_l26 Q (m + 1) (nI x) (nI i) σ := by
  intro m
  induction m with
  | zero =>
    intro i σ hi hF h1 h2
    have : i = 102 := by omega
    subst this
    have e : vp_nar .boolean (nI 1) = nI 1 := rfl
    rw [wM_image_l26]
    simp (disch := first | assumption | omega | decide) only [li0, li1, li2, li3, li4, li5, li6, li7, li8, li9, li10, li11, li12, li13, li14, li16, li17, li20, li21, li22, li23, li24, li30, li32, li40, li48, li57, li59, li63, li86, li97, li99, li100, li102, li115, li122, li200, li255, li289, li320, li400, li720, li999, li1000, nI_add, pk_mul, nI_sub, nI_clamp, vinT, Nat.le_refl, Nat.reduceLeDiff, Nat.reduceLT, Nat.reduceEqDiff, Nat.reduceAdd, Nat.reduceMul, Nat.reduceSub, forall_eq, true_and, and_true, not_true_eq_false, not_false_eq_true, false_implies, true_implies, implies_true, if_true, if_false, ite_self, nI_eqI, nI_leI2, nI_ltI2, e]
    refine hQ _ (fun c c1 c2 => by rw [gU_ne c2]; exact hF c c1) (fun j hj => by rw [gU_ne (by decide)]; exact h1 j hj) (fun p hp => by rw [gU_ne (by decide)]; exact h2 p hp) gU_eq (fun p hp => by rw [gU_off hp, hF 91 (by decide)])
  | succ m ih =>
    intro i σ hi hF h1 h2
    have q : ¬ 102 ≤ i := by omega
    rw [wM_image_l26]
    simp (disch := first | assumption | omega | decide) only [li0, li1, li2, li3, li4, li5, li6, li7, li8, li9, li10, li11, li12, li13, li14, li16, li17, li20, li21, li22, li23, li24, li30, li32, li40, li48, li57, li59, li63, li86, li97, li99, li100, li102, li115, li122, li200, li255, li289, li320, li400, li720, li999, li1000, nI_add, pk_mul, nI_sub, nI_clamp, vinT, Nat.le_refl, Nat.reduceLeDiff, Nat.reduceLT, Nat.reduceEqDiff, Nat.reduceAdd, Nat.reduceMul, Nat.reduceSub, forall_eq, true_and, and_true, not_true_eq_false, not_false_eq_true, false_implies, true_implies, implies_true, if_true, if_false, ite_self, nI_eqI, nI_leI2, nI_ltI2, q]
    refine ih (i + 1) _ (by omega) (fun c c1 => by rw [gU_ne c1]; exact hF c c1) (fun j hj => ?_) (fun p hp => by rw [gU_off (by omega)]; exact h2 p hp)
    by_cases e : j = i
    · subst e; rw [gU_eq, hF 89 (by decide)]
    · rw [gU_off (by omega)]; exact h1 j (by omega)
theorem s_M_restore {x : Nat} (hx : x < 2) {σ0 : gM} {Q : Int32 → gM → Prop} (hQ : ∀ σ', (∀ c, c ≠ 89 → c ≠ 82 → σ' c = σ0 c) → (∀ i, i < 102 → σ' 89 i = σ0 90 (102 * x + i)) → σ' 82 20 = nI 0 → (∀ p, p ≠ 20 → σ' 82 p = σ0 82 p) → Q (nI 1) σ') : ∀ (m i : Nat) (σ : gM), i + m = 102 → (∀ c, c ≠ 89 → σ c = σ0 c) → (∀ j, j < i → σ 89 j = σ0 90 (102 * x + j)) → wM_restore_l26 Q (m + 1) (nI x) (nI i) σ := by
  intro m
  induction m with
  | zero =>
    intro i σ hi hF h1
    have : i = 102 := by omega
    subst this
    rw [wM_restore_l26]
    simp (disch := first | assumption | omega | decide) only [li0, li1, li2, li3, li4, li5, li6, li7, li8, li9, li10, li11, li12, li13, li14, li16, li17, li20, li21, li22, li23, li24, li30, li32, li40, li48, li57, li59, li63, li86, li97, li99, li100, li102, li115, li122, li200, li255, li289, li320, li400, li720, li999, li1000, nI_add, pk_mul, nI_sub, nI_clamp, vinT, Nat.le_refl, Nat.reduceLeDiff, Nat.reduceLT, Nat.reduceEqDiff, Nat.reduceAdd, Nat.reduceMul, Nat.reduceSub, forall_eq, true_and, and_true, not_true_eq_false, not_false_eq_true, false_implies, true_implies, implies_true, if_true, if_false, ite_self, nI_eqI, nI_leI2, nI_ltI2]
    exact hQ _ (fun c c1 c2 => by rw [gU_ne c2]; exact hF c c1) (fun j hj => by rw [gU_ne (by decide)]; exact h1 j hj) gU_eq (fun p hp => by rw [gU_off hp, hF 82 (by decide)])
  | succ m ih =>
    intro i σ hi hF h1
    have q : ¬ 102 ≤ i := by omega
    rw [wM_restore_l26]
    simp (disch := first | assumption | omega | decide) only [li0, li1, li2, li3, li4, li5, li6, li7, li8, li9, li10, li11, li12, li13, li14, li16, li17, li20, li21, li22, li23, li24, li30, li32, li40, li48, li57, li59, li63, li86, li97, li99, li100, li102, li115, li122, li200, li255, li289, li320, li400, li720, li999, li1000, nI_add, pk_mul, nI_sub, nI_clamp, vinT, Nat.le_refl, Nat.reduceLeDiff, Nat.reduceLT, Nat.reduceEqDiff, Nat.reduceAdd, Nat.reduceMul, Nat.reduceSub, forall_eq, true_and, and_true, not_true_eq_false, not_false_eq_true, false_implies, true_implies, implies_true, if_true, if_false, ite_self, nI_eqI, nI_leI2, nI_ltI2, q]
    refine ih (i + 1) _ (by omega) (fun c c1 => by rw [gU_ne c1]; exact hF c c1) (fun j hj => ?_)
    by_cases e : j = i
    · subst e; rw [gU_eq, hF 90 (by decide)]
    · rw [gU_off e]; exact h1 j (by omega)
