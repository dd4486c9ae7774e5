/-! HARVEST: one buyer takes all -/
def hvS (V : Nat → Nat → Int32) (d i len : Nat) (fL fR : Int32 × Nat) : Int32 × Nat := if V (i + len) d + fR.1 ≤ V i d + fL.1 then (V i d + fL.1, fL.2 * 2) else (V (i + len) d + fR.1, fR.2 * 2 + 1)
def hv (V : Nat → Nat → Int32) (n : Nat) : Nat → Nat → Int32 × Nat
  | 0, _ => (nI 0, 0)
  | len + 1, i => hvS V (n - (len + 1)) i len (hv V n len (i + 1)) (hv V n len i)
theorem hv_lt {V : Nat → Nat → Int32} {n : Nat} : ∀ len i, (hv V n len i).2 < 2 ^ len
  | 0, i => by simp [hv]
  | len + 1, i => by
    have a := hv_lt (V := V) (n := n) len (i + 1)
    have b := hv_lt (V := V) (n := n) len i
    rw [hv, Nat.pow_succ]
    unfold hvS
    split
    · show (hv V n len (i + 1)).2 * 2 < _; omega
    · show (hv V n len i).2 * 2 + 1 < _; omega
section Fill
variable {v : Int32} {Q : gM → Prop}
theorem s_fill_36 : ∀ (m i : Nat) (σ σ0 : gM), i + m = 17 → σ = gFn σ0 36 0 i (fun _ => v) → Q (gFn σ0 36 0 17 (fun _ => v)) → wJA_fill_36_l5 Q (m + 1) v (nI i) (nI 17) σ := by
  intro m
  induction m with
  | zero =>
    intro i σ σ0 hi hσ h
    have : i = 17 := by omega
    subst this
    subst hσ
    simp (disch := first | assumption | omega | decide) only [wJA_fill_36_l5, li0, li1, li2, li3, li4, li5, li6, li7, li8, li9, li10, li11, li12, li13, li14, li16, li17, li20, li21, li22, li23, li24, li30, li32, li40, li48, li57, li59, li63, li86, li97, li99, li100, li102, li115, li122, li200, li255, li289, li320, li400, li720, li999, li1000, nI_add, pk_mul, nI_sub, nI_clamp, vinT, Nat.le_refl, Nat.reduceLeDiff, Nat.reduceLT, Nat.reduceEqDiff, Nat.reduceAdd, Nat.reduceMul, Nat.reduceSub, forall_eq, true_and, and_true, not_true_eq_false, not_false_eq_true, false_implies, true_implies, implies_true, if_true, if_false, ite_self, nI_eqI, nI_leI2, nI_ltI2]
    exact h
  | succ m ih =>
    intro i σ σ0 hi hσ h
    have h1 : ¬ 17 ≤ i := by omega
    rw [wJA_fill_36_l5]
    simp (disch := first | assumption | omega | decide) only [li0, li1, li2, li3, li4, li5, li6, li7, li8, li9, li10, li11, li12, li13, li14, li16, li17, li20, li21, li22, li23, li24, li30, li32, li40, li48, li57, li59, li63, li86, li97, li99, li100, li102, li115, li122, li200, li255, li289, li320, li400, li720, li999, li1000, nI_add, pk_mul, nI_sub, nI_clamp, vinT, Nat.le_refl, Nat.reduceLeDiff, Nat.reduceLT, Nat.reduceEqDiff, Nat.reduceAdd, Nat.reduceMul, Nat.reduceSub, forall_eq, true_and, and_true, not_true_eq_false, not_false_eq_true, false_implies, true_implies, implies_true, if_true, if_false, ite_self, nI_eqI, nI_leI2, nI_ltI2, h1]
    refine ih (i + 1) _ σ0 (by omega) ?_ h
    rw [hσ, ← gFn_succ, Nat.zero_add]
theorem s_fill_37 : ∀ (m i : Nat) (σ σ0 : gM), i + m = 17 → σ = gFn σ0 37 0 i (fun _ => v) → Q (gFn σ0 37 0 17 (fun _ => v)) → wJA_fill_37_l5 Q (m + 1) v (nI i) (nI 17) σ := by
  intro m
  induction m with
  | zero =>
    intro i σ σ0 hi hσ h
    have : i = 17 := by omega
    subst this
    subst hσ
    simp (disch := first | assumption | omega | decide) only [wJA_fill_37_l5, li0, li1, li2, li3, li4, li5, li6, li7, li8, li9, li10, li11, li12, li13, li14, li16, li17, li20, li21, li22, li23, li24, li30, li32, li40, li48, li57, li59, li63, li86, li97, li99, li100, li102, li115, li122, li200, li255, li289, li320, li400, li720, li999, li1000, nI_add, pk_mul, nI_sub, nI_clamp, vinT, Nat.le_refl, Nat.reduceLeDiff, Nat.reduceLT, Nat.reduceEqDiff, Nat.reduceAdd, Nat.reduceMul, Nat.reduceSub, forall_eq, true_and, and_true, not_true_eq_false, not_false_eq_true, false_implies, true_implies, implies_true, if_true, if_false, ite_self, nI_eqI, nI_leI2, nI_ltI2]
    exact h
  | succ m ih =>
    intro i σ σ0 hi hσ h
    have h1 : ¬ 17 ≤ i := by omega
    rw [wJA_fill_37_l5]
    simp (disch := first | assumption | omega | decide) only [li0, li1, li2, li3, li4, li5, li6, li7, li8, li9, li10, li11, li12, li13, li14, li16, li17, li20, li21, li22, li23, li24, li30, li32, li40, li48, li57, li59, li63, li86, li97, li99, li100, li102, li115, li122, li200, li255, li289, li320, li400, li720, li999, li1000, nI_add, pk_mul, nI_sub, nI_clamp, vinT, Nat.le_refl, Nat.reduceLeDiff, Nat.reduceLT, Nat.reduceEqDiff, Nat.reduceAdd, Nat.reduceMul, Nat.reduceSub, forall_eq, true_and, and_true, not_true_eq_false, not_false_eq_true, false_implies, true_implies, implies_true, if_true, if_false, ite_self, nI_eqI, nI_leI2, nI_ltI2, h1]
    refine ih (i + 1) _ σ0 (by omega) ?_ h
    rw [hσ, ← gFn_succ, Nat.zero_add]
end Fill
def pFH (σ0 σ : gM) : Prop := ∀ a, a ≠ 36 → a ≠ 37 → σ a = σ0 a
section HarvH
variable {k nb nw nl b : Nat} {N : Nat → Int32} {hp : Nat → Nat} {σ0 : gM} {Q : gM → Prop}
theorem s_hv_in (hM : pMk σ0 42 N nb nw nl) (hW : pWF k N nb nw nl hp) (hb : b < nb) {c : Nat} (hc : c < nl) {K : Int32 → Int32 → gM → Prop} : ∀ (m i : Nat) (σ : gM), i + m = nl - c → pFH σ0 σ → (∀ j, j < i → σ 36 j = (hv (fun j d => pVT N b (hp j) (nI d)) nl (c + 1) j).1 ∧ σ 37 j = nI (hv (fun j d => pVT N b (hp j) (nI d)) nl (c + 1) j).2) → (∀ j, i ≤ j → j + c ≤ nl → σ 36 j = (hv (fun j d => pVT N b (hp j) (nI d)) nl c j).1 ∧ σ 37 j = nI (hv (fun j d => pVT N b (hp j) (nI d)) nl c j).2) →
    (∀ σ', pFH σ0 σ' → (∀ j, j + (c + 1) ≤ nl → σ' 36 j = (hv (fun j d => pVT N b (hp j) (nI d)) nl (c + 1) j).1 ∧ σ' 37 j = nI (hv (fun j d => pVT N b (hp j) (nI d)) nl (c + 1) j).2) → K (nI b) (nI (c + 1 + 1)) σ') → wS_harvestFor_l37 Q K (m + 1) (nI b) (nI (c + 1)) (nI (nl - (c + 1))) (nI i) σ := by
  have hn : nw ≤ 16 := hW.2.2.2.2.1
  have hl : nl ≤ nw := hW.2.2.2.2.2.1
  have hnb : nb ≤ 4 := hW.2.2.2.1
  intro m
  induction m with
  | zero =>
    intro i σ hi hF h1 h2 hK
    rw [wS_harvestFor_l37]
    have e4 : σ 42 5 = nI nl := by rw [hF 42 (by omega) (by omega)]; exact hM.2.2.2.2.1
    have q : nl < i + (c + 1) := by omega
    simp (disch := first | assumption | omega | decide) only [li0, li1, li2, li3, li4, li5, li6, li7, li8, li9, li10, li11, li12, li13, li14, li16, li17, li20, li21, li22, li23, li24, li30, li32, li40, li48, li57, li59, li63, li86, li97, li99, li100, li102, li115, li122, li200, li255, li289, li320, li400, li720, li999, li1000, nI_add, pk_mul, nI_sub, nI_clamp, vinT, Nat.le_refl, Nat.reduceLeDiff, Nat.reduceLT, Nat.reduceEqDiff, Nat.reduceAdd, Nat.reduceMul, Nat.reduceSub, forall_eq, true_and, and_true, not_true_eq_false, not_false_eq_true, false_implies, true_implies, implies_true, if_true, if_false, ite_self, nI_eqI, nI_leI2, nI_ltI2, e4, q]
    exact hK σ hF (fun j hj => h1 j (by omega))
  | succ m ih =>
    intro i σ hi hF h1 h2 hK
    have e4 : σ 42 5 = nI nl := by rw [hF 42 (by omega) (by omega)]; exact hM.2.2.2.2.1
    have q : ¬ nl < i + (c + 1) := by omega
    have hMf : pMk σ 42 N nb nw nl := pMk_fr (fun j _ _ => by rw [hF 42 (by omega) (by omega)]) (fun c c1 c2 => hF c (by omega) (by omega)) hM
    have eh : ∀ j, j < nl → σ 51 j = nI (hp j) := fun j hj => (hMf.2.2.2.2.2.2.2 j hj).trans (hW.2.2.2.2.2.2.2.2.1 j hj).2.1
    have w0 : hp i < nw := (hW.2.2.2.2.2.2.2.2.1 i (by omega)).1
    have w1 : hp (i + c) < nw := (hW.2.2.2.2.2.2.2.2.1 (i + c) (by omega)).1
    have e1 : i + (c + 1) - 1 = i + c := by omega
    obtain ⟨l1, l2⟩ := h2 i (Nat.le_refl _) (by omega)
    obtain ⟨r1, r2⟩ := h2 (i + 1) (by omega) (by omega)
    have b1 := hv_lt (V := fun j d => pVT N b (hp j) (nI d)) (n := nl) c i
    have b2 := hv_lt (V := fun j d => pVT N b (hp j) (nI d)) (n := nl) c (i + 1)
    have bc : (2 : Nat) ^ c < 2 ^ 16 := Nat.pow_lt_pow_right (by omega) (by omega)
    rw [wS_harvestFor_l37]
    simp (disch := first | assumption | omega | decide) only [nI_add, nI_sub, nI_ltI2, e4, q, e1, vinT, nI_clamp, eh, eK_valueTo hMf hW hb w0, eK_valueTo hMf hW hb w1, l1, l2, r1, r2, Nat.le_refl, Nat.reduceLeDiff, Nat.reduceLT, Nat.reduceEqDiff, Nat.reduceAdd, Nat.reduceMul, Nat.reduceSub, forall_eq, true_and, and_true, not_true_eq_false, not_false_eq_true, false_implies, true_implies, implies_true, if_true, if_false, ite_self]
    have sl : nI (hv (fun j d => pVT N b (hp j) (nI d)) nl c (i + 1)).2 <<< (nI 1 &&& 31) = nI ((hv (fun j d => pVT N b (hp j) (nI d)) nl c (i + 1)).2 * 2) := by
      rw [sh_l (by omega) (by omega)]
    have sr : nI (hv (fun j d => pVT N b (hp j) (nI d)) nl c i).2 <<< (nI 1 &&& 31) = nI ((hv (fun j d => pVT N b (hp j) (nI d)) nl c i).2 * 2) := by
      rw [sh_l (by omega) (by omega)]
    rw [sl, sr, or_0, nI_or, or_1]
    have hs : hv (fun j d => pVT N b (hp j) (nI d)) nl (c + 1) i = hvS (fun j d => pVT N b (hp j) (nI d)) (nl - (c + 1)) i c (hv (fun j d => pVT N b (hp j) (nI d)) nl c (i + 1)) (hv (fun j d => pVT N b (hp j) (nI d)) nl c i) := rfl
    have fin : ∀ σ', pFH σ0 σ' → (∀ j, j ≠ i → σ' 36 j = σ 36 j ∧ σ' 37 j = σ 37 j) → (σ' 36 i = (hv (fun j d => pVT N b (hp j) (nI d)) nl (c + 1) i).1 ∧ σ' 37 i = nI (hv (fun j d => pVT N b (hp j) (nI d)) nl (c + 1) i).2) → wS_harvestFor_l37 Q K (m + 1) (nI b) (nI (c + 1)) (nI (nl - (c + 1))) (nI (i + 1)) σ' := by
      intro σ' g1 g2 g3
      refine ih (i + 1) σ' (by omega) g1 (fun j hj => ?_) (fun j hj hj2 => ?_) hK
      · by_cases e : j = i
        · subst e; exact g3
        · rw [(g2 j e).1, (g2 j e).2]; exact h1 j (by omega)
      · rw [(g2 j (by omega)).1, (g2 j (by omega)).2]; exact h2 j (by omega) hj2
    rw [hs] at fin
    unfold hvS at fin
    by_cases hc2 : pVT N b (hp (i + c)) (nI (nl - (c + 1))) + (hv (fun j d => pVT N b (hp j) (nI d)) nl c i).1 ≤ pVT N b (hp i) (nI (nl - (c + 1))) + (hv (fun j d => pVT N b (hp j) (nI d)) nl c (i + 1)).1
    · have hc3 := nlt_of_le hc2
      rw [if_pos hc2] at fin
      simp (disch := first | assumption | omega | decide) only [Nat.le_refl, Nat.reduceLeDiff, Nat.reduceLT, Nat.reduceEqDiff, Nat.reduceAdd, Nat.reduceMul, Nat.reduceSub, forall_eq, true_and, and_true, not_true_eq_false, not_false_eq_true, false_implies, true_implies, implies_true, if_true, if_false, ite_self, hc2, hc3]
      refine fin _ (fun a a1 a2 => by rw [gU_ne a1, gU_ne a2]; exact hF a a1 a2) (fun j hj => ?_) ?_
      · simp (disch := first | assumption | omega | decide) only [gU_ne, gU_off, and_self]
      · simp (disch := first | assumption | omega | decide) only [gU_ne, gU_eq, and_self]
    · have hc3 := i_nle.mp hc2
      rw [if_neg hc2] at fin
      simp (disch := first | assumption | omega | decide) only [Nat.le_refl, Nat.reduceLeDiff, Nat.reduceLT, Nat.reduceEqDiff, Nat.reduceAdd, Nat.reduceMul, Nat.reduceSub, forall_eq, true_and, and_true, not_true_eq_false, not_false_eq_true, false_implies, true_implies, implies_true, if_true, if_false, ite_self, hc2, hc3]
      refine fin _ (fun a a1 a2 => by rw [gU_ne a1, gU_ne a2]; exact hF a a1 a2) (fun j hj => ?_) ?_
      · simp (disch := first | assumption | omega | decide) only [gU_ne, gU_off, and_self]
      · simp (disch := first | assumption | omega | decide) only [gU_ne, gU_eq, and_self]
theorem s_hv_out (hM : pMk σ0 42 N nb nw nl) (hW : pWF k N nb nw nl hp) (hb : b < nb) : ∀ (m c : Nat) (σ : gM), c + m = nl → pFH σ0 σ → (∀ j, j + c ≤ nl → σ 36 j = (hv (fun j d => pVT N b (hp j) (nI d)) nl c j).1 ∧ σ 37 j = nI (hv (fun j d => pVT N b (hp j) (nI d)) nl c j).2) →
    (∀ σ', pFH σ0 σ' → σ' 36 0 = (hv (fun j d => pVT N b (hp j) (nI d)) nl nl 0).1 → σ' 37 0 = nI (hv (fun j d => pVT N b (hp j) (nI d)) nl nl 0).2 → Q σ') → wS_harvestFor_l18 Q (m + 1) (nI b) (nI (c + 1)) σ := by
  have hn : nw ≤ 16 := hW.2.2.2.2.1
  have hl : nl ≤ nw := hW.2.2.2.2.2.1
  intro m
  induction m with
  | zero =>
    intro c σ hi hF h1 hQ
    rw [wS_harvestFor_l18]
    have e4 : σ 42 5 = nI nl := by rw [hF 42 (by omega) (by omega)]; exact hM.2.2.2.2.1
    have q : nl < c + 1 := by omega
    simp (disch := first | assumption | omega | decide) only [li0, li1, li2, li3, li4, li5, li6, li7, li8, li9, li10, li11, li12, li13, li14, li16, li17, li20, li21, li22, li23, li24, li30, li32, li40, li48, li57, li59, li63, li86, li97, li99, li100, li102, li115, li122, li200, li255, li289, li320, li400, li720, li999, li1000, nI_add, pk_mul, nI_sub, nI_clamp, vinT, Nat.le_refl, Nat.reduceLeDiff, Nat.reduceLT, Nat.reduceEqDiff, Nat.reduceAdd, Nat.reduceMul, Nat.reduceSub, forall_eq, true_and, and_true, not_true_eq_false, not_false_eq_true, false_implies, true_implies, implies_true, if_true, if_false, ite_self, nI_eqI, nI_leI2, nI_ltI2, e4, q]
    have hcn : c = nl := by omega
    subst hcn
    exact hQ σ hF (h1 0 (by omega)).1 (h1 0 (by omega)).2
  | succ m ih =>
    intro c σ hi hF h1 hQ
    rw [wS_harvestFor_l18]
    have e4 : σ 42 5 = nI nl := by rw [hF 42 (by omega) (by omega)]; exact hM.2.2.2.2.1
    have q : ¬ nl < c + 1 := by omega
    simp (disch := first | assumption | omega | decide) only [li0, li1, li2, li3, li4, li5, li6, li7, li8, li9, li10, li11, li12, li13, li14, li16, li17, li20, li21, li22, li23, li24, li30, li32, li40, li48, li57, li59, li63, li86, li97, li99, li100, li102, li115, li122, li200, li255, li289, li320, li400, li720, li999, li1000, nI_add, pk_mul, nI_sub, nI_clamp, vinT, Nat.le_refl, Nat.reduceLeDiff, Nat.reduceLT, Nat.reduceEqDiff, Nat.reduceAdd, Nat.reduceMul, Nat.reduceSub, forall_eq, true_and, and_true, not_true_eq_false, not_false_eq_true, false_implies, true_implies, implies_true, if_true, if_false, ite_self, nI_eqI, nI_leI2, nI_ltI2, e4, q]
    exact ⟨nl - c + 1, s_hv_in hM hW hb (c := c) (by omega) (nl - c) 0 σ (by omega) hF (fun j hj => absurd hj (by omega)) (fun j _ hj => h1 j hj) (fun σ' f1 f2 => ih (c + 1) σ' (by omega) f1 f2 hQ)⟩
theorem s_harvestFor (hM : pMk σ0 42 N nb nw nl) (hW : pWF k N nb nw nl hp) (hb : b < nb) (hQ : ∀ σ', pFH σ0 σ' → σ' 36 0 = (hv (fun j d => pVT N b (hp j) (nI d)) nl nl 0).1 → σ' 37 0 = nI (hv (fun j d => pVT N b (hp j) (nI d)) nl nl 0).2 → Q σ') : wS_harvestFor (nI b) σ0 Q := by
  have hn : nw ≤ 16 := hW.2.2.2.2.1
  have hl : nl ≤ nw := hW.2.2.2.2.2.1
  unfold wS_harvestFor wJA_fill_36 wJA_fill_37
  refine ⟨18, s_fill_36 17 0 _ σ0 (by omega) (gFn_0 _ _ _ _).symm ⟨18, s_fill_37 17 0 _ _ (by omega) (gFn_0 _ _ _ _).symm ⟨nl + 1, ?_⟩⟩⟩
  refine s_hv_out hM hW hb nl 0 _ (by omega) (fun a a1 a2 => by rw [gFn_ne a2, gFn_ne a1]) (fun j hj => ?_) hQ
  rw [gFn_ne (by decide), gFn_in (by omega) (by omega), gFn_in (by omega) (by omega)]
  exact ⟨rfl, rfl⟩
end HarvH
