section HarvM
variable {k nb nw n b : Nat} {N : Nat → Int32} {hp : Nat → Nat} {σ0 : gM} {Q : Int32 → gM → Prop} {x2 : Int32}
/-- the flag of a place: which end goes first there -/
def hvF (V : Nat → Nat → Int32) (n len i : Nat) : Int32 := match len with
  | 0 => nI 0
  | len + 1 => if V (i + len) (n - (len + 1)) + (hv V n len i).1 ≤ V i (n - (len + 1)) + (hv V n len (i + 1)).1 then nI 0 else nI 1
def pTabH (V : Nat → Nat → Int32) (n : Nat) (σ : gM) (g : Nat) : Prop := ∀ g', g ≤ g' → g' ≤ n → ∀ l, l ≤ g' → σ 95 (17 * l + (g' - l)) = (hv V n (n - g') l).1 ∧ σ 96 (17 * l + (g' - l)) = hvF V n (n - g') l
theorem s_H_row (hn : n ≤ 16) (hN : σ0 89 = N) (hW : pWF k N nb nw n hp) (hb : b < nb) {K26 : Int32 → Int32 → Int32 → Int32 → gM → Prop} {gone : Nat} (hg : gone ≤ n) : ∀ (m l : Nat) (σ : gM), l + m = gone + 1 → pFM σ0 σ → pTabH (fun j d => pVT N b (hp j) (nI d)) n σ (gone + 1) → (∀ l', l' < l → σ 95 (17 * l' + (gone - l')) = (hv (fun j d => pVT N b (hp j) (nI d)) n (n - gone) l').1 ∧ σ 96 (17 * l' + (gone - l')) = hvF (fun j d => pVT N b (hp j) (nI d)) n (n - gone) l') →
    (∀ σ', pFM σ0 σ' → pTabH (fun j d => pVT N b (hp j) (nI d)) n σ' gone → K26 (nI b) x2 (nI n) (nI gone - nI 1) σ') → wM_harvest_l34 Q K26 (m + 1) (nI b) x2 (nI n) (nI gone) (nI l) σ := by
  have hnw : nw ≤ 16 := hW.2.2.2.2.1
  have hnb : nb ≤ 4 := hW.2.2.2.1
  intro m
  induction m with
  | zero =>
    intro l σ hl hF h1 h2 hK
    rw [wM_harvest_l34]
    have q : gone < l := by omega
    simp (disch := first | assumption | omega | decide) only [Nat.le_refl, Nat.reduceLeDiff, Nat.reduceLT, Nat.reduceEqDiff, Nat.reduceAdd, Nat.reduceMul, Nat.reduceSub, forall_eq, true_and, and_true, not_true_eq_false, not_false_eq_true, false_implies, true_implies, implies_true, if_true, if_false, ite_self, nI_ltI2, forall_eq, q, add_m1]
    refine hK σ hF (fun g' hg' hn' l' hl' => ?_)
    by_cases e : g' = gone
    · subst e
      exact h2 l' (by omega)
    · exact h1 g' (by omega) hn' l' hl'
  | succ m ih =>
    intro l σ hl hF h1 h2 hK
    have hlg : l ≤ gone := by omega
    have e1 : ¬ gone < l := by omega
    have e4 : 17 * l + gone - l = 17 * l + (gone - l) := by omega
    have fin : ∀ v f : Int32, v = (hv (fun j d => pVT N b (hp j) (nI d)) n (n - gone) l).1 → f = hvF (fun j d => pVT N b (hp j) (nI d)) n (n - gone) l → wM_harvest_l34 Q K26 (m + 1) (nI b) x2 (nI n) (nI gone) (nI (l + 1)) (gU (gU σ 95 (17 * l + (gone - l)) v) 96 (17 * l + (gone - l)) f) := by
      intro v f hv hf
      refine ih (l + 1) _ (by omega) (fun c c1 c2 => ?_) (fun g' hg' hn' l' hl' => ?_) (fun l' hl' => ?_) hK
      · simp (disch := first | assumption | omega | decide) only [gU_ne]
        exact hF c c1 c2
      · have ne := cell_ne (l := l') (g := g') (l' := l) (g' := gone) hl' hlg (by omega) (by omega) (Or.inr (by omega))
        simp (disch := first | assumption | omega | decide) only [gU_ne, gU_off]
        exact h1 g' hg' hn' l' hl'
      · by_cases el : l' = l
        · subst el
          simp (disch := first | assumption | omega | decide) only [gU_ne, gU_eq]
          exact ⟨hv, hf⟩
        · have ne := cell_ne (l := l') (g := gone) (l' := l) (g' := gone) (by omega) hlg (by omega) (by omega) (Or.inl el)
          simp (disch := first | assumption | omega | decide) only [gU_ne, gU_off]
          exact h2 l' (by omega)
    rw [wM_harvest_l34]
    by_cases e : gone = n
    · subst e
      simp (disch := first | assumption | omega | decide) only [nI_ltI2, e1, nI_add, pk_mul, nI_sub, e4, wM_harvest_b88, wM_harvest_b130, nI_clamp, vinT, Nat.lt_irrefl, Nat.le_refl, Nat.reduceLeDiff, Nat.reduceLT, Nat.reduceEqDiff, Nat.reduceAdd, Nat.reduceMul, Nat.reduceSub, forall_eq, true_and, and_true, not_true_eq_false, not_false_eq_true, false_implies, true_implies, implies_true, if_true, if_false, ite_self]
      refine fin _ _ ?_ ?_
      · rw [Nat.sub_self]; rfl
      · rw [Nat.sub_self]; rfl
    · have a1 := (h1 (gone + 1) (Nat.le_refl _) (by omega) (l + 1) (by omega)).1
      have a2 := (h1 (gone + 1) (Nat.le_refl _) (by omega) l (by omega)).1
      rw [show 17 * (l + 1) + (gone + 1 - (l + 1)) = 17 * l + (gone - l) + 17 by omega] at a1
      rw [show 17 * l + (gone + 1 - l) = 17 * l + (gone - l) + 1 by omega] at a2
      have h89 : σ 89 = N := (hF 89 (by omega) (by omega)).trans hN
      have e3 : n - 1 - gone + l = l + (n - 1 - gone) := by omega
      obtain ⟨f1, f2, -⟩ := hW.2.2.2.2.2.2.2.2.1 l (by omega)
      obtain ⟨g1, g2, -⟩ := hW.2.2.2.2.2.2.2.2.1 (l + (n - 1 - gone)) (by omega)
      have n01 : ¬ nI 1 = nI 0 := by decide
      simp (disch := first | assumption | omega | decide) only [nI_ltI2, nI_eqI, e, e1, nI_add, pk_mul, nI_sub, e3, e4, wM_harvest_b88, wM_harvest_b130, nI_clamp, vinT, eM_heap, h89, f2, g2, eM_worthOf, a1, a2, Nat.le_refl, Nat.reduceLeDiff, Nat.reduceLT, Nat.reduceEqDiff, Nat.reduceAdd, Nat.reduceMul, Nat.reduceSub, forall_eq, true_and, and_true, not_true_eq_false, not_false_eq_true, false_implies, true_implies, implies_true, if_true, if_false, ite_self]
      have hs : n - gone = (n - 1 - gone) + 1 := by omega
      have hd : n - (n - 1 - gone + 1) = gone := by omega
      have e5 : n - (gone + 1) = n - 1 - gone := by omega
      rw [e5]
      refine fin _ _ ?_ ?_
      · rw [hs, hv, hvS, hd]
        by_cases hc : pVT N b (hp (l + (n - 1 - gone))) (nI gone) + (hv (fun j d => pVT N b (hp j) (nI d)) n (n - 1 - gone) l).1 ≤ pVT N b (hp l) (nI gone) + (hv (fun j d => pVT N b (hp j) (nI d)) n (n - 1 - gone) (l + 1)).1
        · rw [if_pos hc, if_neg (nlt_of_le hc)]
        · rw [if_neg hc, if_pos (i_nle.mp hc)]
      · rw [hs, hvF, hd]
        by_cases hc : pVT N b (hp (l + (n - 1 - gone))) (nI gone) + (hv (fun j d => pVT N b (hp j) (nI d)) n (n - 1 - gone) l).1 ≤ pVT N b (hp l) (nI gone) + (hv (fun j d => pVT N b (hp j) (nI d)) n (n - 1 - gone) (l + 1)).1
        · rw [if_pos hc, if_neg (nlt_of_le hc)]
        · rw [if_neg hc, if_pos (i_nle.mp hc)]
/-- the k-th end, walked to -/
theorem s_H_walk {V : Nat → Nat → Int32} {σ : gM} (hn : n ≤ 16) (hT : pTabH V n σ 0) {x : Nat} (hx : x < 1000) : ∀ (m l g j : Nat), j + m = x → l ≤ g → g + m < n → Q (nI ((hv V n (n - g) l).2 / 2 ^ m % 2)) σ → wM_harvest_l210 Q (m + 1) (nI x) (nI (17 * l + (g - l))) (nI j) σ := by
  have hfl : ∀ l g, l ≤ g → g < n → (hvF V n (n - g) l = nI 0 ∧ (hv V n (n - g) l).2 = (hv V n (n - (g + 1)) (l + 1)).2 * 2) ∨ (hvF V n (n - g) l = nI 1 ∧ (hv V n (n - g) l).2 = (hv V n (n - (g + 1)) l).2 * 2 + 1) := by
    intro l g hl hg
    rw [show n - g = (n - (g + 1)) + 1 by omega, hvF, hv, hvS]
    by_cases hc : V (l + (n - (g + 1))) (n - (n - (g + 1) + 1)) + (hv V n (n - (g + 1)) l).1 ≤ V l (n - (n - (g + 1) + 1)) + (hv V n (n - (g + 1)) (l + 1)).1
    · rw [if_pos hc, if_pos hc]; exact Or.inl ⟨rfl, rfl⟩
    · rw [if_neg hc, if_neg hc]; exact Or.inr ⟨rfl, rfl⟩
  intro m
  induction m with
  | zero =>
    intro l g j hj hl hg h
    have : j = x := by omega
    subst this
    have hf := (hT g (by omega) (by omega) l hl).2
    rw [wM_harvest_l210]
    simp (disch := first | assumption | omega | decide) only [li0, li1, li2, li3, li4, li5, li6, li7, li8, li9, li10, li11, li12, li13, li14, li16, li17, li20, li21, li22, li23, li24, li30, li32, li40, li48, li57, li59, li63, li86, li97, li99, li100, li102, li115, li122, li200, li255, li289, li320, li400, li720, li999, li1000, nI_add, pk_mul, nI_sub, nI_clamp, vinT, Nat.le_refl, Nat.reduceLeDiff, Nat.reduceLT, Nat.reduceEqDiff, Nat.reduceAdd, Nat.reduceMul, Nat.reduceSub, forall_eq, true_and, and_true, not_true_eq_false, not_false_eq_true, false_implies, true_implies, implies_true, if_true, if_false, ite_self, nI_eqI, nI_leI2, nI_ltI2, hf]
    rw [Nat.pow_zero, Nat.div_one] at h
    rcases hfl l g hl (by omega) with ⟨a, b⟩ | ⟨a, b⟩
    · rw [a]
      rw [b, show (hv V n (n - (g + 1)) (l + 1)).2 * 2 % 2 = 0 by omega] at h
      exact h
    · rw [a]
      rw [b, show ((hv V n (n - (g + 1)) l).2 * 2 + 1) % 2 = 1 by omega] at h
      exact h
  | succ m ih =>
    intro l g j hj hl hg h
    have hf := (hT g (by omega) (by omega) l hl).2
    have q : ¬ x ≤ j := by omega
    have hp2 : (2 : Nat) ^ (m + 1) = 2 * 2 ^ m := by rw [Nat.pow_succ]; omega
    rw [wM_harvest_l210]
    rcases hfl l g hl (by omega) with ⟨a, b⟩ | ⟨a, b⟩
    · simp (disch := first | assumption | omega | decide) only [li0, li1, li2, li3, li4, li5, li6, li7, li8, li9, li10, li11, li12, li13, li14, li16, li17, li20, li21, li22, li23, li24, li30, li32, li40, li48, li57, li59, li63, li86, li97, li99, li100, li102, li115, li122, li200, li255, li289, li320, li400, li720, li999, li1000, nI_add, pk_mul, nI_sub, nI_clamp, vinT, Nat.le_refl, Nat.reduceLeDiff, Nat.reduceLT, Nat.reduceEqDiff, Nat.reduceAdd, Nat.reduceMul, Nat.reduceSub, forall_eq, true_and, and_true, not_true_eq_false, not_false_eq_true, false_implies, true_implies, implies_true, if_true, if_false, ite_self, nI_eqI, nI_leI2, nI_ltI2, q, hf, a]
      have e : 17 * l + (g - l) + 17 = 17 * (l + 1) + (g + 1 - (l + 1)) := by omega
      rw [e]
      refine ih (l + 1) (g + 1) (j + 1) (by omega) (by omega) (by omega) ?_
      rw [b, hp2, ← Nat.div_div_eq_div_mul, show (hv V n (n - (g + 1)) (l + 1)).2 * 2 / 2 = (hv V n (n - (g + 1)) (l + 1)).2 by omega] at h
      exact h
    · simp (disch := first | assumption | omega | decide) only [li0, li1, li2, li3, li4, li5, li6, li7, li8, li9, li10, li11, li12, li13, li14, li16, li17, li20, li21, li22, li23, li24, li30, li32, li40, li48, li57, li59, li63, li86, li97, li99, li100, li102, li115, li122, li200, li255, li289, li320, li400, li720, li999, li1000, nI_add, pk_mul, nI_sub, nI_clamp, vinT, Nat.le_refl, Nat.reduceLeDiff, Nat.reduceLT, Nat.reduceEqDiff, Nat.reduceAdd, Nat.reduceMul, Nat.reduceSub, forall_eq, true_and, and_true, not_true_eq_false, not_false_eq_true, false_implies, true_implies, implies_true, if_true, if_false, ite_self, nI_eqI, nI_leI2, nI_ltI2, q, hf, a]
      have e : 17 * l + (g - l) + 1 = 17 * l + (g + 1 - l) := by omega
      rw [e]
      refine ih l (g + 1) (j + 1) (by omega) (by omega) (by omega) ?_
      rw [b, hp2, ← Nat.div_div_eq_div_mul, show ((hv V n (n - (g + 1)) l).2 * 2 + 1) / 2 = (hv V n (n - (g + 1)) l).2 by omega] at h
      exact h
theorem s_H_all (hn : n ≤ 16) (hN : σ0 89 = N) (hW : pWF k N nb nw n hp) (hb : b < nb) (hQ : ∀ σ', pFM σ0 σ' → pTabH (fun j d => pVT N b (hp j) (nI d)) n σ' 0 → (x2 = (-1 : Int32) → Q (σ' 95 0) σ') ∧ (¬ x2 = (-1 : Int32) → (x2 < nI n → ∃ n18 : Nat, wM_harvest_l210 Q n18 x2 (nI 0) (nI 0) σ') ∧ (¬ x2 < nI n → Q (-1000000) σ'))) : ∀ (m : Nat) (σ : gM), m ≤ n + 1 → pFM σ0 σ → pTabH (fun j d => pVT N b (hp j) (nI d)) n σ m → wM_harvest_l26 Q (m + 1) (nI b) x2 (nI n) (nI m - nI 1) σ := by
  intro m
  induction m with
  | zero =>
    intro σ hm hF h1
    rw [wM_harvest_l26]
    have e : nI 0 - nI 1 < nI 0 := by rw [lt_sub (by omega) (by omega) (by omega)]; omega
    simp only [e, Nat.le_refl, Nat.reduceLeDiff, Nat.reduceLT, Nat.reduceEqDiff, Nat.reduceAdd, Nat.reduceMul, Nat.reduceSub, forall_eq, true_and, and_true, not_true_eq_false, not_false_eq_true, false_implies, true_implies, implies_true, if_true, if_false, ite_self]
    exact hQ σ hF h1
  | succ m ih =>
    intro σ hm hF h1
    rw [wM_harvest_l26]
    simp (disch := first | assumption | omega | decide) only [Nat.le_refl, Nat.reduceLeDiff, Nat.reduceLT, Nat.reduceEqDiff, Nat.reduceAdd, Nat.reduceMul, Nat.reduceSub, forall_eq, true_and, and_true, not_true_eq_false, not_false_eq_true, false_implies, true_implies, implies_true, if_true, if_false, ite_self, nI_sub, nI_ltI2, Nat.not_lt_zero, Nat.add_sub_cancel]
    exact ⟨m + 1 + 1, s_H_row hn hN hW hb (gone := m) (by omega) (m + 1) 0 σ (by omega) hF h1 (fun l' hl' => absurd hl' (by omega)) (fun σ' f1 f2 => ih σ' (by omega) f1 f2)⟩
end HarvM
theorem m1_le (n : Nat) (hn : n < 2147483648) : (-1 : Int32) ≤ nI n := by
  rw [i_le, nI_I hn]
  show (-1 : Int) ≤ _
  omega
theorem nI_nm1 (n : Nat) (hn : n < 2147483648) : ¬ nI n = (-1 : Int32) := fun q => by
  rw [i_eq, nI_I hn] at q
  have q : (n : Int) = -1 := q
  omega
theorem op_harvest {k : Nat} {x1 x2 : Int32} {σ : gM} (h : pInv k σ) : pBoth (wH_harvest x1 x2) (wM_harvest x1 x2) σ (pInv k) := by
  obtain ⟨nb, nw, nl, hp, hM, hW⟩ := h.2.2.2.2.2.2.1
  have hn : nw ≤ 16 := hW.2.2.2.2.1
  have hl : nl ≤ nw := hW.2.2.2.2.2.1
  have hnb : nb ≤ 4 := hW.2.2.2.1
  have e5 : σ 42 5 = nI nl := hM.2.2.2.2.1
  have e5' : σ 89 5 = nI nl := hW.2.2.1
  have n01 : ¬ nI 1 = nI 0 := by decide
  unfold pBoth wH_harvest
  rw [eH_isNoBuyer hM.2.2.1]
  rcases i_in x1 nb (by omega) with ⟨b, hb, rfl⟩ | ⟨e1, e2⟩
  · rw [pNB_in hb (by omega)]
    by_cases hx : (-1 : Int32) ≤ x2
    · have hMi : ∀ (τ : gM) (P : Int32 → gM → Prop), τ 89 = σ 89 → (∀ σ', pFM τ σ' → pTabH (fun j d => pVT (σ 89) b (hp j) (nI d)) nl σ' 0 → (x2 = (-1 : Int32) → P (σ' 95 0) σ') ∧ (¬ x2 = (-1 : Int32) → (x2 < nI nl → ∃ n18 : Nat, wM_harvest_l210 P n18 x2 (nI 0) (nI 0) σ') ∧ (¬ x2 < nI nl → P (-1000000) σ'))) → wM_harvest (nI b) x2 τ P := fun τ P ht hP => by
        unfold wM_harvest
        rw [eM_isBuyerAt (by rw [ht]; exact hW.1) hnb, pB_in hb (by omega)]
        simp only [n01, hx, ht, e5', Nat.le_refl, Nat.reduceLeDiff, Nat.reduceLT, Nat.reduceEqDiff, Nat.reduceAdd, Nat.reduceMul, Nat.reduceSub, forall_eq, true_and, and_true, not_true_eq_false, not_false_eq_true, false_implies, true_implies, implies_true, if_true, if_false, ite_self]
        refine ⟨nl + 1 + 1, ?_⟩
        have key := s_H_all (σ0 := τ) (x2 := x2) (by omega) ht hW hb hP (nl + 1) τ (Nat.le_refl _) (fun _ _ _ => rfl) (fun g' hg' hn' => absurd hn' (by omega))
        rw [nI_sub (by omega), Nat.add_sub_cancel] at key
        exact key
      by_cases hlt : x2 < nI nl
      · simp only [hx, hlt, e5, Nat.le_refl, Nat.reduceLeDiff, Nat.reduceLT, Nat.reduceEqDiff, Nat.reduceAdd, Nat.reduceMul, Nat.reduceSub, forall_eq, true_and, and_true, not_true_eq_false, not_false_eq_true, false_implies, true_implies, implies_true, if_true, if_false, ite_self]
        refine s_harvestFor hM hW hb (fun σ1 f1 f2 f3 => ?_)
        have h89 : σ1 89 = σ 89 := f1 89 (by omega) (by omega)
        refine hMi σ1 _ h89 (fun σ2 g1 g2 => ?_)
        have hI : pInv k σ2 := pInv_same (fun c hc => by rw [g1 c (by omega) (by omega), f1 c (by omega) (by omega)]) (fun c c1 c2 => by rw [g1 c (by omega) (by omega), f1 c (by omega) (by omega)]) (fun c c1 c2 => by rw [g1 c (by omega) (by omega), f1 c (by omega) (by omega)]) h
        refine ⟨fun q => ?_, fun q => ⟨fun _ => ?_, fun q2 => absurd hlt q2⟩⟩
        · rw [if_neg (by rw [q]; decide), f2]
          exact ⟨(g2 0 (by omega) (by omega) 0 (by omega)).1.symm, hI⟩
        · rcases i_nat x2 with hng | ⟨x, hxx, rfl⟩
          · exfalso
            rw [i_lt] at hng
            rw [i_le] at hx
            have hx : -1 ≤ x2.toInt := hx
            have hng : x2.toInt < 0 := hng
            exact q (i_eq.mpr (show x2.toInt = -1 by omega))
          · rw [nI_ltI2 hxx (by omega)] at hlt
            have hb2 := hv_lt (V := fun j d => pVT (σ 89) b (hp j) (nI d)) (n := nl) nl 0
            have bc : (2 : Nat) ^ nl ≤ 2 ^ 16 := Nat.pow_le_pow_right (by omega) (by omega)
            have hdv := Nat.div_le_self (hv (fun j d => pVT (σ 89) b (hp j) (nI d)) nl nl 0).2 (2 ^ x)
            rw [if_pos (by rw [nI_leI2 (by omega) hxx]; omega), f3, sh_r (by omega) (by omega), and_1 (by omega)]
            exact ⟨x + 1, s_H_walk (by omega) g2 (by omega) x 0 0 0 (by omega) (by omega) (by omega) ⟨rfl, hI⟩⟩
      · have hm : wM_harvest (nI b) x2 σ (fun r2 σ2 => (-1000000 : Int32) = r2 ∧ pInv k σ2) := hMi σ _ rfl (fun σ2 g1 g2 => by
          have hI : pInv k σ2 := pInv_same (fun c hc => g1 c (by omega) (by omega)) (fun c c1 c2 => g1 c (by omega) (by omega)) (fun c c1 c2 => g1 c (by omega) (by omega)) h
          refine ⟨fun q => ?_, fun q => ⟨fun q2 => absurd q2 hlt, fun _ => ⟨rfl, hI⟩⟩⟩
          exfalso
          rw [q] at hlt
          exact hlt (m1_lt nl (by omega)))
        simp only [hx, hlt, e5, Nat.le_refl, Nat.reduceLeDiff, Nat.reduceLT, Nat.reduceEqDiff, Nat.reduceAdd, Nat.reduceMul, Nat.reduceSub, forall_eq, true_and, and_true, not_true_eq_false, not_false_eq_true, false_implies, true_implies, implies_true, if_true, if_false, ite_self]
        exact hm
    · have hm : wM_harvest (nI b) x2 σ (fun r2 σ2 => (-1000001 : Int32) = r2 ∧ pInv k σ2) := by
        unfold wM_harvest
        rw [eM_isBuyerAt hW.1 hnb, pB_in hb (by omega)]
        simp only [n01, hx, Nat.le_refl, Nat.reduceLeDiff, Nat.reduceLT, Nat.reduceEqDiff, Nat.reduceAdd, Nat.reduceMul, Nat.reduceSub, forall_eq, true_and, and_true, not_true_eq_false, not_false_eq_true, false_implies, true_implies, implies_true, if_true, if_false, ite_self]
        exact h
      simp only [hx, Nat.le_refl, Nat.reduceLeDiff, Nat.reduceLT, Nat.reduceEqDiff, Nat.reduceAdd, Nat.reduceMul, Nat.reduceSub, forall_eq, true_and, and_true, not_true_eq_false, not_false_eq_true, false_implies, true_implies, implies_true, if_true, if_false, ite_self]
      exact hm
  · rw [e2]
    simp only [n01, Nat.le_refl, Nat.reduceLeDiff, Nat.reduceLT, Nat.reduceEqDiff, Nat.reduceAdd, Nat.reduceMul, Nat.reduceSub, forall_eq, true_and, and_true, not_true_eq_false, not_false_eq_true, false_implies, true_implies, implies_true, if_true, if_false, ite_self]
    unfold wM_harvest
    rw [eM_isBuyerAt hW.1 hnb, e1]
    simp only [Nat.le_refl, Nat.reduceLeDiff, Nat.reduceLT, Nat.reduceEqDiff, Nat.reduceAdd, Nat.reduceMul, Nat.reduceSub, forall_eq, true_and, and_true, not_true_eq_false, not_false_eq_true, false_implies, true_implies, implies_true, if_true, if_false, ite_self]
    exact h
