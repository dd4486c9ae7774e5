section PassM
variable {n a b : Nat} {ln : Nat → Nat} {N : Nat → Int32} {Q : Int32 → gM → Prop} {x4 : Int32}
theorem s_b258 {K97 : Int32 → Int32 → Int32 → Int32 → Int32 → gM → Prop} {K : Int32 → Int32 → Int32 → Int32 → Int32 → Int32 → gM → Prop} {x1 x2 x3 y4 x5 x6 L R fl : Int32} {c : Nat} {σ : gM} (hc : c + 17 < 289) {P : Int32 × Int32}
    (hP : P = if fl = nI 0 then (σ 95 (if L < R then c + 1 else c + 17), if L < R then R else L) else if σ 97 c ≤ (if L < R then R else L) then (if L < R then R else L, σ 96 (if L < R then c + 1 else c + 17)) else (σ 97 c, σ 98 c))
    (hK : K x1 x2 x3 y4 x5 (x6 + nI 1) (gU (gU σ 95 c P.1) 96 c P.2)) : wM_passBy_b258 Q K97 K x1 x2 x3 y4 x5 x6 (nI c) fl L R σ := by
  have v7 : vp_in (nI c) 289 := by rw [vinT (by omega) (by omega)]; trivial
  have n01 : ¬ nI 1 = nI 0 := by decide
  have c7 : (nI c).toNatClampNeg = c := nI_clamp (by omega)
  unfold wM_passBy_b258
  intro v42 e42 v44 e44
  have e42 : v42 = nI (if L < R then c + 1 else c + 17) := by
    rw [e42]
    by_cases q : L < R
    · rw [if_pos q, if_pos q, nI_add]
    · rw [if_neg q, if_neg q, nI_add]
  rw [← e44] at hP
  generalize hd : (if L < R then c + 1 else c + 17) = d at e42 hP
  have hd9 : d < 289 := by
    rw [← hd]
    split <;> omega
  have v42i : vp_in v42 289 := by rw [e42, vinT hd9 (by omega)]; trivial
  have c42 : v42.toNatClampNeg = d := by rw [e42]; exact nI_clamp (by omega)
  refine ⟨⟨fun _ => trivial, fun _ => ⟨v7, trivial⟩⟩, ?_⟩
  intro v47 e47
  refine ⟨⟨fun _ => ⟨⟨fun _ => ⟨v42i, trivial⟩, fun _ => trivial⟩, trivial⟩, fun _ => ⟨v7, trivial⟩⟩, ?_⟩
  intro v51 e51
  refine ⟨⟨fun _ => ⟨⟨fun _ => trivial, fun _ => ⟨v42i, trivial⟩⟩, trivial⟩, fun _ => ⟨v7, trivial⟩⟩, ?_⟩
  intro v55 e55
  refine ⟨v7, fun σ56 e56 => ⟨v7, fun σ57 e57 x6' e6 => ?_⟩⟩
  rw [c7, c42] at e51
  rw [c7, c42] at e55
  rw [c7] at e47 e56 e57
  have k : P = (v51, v55) := by
    rw [hP, e51, e55, e47]
    by_cases q0 : fl = nI 0
    · simp only [q0, if_true]
    · simp only [q0, if_false]
      by_cases q1 : σ 97 c ≤ v44
      · simp only [q1, if_true]
      · simp only [q1, if_false, n01]
  rw [k] at hK
  rw [e57, e56, e6]
  exact hK
theorem s_M_pcell {K : Int32 → Int32 → Int32 → Int32 → Int32 → gM → Prop} (hn : n ≤ 16) (ha : a < 4) (hb : b < 4) {m gone l : Nat} {σ : gM} (hN : σ 89 = N) (hl : l ≤ gone) (hg : gone < n) (hln : ∀ i, i < n → ln i < 16 ∧ σ 94 i = nI (ln i))
    (hK : wM_passBy_l105 Q K m (nI a) (nI b) (nI n) x4 (nI gone) (nI (l + 1)) (gU (gU σ 95 (17 * l + (gone - l)) (pPs (fun i => pVT N a (ln i) (nI 0)) (fun i => pVT N b (ln i) (nI 0)) (pTurn (N 1) gone) l (n - 1 - gone) (σ 95 (17 * l + (gone - l) + 17), σ 96 (17 * l + (gone - l) + 17)) (σ 95 (17 * l + (gone - l) + 1), σ 96 (17 * l + (gone - l) + 1)) (σ 97 (17 * l + (gone - l)), σ 98 (17 * l + (gone - l)))).1) 96 (17 * l + (gone - l)) (pPs (fun i => pVT N a (ln i) (nI 0)) (fun i => pVT N b (ln i) (nI 0)) (pTurn (N 1) gone) l (n - 1 - gone) (σ 95 (17 * l + (gone - l) + 17), σ 96 (17 * l + (gone - l) + 17)) (σ 95 (17 * l + (gone - l) + 1), σ 96 (17 * l + (gone - l) + 1)) (σ 97 (17 * l + (gone - l)), σ 98 (17 * l + (gone - l)))).2)) : wM_passBy_l105 Q K (m + 1) (nI a) (nI b) (nI n) x4 (nI gone) (nI l) σ := by
  have e1 : ¬ gone < l := by omega
  have e3 : n - 1 - gone + l = l + (n - 1 - gone) := by omega
  have e4 : 17 * l + gone - l = 17 * l + (gone - l) := by omega
  obtain ⟨f1, f2⟩ := hln l (by omega)
  obtain ⟨g1, g2⟩ := hln (l + (n - 1 - gone)) (by omega)
  rw [wM_passBy_l105]
  have n01 : ¬ nI 1 = nI 0 := by decide
  simp (disch := first | assumption | omega | decide) only [li0, li1, li2, li3, li4, li5, li6, li7, li8, li9, li10, li11, li12, li13, li14, li16, li17, li20, li21, li22, li23, li24, li30, li32, li40, li48, li57, li59, li63, li86, li97, li99, li100, li102, li115, li122, li200, li255, li289, li320, li400, li720, li999, li1000, nI_add, pk_mul, nI_sub, nI_clamp, vinT, Nat.le_refl, Nat.reduceLeDiff, Nat.reduceLT, Nat.reduceEqDiff, Nat.reduceAdd, Nat.reduceMul, Nat.reduceSub, forall_eq, true_and, and_true, not_true_eq_false, not_false_eq_true, false_implies, true_implies, implies_true, if_true, if_false, ite_self, nI_eqI, nI_leI2, nI_ltI2, e1, e3, e4, f2, g2, eM_turnOf, hN]
  unfold pPs pStp at hK
  cases ht : pTurn (N 1) gone with
  | true =>
    simp only [ht, if_true] at hK
    simp (disch := first | assumption | omega | decide) only [Nat.le_refl, Nat.reduceLeDiff, Nat.reduceLT, Nat.reduceEqDiff, Nat.reduceAdd, Nat.reduceMul, Nat.reduceSub, forall_eq, true_and, and_true, not_true_eq_false, not_false_eq_true, false_implies, true_implies, implies_true, if_true, if_false, ite_self, n01, eM_worthOf, hN, wM_passBy_b212, vinT, nI_clamp, nI_add]
    refine s_b258 (by omega) rfl ?_
    rw [nI_add, if_neg n01]
    generalize pVT N a (ln (l + (n - 1 - gone))) (nI 0) + σ 95 (17 * l + (gone - l) + 1) = R at hK ⊢
    generalize pVT N a (ln l) (nI 0) + σ 95 (17 * l + (gone - l) + 17) = L at hK ⊢
    by_cases hc : R ≤ L
    · have hc2 := nlt_of_le hc
      simp only [hc, hc2, if_true, if_false] at hK ⊢
      exact hK
    · have hc2 := i_nle.mp hc
      simp only [hc, hc2, if_true, if_false] at hK ⊢
      exact hK
  | false =>
    simp only [ht, Bool.false_eq_true, if_false] at hK
    simp (disch := first | assumption | omega | decide) only [Nat.le_refl, Nat.reduceLeDiff, Nat.reduceLT, Nat.reduceEqDiff, Nat.reduceAdd, Nat.reduceMul, Nat.reduceSub, forall_eq, true_and, and_true, not_true_eq_false, not_false_eq_true, false_implies, true_implies, implies_true, if_true, if_false, ite_self, n01, Bool.false_eq_true, eM_worthOf, hN, wM_passBy_b212, vinT, nI_clamp, nI_add]
    refine s_b258 (by omega) rfl ?_
    rw [nI_add, if_pos rfl]
    generalize pVT N b (ln (l + (n - 1 - gone))) (nI 0) + σ 96 (17 * l + (gone - l) + 1) = R at hK ⊢
    generalize pVT N b (ln l) (nI 0) + σ 96 (17 * l + (gone - l) + 17) = L at hK ⊢
    by_cases hc : R ≤ L
    · have hc2 := nlt_of_le hc
      simp only [hc, hc2, if_true, if_false] at hK ⊢
      exact hK
    · have hc2 := i_nle.mp hc
      simp only [hc, hc2, if_true, if_false] at hK ⊢
      exact hK
variable {σ0 : gM}
def pTabP (n a b : Nat) (ln : Nat → Nat) (N : Nat → Int32) (σ : gM) (g : Nat) : Prop := ∀ g', g ≤ g' → g' ≤ n → ∀ l, l ≤ g' → (σ 95 (17 * l + (g' - l)), σ 96 (17 * l + (g' - l))) = pP (fun i => pVT N a (ln i) (nI 0)) (fun i => pVT N b (ln i) (nI 0)) (fun len => pTurn (N 1) (n - len + 0)) (fun len => pTurn (N 1) (n - len + 1)) (n - g') l
def pOnce (n a b : Nat) (ln : Nat → Nat) (N : Nat → Int32) (σ : gM) : Prop := ∀ g', g' ≤ n → ∀ l, l ≤ g' → (σ 97 (17 * l + (g' - l)), σ 98 (17 * l + (g' - l))) = pG (fun i => pVT N a (ln i) (nI 0)) (fun i => pVT N b (ln i) (nI 0)) (fun len => pTurn (N 1) (n - len + 1)) (n - g') l
theorem s_M_prow (hn : n ≤ 16) (ha : a < 4) (hb : b < 4) (hN : σ0 89 = N) (hln : ∀ i, i < n → ln i < 16 ∧ σ0 94 i = nI (ln i)) (hO : pOnce n a b ln N σ0) {K : Int32 → Int32 → Int32 → Int32 → Int32 → gM → Prop} {gone : Nat} (hg : gone < n) : ∀ (m l : Nat) (σ : gM), l + m = gone + 1 → pFM σ0 σ → pTabP n a b ln N σ (gone + 1) → (∀ l', l' < l → (σ 95 (17 * l' + (gone - l')), σ 96 (17 * l' + (gone - l'))) = pP (fun i => pVT N a (ln i) (nI 0)) (fun i => pVT N b (ln i) (nI 0)) (fun len => pTurn (N 1) (n - len + 0)) (fun len => pTurn (N 1) (n - len + 1)) (n - gone) l') →
    (∀ σ', pFM σ0 σ' → pTabP n a b ln N σ' gone → K (nI a) (nI b) (nI n) x4 (nI gone - nI 1) σ') → wM_passBy_l105 Q K (m + 1) (nI a) (nI b) (nI n) x4 (nI gone) (nI l) σ := by
  intro m
  induction m with
  | zero =>
    intro l σ hl hF h1 h2 hK
    rw [wM_passBy_l105]
    have q : gone < l := by omega
    simp (disch := first | assumption | omega | decide) only [Nat.le_refl, Nat.reduceLeDiff, Nat.reduceLT, Nat.reduceEqDiff, Nat.reduceAdd, Nat.reduceMul, Nat.reduceSub, forall_eq, true_and, and_true, not_true_eq_false, not_false_eq_true, false_implies, true_implies, implies_true, if_true, if_false, ite_self, nI_ltI2, forall_eq, q, add_m1]
    refine hK σ hF (fun g' hg' hn' l' hl' => ?_)
    by_cases e : g' = gone
    · subst e
      exact h2 l' (by omega)
    · exact h1 g' (by omega) hn' l' hl'
  | succ m ih =>
    intro l σ hl hF h1 h2 hK
    have hlg : l ≤ gone := by omega
    refine s_M_pcell hn ha hb ((hF 89 (by omega) (by omega)).trans hN) hlg (by omega) (fun i hi => by rw [hF 94 (by omega) (by omega)]; exact hln i hi) ?_
    have a1 := h1 (gone + 1) (Nat.le_refl _) (by omega) (l + 1) (by omega)
    have a2 := h1 (gone + 1) (Nat.le_refl _) (by omega) l (by omega)
    have a3 := hO gone (by omega) l hlg
    rw [show 17 * (l + 1) + (gone + 1 - (l + 1)) = 17 * l + (gone - l) + 17 by omega] at a1
    rw [show 17 * l + (gone + 1 - l) = 17 * l + (gone - l) + 1 by omega] at a2
    rw [← hF 97 (by omega) (by omega), ← hF 98 (by omega) (by omega)] at a3
    rw [a1, a2, a3]
    refine ih (l + 1) _ (by omega) (fun c c1 c2 => ?_) (fun g' hg' hn' l' hl' => ?_) (fun l' hl' => ?_) hK
    · simp (disch := first | assumption | omega | decide) only [gU_ne]
      exact hF c c1 c2
    · have ne := cell_ne (l := l') (g := g') (l' := l) (g' := gone) hl' hlg (by omega) (by omega) (Or.inr (by omega))
      simp (disch := first | assumption | omega | decide) only [gU_ne, gU_off]
      exact h1 g' hg' hn' l' hl'
    · by_cases el : l' = l
      · subst el
        simp (disch := first | assumption | omega | decide) only [gU_ne, gU_eq]
        rw [show n - gone = (n - (gone + 1)) + 1 by omega, pP, show n - (gone + 1) = n - 1 - gone by omega, show n - (n - 1 - gone + 1) + 0 = gone by omega]
      · have ne := cell_ne (l := l') (g := gone) (l' := l) (g' := gone) (by omega) hlg (by omega) (by omega) (Or.inl el)
        simp (disch := first | assumption | omega | decide) only [gU_ne, gU_off]
        exact h2 l' (by omega)
theorem s_M_play (hn : n ≤ 16) (ha : a < 4) (hb : b < 4) (hN : σ0 89 = N) (hln : ∀ i, i < n → ln i < 16 ∧ σ0 94 i = nI (ln i)) (hO : pOnce n a b ln N σ0) (hQ : ∀ σ', pFM σ0 σ' → pTabP n a b ln N σ' 0 → Q (if σ' 95 0 ≤ x4 then nI 0 else σ' 95 0 - x4) σ') : ∀ (m : Nat) (σ : gM), m ≤ n → pFM σ0 σ → pTabP n a b ln N σ m → wM_passBy_l97 Q (m + 1) (nI a) (nI b) (nI n) x4 (nI m - nI 1) σ := by
  intro m
  induction m with
  | zero =>
    intro σ hm hF h1
    rw [wM_passBy_l97]
    have e : nI 0 - nI 1 < nI 0 := by rw [lt_sub (by omega) (by omega) (by omega)]; omega
    simp only [e, Nat.le_refl, Nat.reduceLeDiff, Nat.reduceLT, Nat.reduceEqDiff, Nat.reduceAdd, Nat.reduceMul, Nat.reduceSub, forall_eq, true_and, and_true, not_true_eq_false, not_false_eq_true, false_implies, true_implies, implies_true, if_true, if_false, ite_self]
    exact hQ σ hF h1
  | succ m ih =>
    intro σ hm hF h1
    rw [wM_passBy_l97]
    simp (disch := first | assumption | omega | decide) only [Nat.le_refl, Nat.reduceLeDiff, Nat.reduceLT, Nat.reduceEqDiff, Nat.reduceAdd, Nat.reduceMul, Nat.reduceSub, forall_eq, true_and, and_true, not_true_eq_false, not_false_eq_true, false_implies, true_implies, implies_true, if_true, if_false, ite_self, nI_sub, nI_ltI2, Nat.not_lt_zero, Nat.add_sub_cancel]
    exact ⟨m + 1 + 1, s_M_prow hn ha hb hN hln hO (gone := m) (by omega) (m + 1) 0 σ (by omega) hF h1 (fun l' hl' => absurd hl' (by omega)) (fun σ' f1 f2 => ih σ' (by omega) f1 f2)⟩
theorem s_M_once (hn : n ≤ 16) (hQ : ∀ σ', (∀ d, d ≠ 97 → d ≠ 98 → σ' d = σ0 d) → (∀ j, j < 289 → σ' 97 j = σ0 95 j ∧ σ' 98 j = σ0 96 j) → wM_layBest (nI n) (nI a) (nI b) (nI 0) σ' (fun (σ12 : gM) => ∃ n76 : Nat, wM_passBy_l97 Q n76 (nI a) (nI b) (nI n) (σ12 95 0) (nI n - nI 1) σ12)) : ∀ (m i : Nat) (σ : gM), i + m = 289 → (∀ d, d ≠ 97 → d ≠ 98 → σ d = σ0 d) → (∀ j, j < i → σ 97 j = σ0 95 j ∧ σ 98 j = σ0 96 j) → wM_passBy_l34 Q (m + 1) (nI a) (nI b) (nI n) (nI i) σ := by
  intro m
  induction m with
  | zero =>
    intro i σ hi hF h1
    have : i = 289 := by omega
    subst this
    rw [wM_passBy_l34]
    simp (disch := first | assumption | omega | decide) only [Nat.le_refl, Nat.reduceLeDiff, Nat.reduceLT, Nat.reduceEqDiff, Nat.reduceAdd, Nat.reduceMul, Nat.reduceSub, forall_eq, true_and, and_true, not_true_eq_false, not_false_eq_true, false_implies, true_implies, implies_true, if_true, if_false, ite_self, nI_leI2, li289]
    exact hQ σ hF h1
  | succ m ih =>
    intro i σ hi hF h1
    have q : ¬ 289 ≤ i := by omega
    rw [wM_passBy_l34]
    simp (disch := first | assumption | omega | decide) only [li0, li1, li2, li3, li4, li5, li6, li7, li8, li9, li10, li11, li12, li13, li14, li16, li17, li20, li21, li22, li23, li24, li30, li32, li40, li48, li57, li59, li63, li86, li97, li99, li100, li102, li115, li122, li200, li255, li289, li320, li400, li720, li999, li1000, nI_add, pk_mul, nI_sub, nI_clamp, vinT, Nat.le_refl, Nat.reduceLeDiff, Nat.reduceLT, Nat.reduceEqDiff, Nat.reduceAdd, Nat.reduceMul, Nat.reduceSub, forall_eq, true_and, and_true, not_true_eq_false, not_false_eq_true, false_implies, true_implies, implies_true, if_true, if_false, ite_self, nI_eqI, nI_leI2, nI_ltI2, q, gU_ne]
    refine ih (i + 1) _ (by omega) (fun d d1 d2 => by rw [gU_ne d2, gU_ne d1]; exact hF d d1 d2) (fun j hj => ?_)
    by_cases e : j = i
    · subst e
      simp (disch := first | assumption | omega | decide) only [gU_ne, gU_eq]
      rw [hF 95 (by omega) (by omega), hF 96 (by omega) (by omega)]
      exact ⟨rfl, rfl⟩
    · simp (disch := first | assumption | omega | decide) only [gU_ne, gU_off]
      exact h1 j (by omega)
end PassM
theorem e_sub0 {a b : Nat} (ha : a < 2147483648) (hb : b < 2147483648) : (if nI 0 < nI a - nI b then nI a - nI b else nI 0) = (if nI a ≤ nI b then nI 0 else nI a - nI b) := by
  by_cases h : a ≤ b
  · rw [if_pos (show nI a ≤ nI b by rw [nI_leI2 ha hb]; exact h)]
    by_cases q : nI 0 < nI a - nI b
    · exfalso
      rw [i_lt, sub_I ha hb, nI_I (by omega)] at q
      omega
    · rw [if_neg q]
  · rw [if_neg (show ¬ nI a ≤ nI b by rw [nI_leI2 ha hb]; exact h)]
    rw [if_pos (by rw [i_lt, sub_I ha hb, nI_I (by omega)]; omega)]
theorem op_passBy {k : Nat} {x1 x2 : Int32} {σ : gM} (hk : k ≤ 100) (h : pInv k σ) : pBoth (wH_passBy x1 x2) (wM_passBy x1 x2) σ (pInv k) := by
  obtain ⟨nb, nw, nl, hp, hM, hW⟩ := h.2.2.2.2.2.2.1
  have hn : nw ≤ 16 := hW.2.2.2.2.1
  have hl : nl ≤ nw := hW.2.2.2.2.2.1
  have hnb : nb ≤ 4 := hW.2.2.2.1
  have n01 : ¬ nI 1 = nI 0 := by decide
  unfold pBoth wH_passBy
  rcases e_two hnb x1 x2 hM.2.2.1 hW.1 with ⟨⟨a, b, ha, hb, hab, rfl, rfl⟩, eH, eM⟩ | ⟨eH, eM⟩
  · rw [eH]
    simp (disch := first | assumption | omega | decide) only [Nat.le_refl, Nat.reduceLeDiff, Nat.reduceLT, Nat.reduceEqDiff, Nat.reduceAdd, Nat.reduceMul, Nat.reduceSub, forall_eq, true_and, and_true, not_true_eq_false, not_false_eq_true, false_implies, true_implies, implies_true, if_true, if_false, ite_self]
    refine s_seat hM hW ha hb (fun σ1 hS => ?_)
    have hpl : ∀ j, j < nl → hp j < 16 := fun j hj => by have := (hW.2.2.2.2.2.2.2.2.1 j hj).1; omega
    have hSl : ∀ j, j < nl → hp j < 16 ∧ σ1 26 j = nI (hp j) ∧ σ1 27 (hp j) = pVT (σ 89) a (hp j) (nI 0) ∧ σ1 28 (hp j) = pVT (σ 89) b (hp j) (nI 0) := fun j hj => ⟨hpl j hj, hS.2.2.2 j hj⟩
    refine s_line (va := fun w => pVT (σ 89) a w (nI 0)) (vb := fun w => pVT (σ 89) b w (nI 0)) (by omega) (Or.inr rfl) hS.2.2.1 hSl (fun σ2 hL1 hL2 => ?_)
    have e4 : σ2 24 4 = nI nl := by rw [hL1 24 (by omega) (by omega)]; exact hS.2.2.1
    have e3 : σ2 24 3 = σ 89 1 := by rw [hL1 24 (by omega) (by omega)]; exact hS.2.1
    refine s_play (tf := fun len => pTurn (σ 89 1) (nl - len + 0)) (by omega) e4 (fun c hc => by rw [e3]; rfl) (fun σ3 hP1 hP2 hP3 hP4 => ?_)
    have e4' : σ3 24 4 = nI nl := by rw [hP1.2 4 (by omega)]; exact e4
    have e3' : σ3 24 3 = σ 89 1 := by rw [hP1.2 3 (by omega)]; exact e3
    unfold wD_gainOfA
    refine s_playWithPass (tf := fun len => pTurn (σ 89 1) (nl - len + 0)) (tf1 := fun len => pTurn (σ 89 1) (nl - len + 1)) (by omega) e4' (fun c hc => by rw [e3']; rfl) (fun c hc => by rw [e3']) (fun σ4 hR1 hR2 => ?_)
    have hF : ∀ c, (c < 24 ∨ 34 < c) → σ4 c = σ c := fun c hc => by
      rw [hR1 c (by omega) (by omega) (by omega) (by omega), hP1.1 c (by omega) (by omega) (by omega), hL1 c (by omega) (by omega), hS.1 c (by omega) (by omega) (by omega) (by omega)]
    have h89 : σ4 89 = σ 89 := hF 89 (by omega)
    have hv : ∀ j, 0 ≤ j → j < 0 + nl → (∃ m, m ≤ 6000 ∧ pVT (σ 89) a (hp j) (nI 0) = nI m) ∧ ∃ m, m ≤ 6000 ∧ pVT (σ 89) b (hp j) (nI 0) = nI m := fun j _ hj => by
      have hw := (hW.2.2.2.2.2.2.2.2.1 j (by omega)).1
      exact ⟨pVT_nI (by omega) hW a hw (by omega), pVT_nI (by omega) hW b hw (by omega)⟩
    obtain ⟨u, v, u1, v1, eG⟩ := pG_nI (tf := fun len => pTurn (σ 89 1) (nl - len + 0)) (la := fun i => pVT (σ 89) a (hp i) (nI 0)) (lb := fun i => pVT (σ 89) b (hp i) (nI 0)) nl 0 (by omega) hv
    obtain ⟨p, q, p1, q1, eP⟩ := pP_nI (tf := fun len => pTurn (σ 89 1) (nl - len + 0)) (tf1 := fun len => pTurn (σ 89 1) (nl - len + 1)) (la := fun i => pVT (σ 89) a (hp i) (nI 0)) (lb := fun i => pVT (σ 89) b (hp i) (nI 0)) nl 0 (by omega) hv
    have hbd := pBd_16 (len := nl) (by omega)
    have hL2' : ∀ j, 0 ≤ j → j < 0 + nl → σ2 29 j = pVT (σ 89) a (hp j) (nI 0) ∧ σ2 30 j = pVT (σ 89) b (hp j) (nI 0) := fun j _ hj => by
      have := hL2 j (by omega)
      rw [show pRo nl 0 j = j by unfold pRo; rw [if_pos (by omega)]; omega] at this
      exact this
    have c31 : σ3 31 0 = nI u := by
      rw [pG_congr nl 0 hL2' (fun _ _ _ => rfl), eG] at hP2
      exact congrArg Prod.fst hP2
    have c31' : σ4 31 0 = nI p := by
      rw [hP1.1 29 (by omega) (by omega) (by omega), hP1.1 30 (by omega) (by omega) (by omega), pP_congr nl 0 hL2', eP] at hR2
      exact congrArg Prod.fst hR2
    have es := e_sub0 (a := p) (b := u) (by omega) (by omega)
    rw [c31, c31']
    show wM_passBy (nI a) (nI b) σ4 (fun r2 σ2 => (if nI 0 < nI p - nI u then nI p - nI u else nI 0) = r2 ∧ pInv k σ2)
    rw [es]
    have hW4 : pWF k (σ4 89) nb nw nl hp := by rw [h89]; exact hW
    unfold wM_passBy
    rw [eM σ4 _ (by rw [h89]; exact hW.1)]
    simp (disch := first | assumption | omega | decide) only [Nat.le_refl, Nat.reduceLeDiff, Nat.reduceLT, Nat.reduceEqDiff, Nat.reduceAdd, Nat.reduceMul, Nat.reduceSub, forall_eq, true_and, and_true, not_true_eq_false, not_false_eq_true, false_implies, true_implies, implies_true, if_true, if_false, ite_self, n01, wM_layHeap, h89, hW.2.2.1]
    refine ⟨nl + 1, s_layHeap (σ0 := σ4) hW4 ?_ nl 0 σ4 (by omega) (gFn_0 _ _ _ _).symm⟩
    refine s_layBest (N := σ 89) (ln := hp) (by omega) (by omega) (by omega) (by omega) (by rw [gFn_ne (by decide)]; exact h89) (fun i hi => ⟨hpl i hi, by rw [gFn_in (by omega) (by omega)]; rfl⟩) (fun σ5 g1 g2 => ?_)
    have k89 : σ5 89 = σ 89 := by rw [g1 89 (by omega) (by omega), gFn_ne (by decide)]; exact h89
    have k94 : ∀ i, i < nl → hp i < 16 ∧ σ5 94 i = nI (hp i) := fun i hi => ⟨hpl i hi, by rw [g1 94 (by omega) (by omega), gFn_in (by omega) (by omega)]; rfl⟩
    refine ⟨289 + 1, s_M_once (σ0 := σ5) (by omega) (fun σ6 f1 f2 => ?_) 289 0 σ5 (by omega) (fun _ _ _ => rfl) (fun j hj => absurd hj (by omega))⟩
    have l89 : σ6 89 = σ 89 := by rw [f1 89 (by omega) (by omega)]; exact k89
    have l94 : ∀ i, i < nl → hp i < 16 ∧ σ6 94 i = nI (hp i) := fun i hi => by rw [f1 94 (by omega) (by omega)]; exact k94 i hi
    refine s_layBest (N := σ 89) (ln := hp) (by omega) (by omega) (by omega) (by omega) l89 l94 (fun σ7 i1 i2 => ?_)
    have h00 : (σ7 95 0, σ7 96 0) = pG (fun i => pVT (σ 89) a (hp i) (nI 0)) (fun i => pVT (σ 89) b (hp i) (nI 0)) (fun len => pTurn (σ 89 1) (nl - len + 0)) nl 0 := i2 0 (by omega) (by omega) 0 (by omega)
    rw [eG] at h00
    have h00 : σ7 95 0 = nI u := congrArg Prod.fst h00
    have hO : pOnce nl a b hp (σ 89) σ7 := fun g' hg' l hl' => by
      rw [i1 97 (by omega) (by omega), i1 98 (by omega) (by omega), (f2 _ (by omega)).1, (f2 _ (by omega)).2]
      exact g2 g' (by omega) hg' l hl'
    rw [h00]
    refine ⟨nl + 1, s_M_play (σ0 := σ7) (N := σ 89) (ln := hp) (by omega) (by omega) (by omega) (by rw [i1 89 (by omega) (by omega)]; exact l89) (fun i hi => by rw [i1 94 (by omega) (by omega)]; exact l94 i hi) hO (fun σ8 j1 j2 => ⟨?_, ?_⟩) nl σ7 (Nat.le_refl _) (fun _ _ _ => rfl) (fun g' hg' hn' l' hl' => ?_)⟩
    · have : g' = nl := by omega
      subst this
      have := i2 g' (by omega) (by omega) l' hl'
      rw [this, Nat.sub_self]
      rfl
    · have h01 : (σ8 95 0, σ8 96 0) = pP (fun i => pVT (σ 89) a (hp i) (nI 0)) (fun i => pVT (σ 89) b (hp i) (nI 0)) (fun len => pTurn (σ 89 1) (nl - len + 0)) (fun len => pTurn (σ 89 1) (nl - len + 1)) nl 0 := j2 0 (by omega) (by omega) 0 (by omega)
      rw [eP] at h01
      have h01 : σ8 95 0 = nI p := congrArg Prod.fst h01
      rw [h01]
    · have hA : ∀ c, (c < 24 ∨ 34 < c) → c < 94 → σ8 c = σ c := fun c hc c94 => by
        rw [j1 c (by omega) (by omega), i1 c (by omega) (by omega), f1 c (by omega) (by omega), g1 c (by omega) (by omega), gFn_ne (by omega), hF c hc]
      exact pInv_same (fun c hc => hA c (by omega) (by omega)) (fun c c1 c2 => hA c (by omega) (by omega)) (fun c c1 c2 => hA c (by omega) (by omega)) h
  · rw [eH]
    simp only [n01, Nat.le_refl, Nat.reduceLeDiff, Nat.reduceLT, Nat.reduceEqDiff, Nat.reduceAdd, Nat.reduceMul, Nat.reduceSub, forall_eq, true_and, and_true, not_true_eq_false, not_false_eq_true, false_implies, true_implies, implies_true, if_true, if_false, ite_self]
    unfold wM_passBy
    rw [eM σ _ hW.1]
    simp only [Nat.le_refl, Nat.reduceLeDiff, Nat.reduceLT, Nat.reduceEqDiff, Nat.reduceAdd, Nat.reduceMul, Nat.reduceSub, forall_eq, true_and, and_true, not_true_eq_false, not_false_eq_true, false_implies, true_implies, implies_true, if_true, if_false, ite_self]
    exact h
