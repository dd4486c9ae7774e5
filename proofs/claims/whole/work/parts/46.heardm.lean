/-- the reference's table: level g holds; of level g + 1 the places ahead of l hold, those ahead of e have their left part -/
def pHT (A R : Nat → Nat → Bool) (g l e : Nat) (σ : gM) : Prop :=
  (∀ l', l' ≤ g → σ 95 (17 * l' + (g - l')) = nI (hw A R g l')) ∧
  (∀ l', l' ≤ g + 1 → σ 95 (17 * l' + (g + 1 - l')) = nI (if l' < l then hw A R (g + 1) l' else if l' < e then (if 0 < l' ∧ A g (l' - 1) = true then hw A R g (l' - 1) else 0) else 0)) ∧
  (∀ g', g + 2 ≤ g' → g' ≤ 16 → ∀ l', l' ≤ g' → σ 95 (17 * l' + (g' - l')) = nI 0)
theorem pHT_1 {A R : Nat → Nat → Bool} {g l : Nat} {σ : gM} (hl : l ≤ g) (hg : g < 10) (h : pHT A R g l (l + 1) σ) (v : Int32) (hv : v = nI (if A g l = true then hw A R g l else 0)) : pHT A R g l (l + 2) (gU σ 95 (17 * l + (g - l) + 17) v) := by
  refine ⟨fun l' hl' => ?_, fun l' hl' => ?_, fun g' h1 h2 l' hl' => ?_⟩
  · rw [gU_off (by omega)]; exact h.1 l' hl'
  · by_cases e : l' = l + 1
    · subst e
      rw [show 17 * (l + 1) + (g + 1 - (l + 1)) = 17 * l + (g - l) + 17 by omega, gU_eq, if_neg (by omega), if_pos (by omega), hv, Nat.add_sub_cancel]
      simp
    · rw [gU_off (by omega), h.2.1 l' hl']
      by_cases q : l' < l
      · rw [if_pos q, if_pos q]
      · rw [if_neg q, if_neg q]
        by_cases q2 : l' < l + 1
        · rw [if_pos q2, if_pos (c := l' < l + 2) (by omega)]
        · rw [if_neg q2, if_neg (c := l' < l + 2) (by omega)]
  · rw [gU_off (by omega)]; exact h.2.2 g' h1 h2 l' hl'
theorem pHT_2 {A R : Nat → Nat → Bool} {g l : Nat} {σ : gM} (hl : l ≤ g) (hg : g < 10) (h : pHT A R g l (l + 2) σ) (v : Int32) (hv : v = nI (hw A R (g + 1) l)) : pHT A R g (l + 1) (l + 2) (gU σ 95 (17 * l + (g - l) + 1) v) := by
  refine ⟨fun l' hl' => ?_, fun l' hl' => ?_, fun g' h1 h2 l' hl' => ?_⟩
  · rw [gU_off (by omega)]; exact h.1 l' hl'
  · by_cases e : l' = l
    · subst e
      rw [show 17 * l' + (g + 1 - l') = 17 * l' + (g - l') + 1 by omega, gU_eq, if_pos (by omega), hv]
    · rw [gU_off (by omega), h.2.1 l' hl']
      by_cases q : l' < l
      · rw [if_pos q, if_pos (c := l' < l + 1) (by omega)]
      · rw [if_neg q, if_neg (c := l' < l + 1) (by omega)]
  · rw [gU_off (by omega)]; exact h.2.2 g' h1 h2 l' hl'
def pF95 (σ0 σ : gM) : Prop := ∀ c, c ≠ 95 → σ c = σ0 c
section HearM
variable {k nb nw nl b r i n : Nat} {hp : Nat → Nat} {it : Nat → Int32} {σ0 : gM} {Q : Int32 → gM → Prop} {x5 : Int32}
theorem s_hM_b {K127 : Int32 → Int32 → Int32 → Int32 → Int32 → Int32 → Int32 → gM → Prop} {K137 : Int32 → Int32 → Int32 → Int32 → Int32 → Int32 → Int32 → Int32 → gM → Prop} {x2 x3 x4 : Int32} (hW : pWF k (σ0 89) nb nw nl hp) (hb : b < nb) {g l : Nat} (hl : l ≤ g) (hg : g < 10) (hgn : g < nl) {σ : gM} (hF : pF95 σ0 σ) (h : pHT (hA (σ0 89) b nl hp it) (hR (σ0 89) b nl hp it) g l (l + 2) σ)
    (hK : ∀ σ', pF95 σ0 σ' → pHT (hA (σ0 89) b nl hp it) (hR (σ0 89) b nl hp it) g (l + 1) (l + 2) σ' → K137 (nI b) x2 x3 x4 x5 (nI nl) (nI g) (nI (l + 1)) σ') : wM_heard_b210 Q K127 K137 (nI b) x2 x3 x4 x5 (nI nl) (nI g) (nI l) (nI (17 * l + (g - l))) (it g) σ := by
  have hn : nw ≤ 16 := hW.2.2.2.2.1
  have hln : nl ≤ nw := hW.2.2.2.2.2.1
  have hnb : nb ≤ 4 := hW.2.2.2.1
  have h89 : σ 89 = σ0 89 := hF 89 (by omega)
  have c1 := h.1 l hl
  have c2 := h.2.1 l (by omega)
  rw [if_neg (by omega), if_pos (by omega), show 17 * l + (g + 1 - l) = 17 * l + (g - l) + 1 by omega] at c2
  have hwe : hw (hA (σ0 89) b nl hp it) (hR (σ0 89) b nl hp it) (g + 1) l = (if 0 < l ∧ hA (σ0 89) b nl hp it g (l - 1) = true then hw (hA (σ0 89) b nl hp it) (hR (σ0 89) b nl hp it) g (l - 1) else 0) + (if hR (σ0 89) b nl hp it g l = true then hw (hA (σ0 89) b nl hp it) (hR (σ0 89) b nl hp it) g l else 0) := by
    rw [hw]
    simp [hl]
  have stay : hR (σ0 89) b nl hp it g l = false → K137 (nI b) x2 x3 x4 x5 (nI nl) (nI g) (nI (l + 1)) σ := fun hr => by
    refine hK σ hF ?_
    have := pHT_2 hl hg h (σ 95 (17 * l + (g - l) + 1)) (by rw [c2, hwe, hr]; simp)
    rw [gU_self] at this
    exact this
  unfold wM_heard_b210
  by_cases q : g + 1 < nl
  · have q2 : ¬ nl - 1 ≤ g := by omega
    have hh := hW.2.2.2.2.2.2.2.2.1 (nl - 1 - g + l) (by omega)
    have eh : σ 89 (86 + (nl - 1 - g + l)) = nI (hp (nl - 1 - g + l)) := by rw [h89]; exact hh.2.1
    simp (disch := first | assumption | omega | decide) only [nI_leI2, nI_ltI2, nI_eqI, nI_add, nI_sub, pk_mul, nI_clamp, vinT, Nat.add_sub_cancel, Nat.le_refl, Nat.reduceLeDiff, Nat.reduceLT, Nat.reduceEqDiff, Nat.reduceAdd, Nat.reduceMul, Nat.reduceSub, forall_eq, true_and, and_true, not_true_eq_false, not_false_eq_true, false_implies, true_implies, implies_true, if_true, if_false, ite_self, q2, eM_heap, eh, eM_worthOf, h89]
    have hre : hR (σ0 89) b nl hp it g l = decide (pVT (σ0 89) b (hp (nl - 1 - g + l)) (nI 0) = it g) := by
      unfold hR
      rw [decide_eq_true q]; rfl
    refine ⟨fun e => ?_, fun e => ?_⟩
    · have hr : hR (σ0 89) b nl hp it g l = true := by rw [hre]; exact decide_eq_true e
      simp (disch := first | assumption | omega | decide) only [c1, c2, nI_add]
      refine hK _ (fun c hc => by rw [gU_ne hc]; exact hF c hc) (pHT_2 hl hg h _ ?_)
      rw [hwe, hr]
      simp
    · exact stay (by rw [hre]; exact decide_eq_false e)
  · have q2 : nl - 1 ≤ g := by omega
    simp (disch := first | assumption | omega | decide) only [nI_leI2, nI_ltI2, nI_eqI, nI_add, nI_sub, pk_mul, nI_clamp, vinT, Nat.add_sub_cancel, Nat.le_refl, Nat.reduceLeDiff, Nat.reduceLT, Nat.reduceEqDiff, Nat.reduceAdd, Nat.reduceMul, Nat.reduceSub, forall_eq, true_and, and_true, not_true_eq_false, not_false_eq_true, false_implies, true_implies, implies_true, if_true, if_false, ite_self, q2]
    exact stay (by unfold hR; rw [decide_eq_false q]; rfl)
theorem s_hM_row {K127 : Int32 → Int32 → Int32 → Int32 → Int32 → Int32 → Int32 → gM → Prop} (hW : pWF k (σ0 89) nb nw nl hp) (hb : b < nb) (hr : r < 8) (hin : i + n ≤ 40) (hit : ∀ t, t < n → σ0 85 (40 * r + i + t) = it t) {g : Nat} (hg : g < 10) (hgn : g < nl) (hgn2 : g < n)
    (hK : ∀ σ', pF95 σ0 σ' → pHT (hA (σ0 89) b nl hp it) (hR (σ0 89) b nl hp it) g (g + 1) (g + 2) σ' → K127 (nI b) (nI r) (nI i) (nI n) x5 (nI nl) (nI (g + 1)) σ') : ∀ (m l : Nat) (σ : gM), l + m = g + 1 → pF95 σ0 σ → pHT (hA (σ0 89) b nl hp it) (hR (σ0 89) b nl hp it) g l (l + 1) σ → wM_heard_l137 Q K127 (m + 1) (nI b) (nI r) (nI i) (nI n) x5 (nI nl) (nI g) (nI l) σ := by
  have hn : nw ≤ 16 := hW.2.2.2.2.1
  have hln : nl ≤ nw := hW.2.2.2.2.2.1
  have hnb : nb ≤ 4 := hW.2.2.2.1
  intro m
  induction m with
  | zero =>
    intro l σ hl hF h
    have : l = g + 1 := by omega
    subst this
    have q : g < g + 1 := by omega
    rw [wM_heard_l137]
    simp (disch := first | assumption | omega | decide) only [nI_leI2, nI_ltI2, nI_eqI, nI_add, nI_sub, pk_mul, nI_clamp, vinT, Nat.add_sub_cancel, Nat.le_refl, Nat.reduceLeDiff, Nat.reduceLT, Nat.reduceEqDiff, Nat.reduceAdd, Nat.reduceMul, Nat.reduceSub, forall_eq, true_and, and_true, not_true_eq_false, not_false_eq_true, false_implies, true_implies, implies_true, if_true, if_false, ite_self, q]
    exact hK σ hF h
  | succ m ih =>
    intro l σ hl hF h
    have hlg : l ≤ g := by omega
    have q : ¬ g < l := by omega
    have h89 : σ 89 = σ0 89 := hF 89 (by omega)
    have h85 : σ 85 (40 * r + i + g) = it g := by rw [hF 85 (by omega)]; exact hit g hgn2
    have hh := hW.2.2.2.2.2.2.2.2.1 l (by omega)
    have eh : σ 89 (86 + l) = nI (hp l) := by rw [h89]; exact hh.2.1
    have e4 : 17 * l + g - l = 17 * l + (g - l) := by omega
    have c1 := h.1 l hlg
    have c2 := h.2.1 (l + 1) (by omega)
    rw [if_neg (by omega), if_neg (by omega), show 17 * (l + 1) + (g + 1 - (l + 1)) = 17 * l + (g - l) + 17 by omega] at c2
    have hae : hA (σ0 89) b nl hp it g l = decide (pVT (σ0 89) b (hp l) (nI 0) = it g) := by
      unfold hA
      rw [decide_eq_true hgn]; rfl
    have go : ∀ σ', pF95 σ0 σ' → pHT (hA (σ0 89) b nl hp it) (hR (σ0 89) b nl hp it) g l (l + 2) σ' → wM_heard_b210 Q K127 (wM_heard_l137 Q K127 (m + 1)) (nI b) (nI r) (nI i) (nI n) x5 (nI nl) (nI g) (nI l) (nI (17 * l + (g - l))) (it g) σ' := fun σ' f1 f2 => s_hM_b hW hb hlg hg hgn f1 f2 (fun σ2 g1 g2 => ih (l + 1) σ2 (by omega) g1 g2)
    rw [wM_heard_l137]
    simp (disch := first | assumption | omega | decide) only [nI_leI2, nI_ltI2, nI_eqI, nI_add, nI_sub, pk_mul, nI_clamp, vinT, Nat.add_sub_cancel, Nat.le_refl, Nat.reduceLeDiff, Nat.reduceLT, Nat.reduceEqDiff, Nat.reduceAdd, Nat.reduceMul, Nat.reduceSub, forall_eq, true_and, and_true, not_true_eq_false, not_false_eq_true, false_implies, true_implies, implies_true, if_true, if_false, ite_self, q, e4, h85, eM_heap, eh, eM_worthOf, h89]
    refine ⟨fun e => ?_, fun e => ?_⟩
    · simp (disch := first | assumption | omega | decide) only [c1, c2, nI_add, Nat.zero_add]
      refine go _ (fun c hc => by rw [gU_ne hc]; exact hF c hc) (pHT_1 hlg hg h _ ?_)
      rw [hae, decide_eq_true e]
      rfl
    · refine go σ hF ?_
      have := pHT_1 hlg hg h (σ 95 (17 * l + (g - l) + 17)) (by rw [c2, hae, decide_eq_false e]; rfl)
      rw [gU_self] at this
      exact this
theorem s_hM_set {K : Int32 → Int32 → Int32 → Int32 → Int32 → Int32 → gM → Prop} (hW : pWF k (σ0 89) nb nw nl hp) {l f a : Nat} (hl : l ≤ n) (hn2 : n ≤ nl) {xe : Int32} {σ : gM} (h89 : σ 89 = σ0 89)
    (hf : f < 2147483648) : ∀ (m k' s : Nat), k' + m = nl → K (nI n) x5 (nI nl) (nI (a + f)) (if f ≤ 0 then xe else (xe &&& nI (ombits hp n nl l m k' s))) (nI (l + 1)) σ → wM_heard_l315 Q K (m + 1) (nI n) x5 (nI nl) (nI a) xe (nI l) (nI f) (nI s) (nI k') σ := by
  have hn : nw ≤ 16 := hW.2.2.2.2.1
  have hln : nl ≤ nw := hW.2.2.2.2.2.1
  intro m
  induction m with
  | zero =>
    intro k' s hk h
    have : nl ≤ k' := by omega
    rw [wM_heard_l315]
    simp (disch := first | assumption | omega | decide) only [nI_leI2, nI_ltI2, nI_eqI, nI_add, nI_sub, pk_mul, nI_clamp, vinT, Nat.add_sub_cancel, Nat.le_refl, Nat.reduceLeDiff, Nat.reduceLT, Nat.reduceEqDiff, Nat.reduceAdd, Nat.reduceMul, Nat.reduceSub, forall_eq, true_and, and_true, not_true_eq_false, not_false_eq_true, false_implies, true_implies, implies_true, if_true, if_false, ite_self, this]
    exact h
  | succ m ih =>
    intro k' s hk h
    have q : ¬ nl ≤ k' := by omega
    have hh := hW.2.2.2.2.2.2.2.2.1 k' (by omega)
    have eh : σ 89 (86 + k') = nI (hp k') := by rw [h89]; exact hh.2.1
    have hs : (2 : Nat) ^ hp k' < 2 ^ 16 := Nat.pow_lt_pow_right (by omega) (by omega)
    have esh : nI 1 <<< (nI (hp k') &&& 31) = nI (1 * 2 ^ hp k') := sh_l (by omega) (by omega)
    rw [wM_heard_l315]
    rw [ombits] at h
    by_cases q1 : k' < l
    · rw [if_pos (c := k' < l ∨ nl - n + l ≤ k') (Or.inl q1)] at h
      simp (disch := first | assumption | omega | decide) only [nI_leI2, nI_ltI2, nI_eqI, nI_add, nI_sub, pk_mul, nI_clamp, vinT, Nat.add_sub_cancel, Nat.le_refl, Nat.reduceLeDiff, Nat.reduceLT, Nat.reduceEqDiff, Nat.reduceAdd, Nat.reduceMul, Nat.reduceSub, forall_eq, true_and, and_true, not_true_eq_false, not_false_eq_true, false_implies, true_implies, implies_true, if_true, if_false, ite_self, q, q1, eM_heap, eh, esh, nI_or]
      exact ih (k' + 1) _ (by omega) h
    · by_cases q2 : k' < nl - n + l
      · rw [if_neg (c := k' < l ∨ nl - n + l ≤ k') (by omega)] at h
        simp (disch := first | assumption | omega | decide) only [nI_leI2, nI_ltI2, nI_eqI, nI_add, nI_sub, pk_mul, nI_clamp, vinT, Nat.add_sub_cancel, Nat.le_refl, Nat.reduceLeDiff, Nat.reduceLT, Nat.reduceEqDiff, Nat.reduceAdd, Nat.reduceMul, Nat.reduceSub, forall_eq, true_and, and_true, not_true_eq_false, not_false_eq_true, false_implies, true_implies, implies_true, if_true, if_false, ite_self, q, q1, q2, or_0]
        exact ih (k' + 1) _ (by omega) h
      · rw [if_pos (c := k' < l ∨ nl - n + l ≤ k') (Or.inr (by omega))] at h
        simp (disch := first | assumption | omega | decide) only [nI_leI2, nI_ltI2, nI_eqI, nI_add, nI_sub, pk_mul, nI_clamp, vinT, Nat.add_sub_cancel, Nat.le_refl, Nat.reduceLeDiff, Nat.reduceLT, Nat.reduceEqDiff, Nat.reduceAdd, Nat.reduceMul, Nat.reduceSub, forall_eq, true_and, and_true, not_true_eq_false, not_false_eq_true, false_implies, true_implies, implies_true, if_true, if_false, ite_self, q, q1, q2, eM_heap, eh, esh, nI_or]
        exact ih (k' + 1) _ (by omega) h
theorem s_hM_end (hW : pWF k (σ0 89) nb nw nl hp) {f : Nat → Nat} (hn10 : n ≤ 10) (hn2 : n ≤ nl) (hfb : ∀ t, t ≤ 10 → f t ≤ 1024) {σ : gM} (h89 : σ 89 = σ0 89) (hc : ∀ l, l ≤ n → σ 95 (17 * l + (n - l)) = nI (f l)) : ∀ (m l a : Nat) (o : Option Nat), l + m = n + 1 → a ≤ 1024 * l → (a = 0 ↔ o = none) → (Q (if x5 = nI 0 then nI (sumN f m l a) else ansS (sB f (hB hp n nl) m l o)) (gU σ 82 3 (nI 0))) → wM_heard_l284 Q (m + 1) (nI n) x5 (nI nl) (nI a) (encS o) (nI l) σ := by
  have hn : nw ≤ 16 := hW.2.2.2.2.1
  have hln : nl ≤ nw := hW.2.2.2.2.2.1
  intro m
  induction m with
  | zero =>
    intro l a o hl ha hao h
    have q : n < l := by omega
    rw [wM_heard_l284]
    simp (disch := first | assumption | omega | decide) only [nI_ltI2, q, Nat.le_refl, Nat.reduceLeDiff, Nat.reduceLT, Nat.reduceEqDiff, Nat.reduceAdd, Nat.reduceMul, Nat.reduceSub, forall_eq, true_and, and_true, not_true_eq_false, not_false_eq_true, false_implies, true_implies, implies_true, if_true, if_false, ite_self, wM_did, encS_ans2 (s := a) (by omega) hao]
    exact h
  | succ m ih =>
    intro l a o hl ha hao h
    have q : ¬ n < l := by omega
    have e4 : 17 * l + n - l = 17 * l + (n - l) := by omega
    have c1 := hc l (by omega)
    have fb := hfb l (by omega)
    rw [wM_heard_l284]
    simp (disch := first | assumption | omega | decide) only [nI_leI2, nI_ltI2, nI_eqI, nI_add, nI_sub, pk_mul, nI_clamp, vinT, Nat.add_sub_cancel, Nat.le_refl, Nat.reduceLeDiff, Nat.reduceLT, Nat.reduceEqDiff, Nat.reduceAdd, Nat.reduceMul, Nat.reduceSub, forall_eq, true_and, and_true, not_true_eq_false, not_false_eq_true, false_implies, true_implies, implies_true, if_true, if_false, ite_self, q, e4, c1]
    refine ⟨nl + 1, s_hM_set hW (by omega) hn2 h89 (by omega) nl 0 0 (by omega) ?_⟩
    rw [ombits_B (by omega) hn2]
    rw [sumN, sB] at h
    by_cases q2 : f l = 0
    · rw [if_pos q2] at h
      rw [if_pos (by omega)]
      exact ih (l + 1) _ o (by omega) (by omega) (by rw [q2]; exact hao) h
    · rw [if_neg q2] at h
      rw [if_neg (by omega), encS_and]
      exact ih (l + 1) _ (some _) (by omega) (by omega) (by simp; omega) h
theorem s_hM_levels (hW : pWF k (σ0 89) nb nw nl hp) (hb : b < nb) (hr : r < 8) (hin : i + n ≤ 40) (hn10 : n ≤ 10) (hn2 : n ≤ nl) (hit : ∀ t, t < n → σ0 85 (40 * r + i + t) = it t)
    (hQ : ∀ σ', pF95 σ0 σ' → Q (if x5 = nI 0 then nI (sumN (hw (hA (σ0 89) b nl hp it) (hR (σ0 89) b nl hp it) n) (n + 1) 0 0) else ansS (sB (hw (hA (σ0 89) b nl hp it) (hR (σ0 89) b nl hp it) n) (hB hp n nl) (n + 1) 0 none)) (gU σ' 82 3 (nI 0))) : ∀ (m g : Nat) (σ : gM), g + m = n → pF95 σ0 σ → pHT (hA (σ0 89) b nl hp it) (hR (σ0 89) b nl hp it) g 0 1 σ → wM_heard_l127 Q (m + 1) (nI b) (nI r) (nI i) (nI n) x5 (nI nl) (nI g) σ := by
  intro m
  induction m with
  | zero =>
    intro g σ hg hF h
    have : g = n := by omega
    subst this
    rw [wM_heard_l127]
    simp (disch := first | assumption | omega | decide) only [nI_leI2, Nat.le_refl, Nat.reduceLeDiff, Nat.reduceLT, Nat.reduceEqDiff, Nat.reduceAdd, Nat.reduceMul, Nat.reduceSub, forall_eq, true_and, and_true, not_true_eq_false, not_false_eq_true, false_implies, true_implies, implies_true, if_true, if_false, ite_self]
    exact ⟨g + 1 + 1, s_hM_end (f := hw (hA (σ0 89) b nl hp it) (hR (σ0 89) b nl hp it) g) hW hn10 hn2 (fun t _ => hw_1024 t hn10) (hF 89 (by omega)) (fun l hl => h.1 l hl) (g + 1) 0 0 none (by omega) (by omega) (by simp) (hQ σ hF)⟩
  | succ m ih =>
    intro g σ hg hF h
    have q : ¬ n ≤ g := by omega
    rw [wM_heard_l127]
    simp (disch := first | assumption | omega | decide) only [nI_leI2, q, Nat.le_refl, Nat.reduceLeDiff, Nat.reduceLT, Nat.reduceEqDiff, Nat.reduceAdd, Nat.reduceMul, Nat.reduceSub, forall_eq, true_and, and_true, not_true_eq_false, not_false_eq_true, false_implies, true_implies, implies_true, if_true, if_false, ite_self]
    refine ⟨g + 1 + 1, s_hM_row hW hb hr hin hit (by omega) (by omega) (by omega) (fun σ' f1 f2 => ih (g + 1) σ' (by omega) f1 ⟨fun l' hl' => ?_, fun l' hl' => ?_, fun g' h1 h2 l' hl' => ?_⟩) (g + 1) 0 σ (by omega) hF h⟩
    · rw [f2.2.1 l' hl']
      by_cases q : l' < g + 1
      · rw [if_pos q]
      · have : l' = g + 1 := by omega
        subst this
        rw [if_neg q, if_pos (by omega), hw, if_neg (c := g + 1 ≤ g ∧ _) (by omega)]
        rfl
    · rw [f2.2.2 (g + 1 + 1) (by omega) (by omega) l' hl', if_neg (by omega)]
      by_cases q : l' < 1
      · rw [if_pos q, if_neg (by omega)]
      · rw [if_neg q]
    · exact f2.2.2 g' (by omega) h2 l' hl'
theorem s_hM_zero (hW : pWF k (σ0 89) nb nw nl hp) (hb : b < nb) (hr : r < 8) (hin : i + n ≤ 40) (hn10 : n ≤ 10) (hn2 : n ≤ nl) (hit : ∀ t, t < n → σ0 85 (40 * r + i + t) = it t)
    (hQ : ∀ σ', pF95 σ0 σ' → Q (if x5 = nI 0 then nI (sumN (hw (hA (σ0 89) b nl hp it) (hR (σ0 89) b nl hp it) n) (n + 1) 0 0) else ansS (sB (hw (hA (σ0 89) b nl hp it) (hR (σ0 89) b nl hp it) n) (hB hp n nl) (n + 1) 0 none)) (gU σ' 82 3 (nI 0))) : ∀ (m j : Nat) (σ : gM), j + m = 289 → σ = gFn σ0 95 0 j (fun _ => nI 0) → wM_heard_l95 Q (m + 1) (nI b) (nI r) (nI i) (nI n) x5 (nI nl) (nI j) σ := by
  intro m
  induction m with
  | zero =>
    intro j σ hj hσ
    have : j = 289 := by omega
    subst this
    subst hσ
    rw [wM_heard_l95]
    simp (disch := first | assumption | omega | decide) only [nI_leI2, Nat.le_refl, Nat.reduceLeDiff, Nat.reduceLT, Nat.reduceEqDiff, Nat.reduceAdd, Nat.reduceMul, Nat.reduceSub, forall_eq, true_and, and_true, not_true_eq_false, not_false_eq_true, false_implies, true_implies, implies_true, if_true, if_false, ite_self]
    refine ⟨n + 1, s_hM_levels hW hb hr hin hn10 hn2 hit hQ n 0 _ (by omega) (fun c hc => by rw [gU_ne hc, gFn_ne hc]) ⟨fun l' hl' => ?_, fun l' hl' => ?_, fun g' h1 h2 l' hl' => ?_⟩⟩
    · have : l' = 0 := by omega
      subst this
      rw [show 17 * 0 + (0 - 0) = 0 from rfl, gU_eq]
      rfl
    · rw [gU_off (by omega), gFn_in (by omega) (by omega), if_neg (by omega)]
      by_cases q : l' < 1
      · rw [if_pos q, if_neg (by omega)]
      · rw [if_neg q]
    · rw [gU_off (by omega), gFn_in (by omega) (by omega)]
  | succ m ih =>
    intro j σ hj hσ
    have q : ¬ 289 ≤ j := by omega
    rw [wM_heard_l95]
    simp (disch := first | assumption | omega | decide) only [nI_leI2, nI_ltI2, nI_eqI, nI_add, nI_sub, pk_mul, nI_clamp, vinT, Nat.add_sub_cancel, Nat.le_refl, Nat.reduceLeDiff, Nat.reduceLT, Nat.reduceEqDiff, Nat.reduceAdd, Nat.reduceMul, Nat.reduceSub, forall_eq, true_and, and_true, not_true_eq_false, not_false_eq_true, false_implies, true_implies, implies_true, if_true, if_false, ite_self, q]
    refine ih (j + 1) _ (by omega) ?_
    rw [hσ]
    have e := gFn_succ σ0 95 0 j (fun _ => nI 0)
    rw [Nat.zero_add] at e
    exact e
end HearM
theorem op_heard {k : Nat} {x1 x2 x3 x4 x5 : Int32} {σ : gM} (h : pInv k σ) : pBoth (wH_heard x1 x2 x3 x4 x5) (wM_heard x1 x2 x3 x4 x5) σ (pInv k) := by
  obtain ⟨nb, nw, nl, hp, hM, hW⟩ := h.2.2.2.2.2.2.1
  have hn : nw ≤ 16 := hW.2.2.2.2.1
  have hl : nl ≤ nw := hW.2.2.2.2.2.1
  have hnb : nb ≤ 4 := hW.2.2.2.1
  have n01 : ¬ nI 1 = nI 0 := by decide
  unfold pBoth wH_heard
  rw [eH_isNoBuyer hM.2.2.1]
  have em := fun τ (ht : τ 89 = σ 89) Q => @eM_isBuyerAt x1 τ Q nb (by rw [ht]; exact hW.1) hnb
  rcases i_in x1 nb (by omega) with ⟨b, hb, rfl⟩ | ⟨e1, e2⟩
  · rw [pNB_in hb (by omega)]
    have emb := fun Q => (em σ rfl Q).trans (by rw [pB_in hb (by omega)])
    have bad : ∀ (hc : ¬ ((∃ r, r < 8 ∧ x2 = nI r) ∧ (∃ n, 1 ≤ n ∧ n ≤ 10 ∧ x4 = nI n) ∧ (∃ y, y ≤ 1 ∧ x5 = nI y))), wM_heard (nI b) x2 x3 x4 x5 σ (fun r2 σ2 => (-1000001 : Int32) = r2 ∧ pInv k σ2) := by
      intro hc
      unfold wM_heard
      rw [emb]
      simp only [n01, Nat.le_refl, Nat.reduceLeDiff, Nat.reduceLT, Nat.reduceEqDiff, Nat.reduceAdd, Nat.reduceMul, Nat.reduceSub, forall_eq, true_and, and_true, not_true_eq_false, not_false_eq_true, false_implies, true_implies, implies_true, if_true, if_false, ite_self, eM_isRow]
      rcases i_nat x2 with h2 | ⟨r, hr, rfl⟩
      · simp (disch := first | assumption | omega | decide) only [ng_lt, ng_le, ng_gt, ng_ge, ng_eq, ng_qe, Nat.le_refl, Nat.reduceLeDiff, Nat.reduceLT, Nat.reduceEqDiff, Nat.reduceAdd, Nat.reduceMul, Nat.reduceSub, forall_eq, true_and, and_true, not_true_eq_false, not_false_eq_true, false_implies, true_implies, implies_true, if_true, if_false, ite_self]
        exact h
      by_cases hr7 : 7 < r
      · simp (disch := first | assumption | omega | decide) only [nI_leI2, nI_ltI2, nI_eqI, nI_add, nI_sub, pk_mul, nI_clamp, vinT, Nat.add_sub_cancel, Nat.le_refl, Nat.reduceLeDiff, Nat.reduceLT, Nat.reduceEqDiff, Nat.reduceAdd, Nat.reduceMul, Nat.reduceSub, forall_eq, true_and, and_true, not_true_eq_false, not_false_eq_true, false_implies, true_implies, implies_true, if_true, if_false, ite_self, hr7, Nat.not_lt_zero]
        exact h
      rcases i_nat x4 with h4 | ⟨n, hn4, rfl⟩
      · simp (disch := first | assumption | omega | decide) only [nI_leI2, nI_ltI2, nI_eqI, nI_add, nI_sub, pk_mul, nI_clamp, vinT, Nat.add_sub_cancel, Nat.le_refl, Nat.reduceLeDiff, Nat.reduceLT, Nat.reduceEqDiff, Nat.reduceAdd, Nat.reduceMul, Nat.reduceSub, forall_eq, true_and, and_true, not_true_eq_false, not_false_eq_true, false_implies, true_implies, implies_true, if_true, if_false, ite_self, ng_lt, ng_le, ng_gt, ng_ge, ng_eq, ng_qe, n01, hr7, Nat.not_lt_zero, eM_in]
        exact h
      by_cases hn1 : n < 1
      · simp (disch := first | assumption | omega | decide) only [nI_leI2, nI_ltI2, nI_eqI, nI_add, nI_sub, pk_mul, nI_clamp, vinT, Nat.add_sub_cancel, Nat.le_refl, Nat.reduceLeDiff, Nat.reduceLT, Nat.reduceEqDiff, Nat.reduceAdd, Nat.reduceMul, Nat.reduceSub, forall_eq, true_and, and_true, not_true_eq_false, not_false_eq_true, false_implies, true_implies, implies_true, if_true, if_false, ite_self, n01, hr7, Nat.not_lt_zero, eM_in, hn1]
        exact h
      by_cases hn10 : 10 < n
      · simp (disch := first | assumption | omega | decide) only [nI_leI2, nI_ltI2, nI_eqI, nI_add, nI_sub, pk_mul, nI_clamp, vinT, Nat.add_sub_cancel, Nat.le_refl, Nat.reduceLeDiff, Nat.reduceLT, Nat.reduceEqDiff, Nat.reduceAdd, Nat.reduceMul, Nat.reduceSub, forall_eq, true_and, and_true, not_true_eq_false, not_false_eq_true, false_implies, true_implies, implies_true, if_true, if_false, ite_self, n01, hr7, Nat.not_lt_zero, eM_in, hn1, hn10]
        exact h
      rcases i_nat x5 with h5 | ⟨y, hy, rfl⟩
      · simp (disch := first | assumption | omega | decide) only [nI_leI2, nI_ltI2, nI_eqI, nI_add, nI_sub, pk_mul, nI_clamp, vinT, Nat.add_sub_cancel, Nat.le_refl, Nat.reduceLeDiff, Nat.reduceLT, Nat.reduceEqDiff, Nat.reduceAdd, Nat.reduceMul, Nat.reduceSub, forall_eq, true_and, and_true, not_true_eq_false, not_false_eq_true, false_implies, true_implies, implies_true, if_true, if_false, ite_self, ng_lt, ng_le, ng_gt, ng_ge, ng_eq, ng_qe, n01, hr7, Nat.not_lt_zero, eM_in, hn1, hn10]
        exact h
      by_cases hy1 : 1 < y
      · simp (disch := first | assumption | omega | decide) only [nI_leI2, nI_ltI2, nI_eqI, nI_add, nI_sub, pk_mul, nI_clamp, vinT, Nat.add_sub_cancel, Nat.le_refl, Nat.reduceLeDiff, Nat.reduceLT, Nat.reduceEqDiff, Nat.reduceAdd, Nat.reduceMul, Nat.reduceSub, forall_eq, true_and, and_true, not_true_eq_false, not_false_eq_true, false_implies, true_implies, implies_true, if_true, if_false, ite_self, n01, hr7, Nat.not_lt_zero, eM_in, hn1, hn10, hy1]
        exact h
      exact absurd ⟨⟨r, by omega, rfl⟩, ⟨n, by omega, by omega, rfl⟩, ⟨y, by omega, rfl⟩⟩ hc
    simp only [Nat.le_refl, Nat.reduceLeDiff, Nat.reduceLT, Nat.reduceEqDiff, Nat.reduceAdd, Nat.reduceMul, Nat.reduceSub, forall_eq, true_and, and_true, not_true_eq_false, not_false_eq_true, false_implies, true_implies, implies_true, if_true, if_false, ite_self]
    rw [eH_isNoRow]
    rcases i_nat x2 with h2 | ⟨r, hr, rfl⟩
    · simp (disch := first | assumption | omega | decide) only [Nat.le_refl, Nat.reduceLeDiff, Nat.reduceLT, Nat.reduceEqDiff, Nat.reduceAdd, Nat.reduceMul, Nat.reduceSub, forall_eq, true_and, and_true, not_true_eq_false, not_false_eq_true, false_implies, true_implies, implies_true, if_true, if_false, ite_self, h2, n01]
      exact bad (fun ⟨⟨r, hr, e⟩, _⟩ => by rw [e] at h2; exact absurd h2 (by rw [nI_ltI2 (by omega) (by omega)]; omega))
    by_cases hr8 : r < 8
    · have hr7 : ¬ 7 < r := by omega
      simp (disch := first | assumption | omega | decide) only [nI_leI2, nI_ltI2, nI_eqI, nI_add, nI_sub, pk_mul, nI_clamp, vinT, Nat.add_sub_cancel, Nat.le_refl, Nat.reduceLeDiff, Nat.reduceLT, Nat.reduceEqDiff, Nat.reduceAdd, Nat.reduceMul, Nat.reduceSub, forall_eq, true_and, and_true, not_true_eq_false, not_false_eq_true, false_implies, true_implies, implies_true, if_true, if_false, ite_self, hr8, Nat.not_lt_zero]
      rcases i_nat x4 with h4 | ⟨n, hn4, rfl⟩
      · simp (disch := first | assumption | omega | decide) only [nI_leI2, nI_ltI2, nI_eqI, nI_add, nI_sub, pk_mul, nI_clamp, vinT, Nat.add_sub_cancel, Nat.le_refl, Nat.reduceLeDiff, Nat.reduceLT, Nat.reduceEqDiff, Nat.reduceAdd, Nat.reduceMul, Nat.reduceSub, forall_eq, true_and, and_true, not_true_eq_false, not_false_eq_true, false_implies, true_implies, implies_true, if_true, if_false, ite_self, ng_lt, ng_le, ng_gt, ng_ge, ng_eq, ng_qe]
        exact bad (fun ⟨_, ⟨n, _, _, e⟩, _⟩ => by rw [e] at h4; exact absurd h4 (by rw [nI_ltI2 (by omega) (by omega)]; omega))
      by_cases hn1 : n < 1
      · simp (disch := first | assumption | omega | decide) only [nI_leI2, nI_ltI2, nI_eqI, nI_add, nI_sub, pk_mul, nI_clamp, vinT, Nat.add_sub_cancel, Nat.le_refl, Nat.reduceLeDiff, Nat.reduceLT, Nat.reduceEqDiff, Nat.reduceAdd, Nat.reduceMul, Nat.reduceSub, forall_eq, true_and, and_true, not_true_eq_false, not_false_eq_true, false_implies, true_implies, implies_true, if_true, if_false, ite_self, hn1]
        exact bad (fun ⟨_, ⟨n', _, _, e⟩, _⟩ => by have := nI_inj hn4 (by omega) e; omega)
      by_cases hn10 : 10 < n
      · simp (disch := first | assumption | omega | decide) only [nI_leI2, nI_ltI2, nI_eqI, nI_add, nI_sub, pk_mul, nI_clamp, vinT, Nat.add_sub_cancel, Nat.le_refl, Nat.reduceLeDiff, Nat.reduceLT, Nat.reduceEqDiff, Nat.reduceAdd, Nat.reduceMul, Nat.reduceSub, forall_eq, true_and, and_true, not_true_eq_false, not_false_eq_true, false_implies, true_implies, implies_true, if_true, if_false, ite_self, hn1, hn10]
        exact bad (fun ⟨_, ⟨n', _, _, e⟩, _⟩ => by have := nI_inj hn4 (by omega) e; omega)
      rcases i_nat x5 with h5 | ⟨y, hy, rfl⟩
      · simp (disch := first | assumption | omega | decide) only [nI_leI2, nI_ltI2, nI_eqI, nI_add, nI_sub, pk_mul, nI_clamp, vinT, Nat.add_sub_cancel, Nat.le_refl, Nat.reduceLeDiff, Nat.reduceLT, Nat.reduceEqDiff, Nat.reduceAdd, Nat.reduceMul, Nat.reduceSub, forall_eq, true_and, and_true, not_true_eq_false, not_false_eq_true, false_implies, true_implies, implies_true, if_true, if_false, ite_self, ng_lt, ng_le, ng_gt, ng_ge, ng_eq, ng_qe, hn1, hn10]
        exact bad (fun ⟨_, _, ⟨y, _, e⟩⟩ => by rw [e] at h5; exact absurd h5 (by rw [nI_ltI2 (by omega) (by omega)]; omega))
      by_cases hy1 : y ≤ 1
      · have hy2 : ¬ 1 < y := by omega
        obtain ⟨c, c1, c2, c3, c4⟩ := e_find h.1 hr8 x3 hn4
        simp (disch := first | assumption | omega | decide) only [nI_leI2, nI_ltI2, nI_eqI, nI_add, nI_sub, pk_mul, nI_clamp, vinT, Nat.add_sub_cancel, Nat.le_refl, Nat.reduceLeDiff, Nat.reduceLT, Nat.reduceEqDiff, Nat.reduceAdd, Nat.reduceMul, Nat.reduceSub, forall_eq, true_and, and_true, not_true_eq_false, not_false_eq_true, false_implies, true_implies, implies_true, if_true, if_false, ite_self, hn1, hn10, hy1, Nat.not_lt_zero, c2]
        have hMod : ∀ (τ : gM) (P : Int32 → gM → Prop), τ 89 = σ 89 → wM_whyNot (nI r) x3 (nI n) τ = (fun Q => Q (nI c) τ) → (c ≠ 0 → P ((-1000010 : Int32) - nI c) (gU τ 82 3 (nI c))) → (c = 0 → (n ≤ nl → ∃ n78 : Nat, wM_heard_l95 P n78 (nI b) (nI r) x3 (nI n) (nI y) (nI nl) (nI 0) τ) ∧ (nl < n → P (if y = 0 then nI 0 else (-1000000 : Int32)) (gU τ 82 3 (nI 0)))) → wM_heard (nI b) (nI r) x3 (nI n) (nI y) τ P := by
          intro τ P ht hw hc hz
          have e5' : τ 89 5 = nI nl := by rw [ht]; exact hW.2.2.1
          unfold wM_heard
          rw [em τ ht, pB_in hb (by omega)]
          simp (disch := first | assumption | omega | decide) only [nI_leI2, nI_ltI2, nI_eqI, nI_add, nI_sub, pk_mul, nI_clamp, vinT, Nat.add_sub_cancel, Nat.le_refl, Nat.reduceLeDiff, Nat.reduceLT, Nat.reduceEqDiff, Nat.reduceAdd, Nat.reduceMul, Nat.reduceSub, forall_eq, true_and, and_true, not_true_eq_false, not_false_eq_true, false_implies, true_implies, implies_true, if_true, if_false, ite_self, n01, eM_isRow, eM_in, hr7, hn1, hn10, hy2, Nat.not_lt_zero, hw]
          by_cases q : c = 0
          · obtain ⟨z1, z2⟩ := hz q
            subst q
            simp (disch := first | assumption | omega | decide) only [nI_leI2, nI_ltI2, nI_eqI, nI_add, nI_sub, pk_mul, nI_clamp, vinT, Nat.add_sub_cancel, Nat.le_refl, Nat.reduceLeDiff, Nat.reduceLT, Nat.reduceEqDiff, Nat.reduceAdd, Nat.reduceMul, Nat.reduceSub, forall_eq, true_and, and_true, not_true_eq_false, not_false_eq_true, false_implies, true_implies, implies_true, if_true, if_false, ite_self, e5', wM_did]
            refine ⟨fun a => z1 a, fun a => ?_⟩
            exact z2 (by omega)
          · simp (disch := first | assumption | omega | decide) only [nI_leI2, nI_ltI2, nI_eqI, nI_add, nI_sub, pk_mul, nI_clamp, vinT, Nat.add_sub_cancel, Nat.le_refl, Nat.reduceLeDiff, Nat.reduceLT, Nat.reduceEqDiff, Nat.reduceAdd, Nat.reduceMul, Nat.reduceSub, forall_eq, true_and, and_true, not_true_eq_false, not_false_eq_true, false_implies, true_implies, implies_true, if_true, if_false, ite_self, q, wM_finds]
            exact hc q
        by_cases hc : c = 0
        · obtain ⟨i, rfl, hin, hit⟩ := c4 hc
          subst hc
          simp (disch := first | assumption | omega | decide) only [Nat.le_refl, Nat.reduceLeDiff, Nat.reduceLT, Nat.reduceEqDiff, Nat.reduceAdd, Nat.reduceMul, Nat.reduceSub, forall_eq, true_and, and_true, not_true_eq_false, not_false_eq_true, false_implies, true_implies, implies_true, if_true, if_false, ite_self, wH_unfound]
          have hit2 : ∀ t, t < n → σ (2 + 2 * r + 1) (i + t) = (fun t => σ 85 (40 * r + i + t)) t := hit
          refine s_hear (it := fun t => σ 85 (40 * r + i + t)) hM hW hb hr8 hin (by omega) hit2 (fun σ1 f1 f2 => ?_)
          have hM1 : pMk σ1 42 (σ 89) nb nw nl := pMk_fr (fun i _ _ => by rw [f1 42 (by omega)]) (fun c c1 c2 => f1 c (by omega)) hM
          have key : ∀ v : Int32, v = (if nI y = nI 0 then nI (sumN (hw (hA (σ 89) b nl hp (fun t => σ 85 (40 * r + i + t))) (hR (σ 89) b nl hp (fun t => σ 85 (40 * r + i + t))) n) (n + 1) 0 0) else ansS (sB (hw (hA (σ 89) b nl hp (fun t => σ 85 (40 * r + i + t))) (hR (σ 89) b nl hp (fun t => σ 85 (40 * r + i + t))) n) (hB hp n nl) (n + 1) 0 none)) → wM_heard (nI b) (nI r) (nI i) (nI n) (nI y) (gU σ1 0 11 (nI 0)) (fun r2 σ2 => v = r2 ∧ pInv k σ2) := by
            intro v hv
            have fr : ∀ c, c ≠ 38 → c ≠ 0 → gU σ1 0 11 (nI 0) c = σ c := fun c c1 c2 => by rw [gU_ne c2, f1 c c1]
            have fin : ∀ σ', pF95 (gU σ1 0 11 (nI 0)) σ' → pInv k (gU σ' 82 3 (nI 0)) := fun σ' g1 => by
              have g2 : ∀ c, c ≠ 38 → c ≠ 95 → gU σ' 82 3 (nI 0) c = pSt σ (nI 0) c := fun c c1 c2 => by
                unfold pSt
                by_cases q : c = 82
                · subst q
                  rw [gU_upd, gU_upd, g1 82 (by omega), gU_ne (by omega), gU_ne (by omega), f1 82 (by omega)]
                · rw [gU_ne q, gU_ne q, g1 c c2]
                  by_cases q2 : c = 0
                  · subst q2
                    rw [gU_upd, gU_upd, f1 0 (by omega)]
                  · rw [gU_ne q2, gU_ne q2, f1 c c1]
              exact pInv_same (fun c hc => g2 c (by omega) (by omega)) (fun c h1 h2 => g2 c (by omega) (by omega)) (fun c h1 h2 => g2 c (by omega) (by omega)) (pInv_st (nI 0) h)
            have h89 : gU σ1 0 11 (nI 0) 89 = σ 89 := fr 89 (by omega) (by omega)
            refine hMod _ _ h89 (by funext Q; exact c3 _ Q (fr 83 (by omega) (by omega)) (fr 84 (by omega) (by omega))) (fun q => absurd rfl q) (fun _ => ⟨fun hle => ?_, fun hlt => ?_⟩)
            · refine ⟨290, s_hM_zero (σ0 := gU σ1 0 11 (nI 0)) (it := fun t => σ 85 (40 * r + i + t)) (by rw [h89]; exact hW) hb hr8 hin (by omega) hle (fun t ht => by rw [fr 85 (by omega) (by omega)]) (fun σ' g1 => ⟨?_, fin σ' g1⟩) 289 0 _ (by omega) (gFn_0 _ _ _ _).symm⟩
              rw [h89]; exact hv
            · refine ⟨?_, fin _ (fun _ _ => rfl)⟩
              rw [hv, sumN_0 _ _ _ (fun j _ _ => hw_nl j hlt), sB_0 _ _ _ (fun j _ _ => hw_nl j hlt)]
              by_cases q : y = 0
              · rw [if_pos q, if_pos (by rw [q])]
              · rw [if_neg q, if_neg (by rw [nI_eqI hy (by omega)]; exact q)]
                rfl
          refine ⟨fun q => ?_, fun q => ?_⟩
          · unfold wS_waysOf
            refine ⟨n + 1 + 1, s_waysOf (by omega) f2 (n + 1) 0 0 (by omega) (key _ ?_)⟩
            rw [if_pos (by rw [q])]
          · unfold wS_surelyTaken
            refine ⟨n + 1 + 1, s_sure (o := none) hM1 hW (by omega) (fun z t _ => hw_nl t z) (fun t => hw_1024 t (by omega)) f2 (n + 1) 0 (by omega) (fun v hv => by cases hv) (key _ ?_)⟩
            rw [if_neg (by rw [nI_eqI hy (by omega)]; exact q)]
        · simp (disch := first | assumption | omega | decide) only [nI_leI2, nI_ltI2, nI_eqI, nI_add, nI_sub, pk_mul, nI_clamp, vinT, Nat.add_sub_cancel, Nat.le_refl, Nat.reduceLeDiff, Nat.reduceLT, Nat.reduceEqDiff, Nat.reduceAdd, Nat.reduceMul, Nat.reduceSub, forall_eq, true_and, and_true, not_true_eq_false, not_false_eq_true, false_implies, true_implies, implies_true, if_true, if_false, ite_self, hc, wH_found]
          refine hMod _ _ (gU_ne (by decide)) (by funext Q; exact c3 _ Q (gU_ne (by decide)) (gU_ne (by decide))) (fun _ => ⟨rfl, pInv_st _ h⟩) (fun q => absurd q hc)
      · have hy2 : 1 < y := by omega
        simp (disch := first | assumption | omega | decide) only [nI_leI2, nI_ltI2, nI_eqI, nI_add, nI_sub, pk_mul, nI_clamp, vinT, Nat.add_sub_cancel, Nat.le_refl, Nat.reduceLeDiff, Nat.reduceLT, Nat.reduceEqDiff, Nat.reduceAdd, Nat.reduceMul, Nat.reduceSub, forall_eq, true_and, and_true, not_true_eq_false, not_false_eq_true, false_implies, true_implies, implies_true, if_true, if_false, ite_self, hn1, hn10, hy1, Nat.not_lt_zero]
        exact bad (fun ⟨_, _, ⟨y', _, e⟩⟩ => by have := nI_inj hy (by omega) e; omega)
    · simp (disch := first | assumption | omega | decide) only [nI_leI2, nI_ltI2, nI_eqI, nI_add, nI_sub, pk_mul, nI_clamp, vinT, Nat.add_sub_cancel, Nat.le_refl, Nat.reduceLeDiff, Nat.reduceLT, Nat.reduceEqDiff, Nat.reduceAdd, Nat.reduceMul, Nat.reduceSub, forall_eq, true_and, and_true, not_true_eq_false, not_false_eq_true, false_implies, true_implies, implies_true, if_true, if_false, ite_self, hr8, Nat.not_lt_zero, n01]
      exact bad (fun ⟨⟨r', _, e⟩, _⟩ => by have := nI_inj hr (by omega) e; omega)
  · rw [e2]
    simp only [n01, Nat.le_refl, Nat.reduceLeDiff, Nat.reduceLT, Nat.reduceEqDiff, Nat.reduceAdd, Nat.reduceMul, Nat.reduceSub, forall_eq, true_and, and_true, not_true_eq_false, not_false_eq_true, false_implies, true_implies, implies_true, if_true, if_false, ite_self]
    unfold wM_heard
    rw [em σ rfl, e1]
    simp only [Nat.le_refl, Nat.reduceLeDiff, Nat.reduceLT, Nat.reduceEqDiff, Nat.reduceAdd, Nat.reduceMul, Nat.reduceSub, forall_eq, true_and, and_true, not_true_eq_false, not_false_eq_true, false_implies, true_implies, implies_true, if_true, if_false, ite_self]
    exact h
