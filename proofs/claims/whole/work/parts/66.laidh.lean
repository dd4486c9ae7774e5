/-! LAID, the class: the heap sorted, then row after row -/
def swF (h : Nat → Nat) (a b : Nat) : Nat → Nat := fun i => if i = b then h a else if i = a then h b else h i
def pIm (n : Nat) (hp h : Nat → Nat) : Prop := (∀ i, i < n → ∃ j, j < n ∧ h i = hp j) ∧ (∀ j, j < n → ∃ i, i < n ∧ h i = hp j) ∧ ∀ i j, i < n → j < n → h i = h j → i = j
theorem pIm_sw {n a b : Nat} {hp h : Nat → Nat} (ha : a < n) (hb : b < n) (hab : a ≠ b) (H : pIm n hp h) : pIm n hp (swF h a b) := by
  obtain ⟨h1, h2, h3⟩ := H
  refine ⟨fun i hi => ?_, fun j hj => ?_, fun i j hi hj e => ?_⟩
  · unfold swF
    split
    · exact h1 a ha
    · split
      · exact h1 b hb
      · exact h1 i hi
  · obtain ⟨i, hi, e⟩ := h2 j hj
    by_cases q : i = a
    · exact ⟨b, hb, by unfold swF; rw [if_pos rfl, ← q]; exact e⟩
    · by_cases q2 : i = b
      · exact ⟨a, ha, by unfold swF; rw [if_neg hab, if_pos rfl, ← q2]; exact e⟩
      · exact ⟨i, hi, by unfold swF; rw [if_neg q2, if_neg q]; exact e⟩
  · unfold swF at e
    by_cases i1 : i = b
    · rw [if_pos i1] at e
      by_cases j1 : j = b
      · omega
      · rw [if_neg j1] at e
        by_cases j2 : j = a
        · rw [if_pos j2] at e
          exact absurd (h3 _ _ ha hb e) hab
        · rw [if_neg j2] at e
          exact absurd (h3 _ _ ha hj e).symm j2
    · rw [if_neg i1] at e
      by_cases i2 : i = a
      · rw [if_pos i2] at e
        by_cases j1 : j = b
        · rw [if_pos j1] at e
          exact absurd (h3 _ _ hb ha e).symm hab
        · rw [if_neg j1] at e
          by_cases j2 : j = a
          · omega
          · rw [if_neg j2] at e
            exact absurd (h3 _ _ hb hj e).symm j1
      · rw [if_neg i2] at e
        by_cases j1 : j = b
        · rw [if_pos j1] at e
          exact absurd (h3 _ _ hi ha e) i2
        · rw [if_neg j1] at e
          by_cases j2 : j = a
          · rw [if_pos j2] at e
            exact absurd (h3 _ _ hi hb e) i1
          · rw [if_neg j2] at e
            exact h3 _ _ hi hj e
def pHp (n : Nat) (h : Nat → Nat) (σ0 σ : gM) : Prop := (∀ c, c ≠ 26 → σ c = σ0 c) ∧ ∀ j, j < n → σ 26 j = nI (h j)
theorem s_swap {n a b : Nat} {h : Nat → Nat} {σ0 σ : gM} {Q : gM → Prop} (hn : n ≤ 16) (ha : a < n) (hb : b < n) (H : pHp n h σ0 σ) (hQ : ∀ σ', pHp n (swF h a b) σ0 σ' → Q σ') : wD_swap (nI a) (nI b) σ Q := by
  have ea := H.2 a ha
  have eb := H.2 b hb
  unfold wD_swap
  simp (disch := first | assumption | omega | decide) only [Nat.le_refl, Nat.reduceLeDiff, Nat.reduceLT, Nat.reduceEqDiff, Nat.reduceAdd, Nat.reduceMul, Nat.reduceSub, forall_eq, true_and, and_true, not_true_eq_false, not_false_eq_true, false_implies, true_implies, implies_true, if_true, if_false, ite_self, vinT, nI_clamp, ea, eb]
  refine hQ _ ⟨fun c hc => by rw [gU_ne hc, gU_ne hc]; exact H.1 c hc, fun j hj => ?_⟩
  unfold swF
  by_cases q : j = b
  · rw [if_pos q, q, gU_eq]
  · rw [if_neg q, gU_off q]
    by_cases q2 : j = a
    · rw [if_pos q2, q2, gU_eq]
    · rw [if_neg q2, gU_off q2]
      exact H.2 j hj
section Sorts
variable {n : Nat} {hp : Nat → Nat} {σ0 : gM} {Q : gM → Prop}
theorem s_sort_in {K : Int32 → gM → Prop} {i : Nat} (hn : n ≤ 16) (hi : i < n) (hlt : ∀ j, j < n → hp j < 16) (hK : ∀ h' σ', pHp n h' σ0 σ' → pIm n hp h' → (∀ a b, a < b → b ≤ i → h' a < h' b) → K (nI (i + 1)) σ') : ∀ (j : Nat) (h : Nat → Nat) (σ : gM), j ≤ i → pHp n h σ0 σ → pIm n hp h → (∀ a b, a < b → b ≤ i → b ≠ j → h a < h b) → wD_sortHeap_l12 Q K (j + 1) (nI i) (nI j) σ := by
  intro j
  induction j with
  | zero =>
    intro h σ hj H I S
    rw [wD_sortHeap_l12]
    simp (disch := first | assumption | omega | decide) only [nI_leI2, Nat.le_refl, Nat.reduceLeDiff, Nat.reduceLT, Nat.reduceEqDiff, Nat.reduceAdd, Nat.reduceMul, Nat.reduceSub, forall_eq, true_and, and_true, not_true_eq_false, not_false_eq_true, false_implies, true_implies, implies_true, if_true, if_false, ite_self, nI_add]
    exact hK h σ H I (fun a b h1 h2 => S a b h1 h2 (by omega))
  | succ j ih =>
    intro h σ hj H I S
    have e1 := H.2 j (by omega)
    have e2 := H.2 (j + 1) (by omega)
    have b1 : h j < 16 := by obtain ⟨x, hx, e⟩ := I.1 j (by omega); rw [e]; exact hlt x hx
    have b2 : h (j + 1) < 16 := by obtain ⟨x, hx, e⟩ := I.1 (j + 1) (by omega); rw [e]; exact hlt x hx
    have q0 : ¬ j + 1 ≤ 0 := by omega
    rw [wD_sortHeap_l12]
    simp (disch := first | assumption | omega | decide) only [nI_leI2, nI_ltI2, nI_eqI, nI_add, nI_sub, pk_mul, nI_clamp, vinT, Nat.add_sub_cancel, Nat.le_refl, Nat.reduceLeDiff, Nat.reduceLT, Nat.reduceEqDiff, Nat.reduceAdd, Nat.reduceMul, Nat.reduceSub, forall_eq, true_and, and_true, not_true_eq_false, not_false_eq_true, false_implies, true_implies, implies_true, if_true, if_false, ite_self, q0, e1, e2, add_m1]
    by_cases q : h j ≤ h (j + 1)
    · simp only [q, Nat.le_refl, Nat.reduceLeDiff, Nat.reduceLT, Nat.reduceEqDiff, Nat.reduceAdd, Nat.reduceMul, Nat.reduceSub, forall_eq, true_and, and_true, not_true_eq_false, not_false_eq_true, false_implies, true_implies, implies_true, if_true, if_false, ite_self]
      have hlt2 : h j < h (j + 1) := by
        rcases Nat.lt_or_eq_of_le q with z | z
        · exact z
        · have := I.2.2 j (j + 1) (by omega) (by omega) z
          omega
      refine hK h σ H I (fun a b h1 h2 => ?_)
      by_cases e : b = j + 1
      · subst e
        by_cases e3 : a = j
        · rw [e3]; exact hlt2
        · have := S a j (by omega) (by omega) (by omega)
          omega
      · exact S a b h1 h2 e
    · simp only [q, Nat.le_refl, Nat.reduceLeDiff, Nat.reduceLT, Nat.reduceEqDiff, Nat.reduceAdd, Nat.reduceMul, Nat.reduceSub, forall_eq, true_and, and_true, not_true_eq_false, not_false_eq_true, false_implies, true_implies, implies_true, if_true, if_false, ite_self]
      refine s_swap hn (a := j) (b := j + 1) (by omega) (by omega) H (fun σ' H' => ?_)
      refine ih (swF h j (j + 1)) σ' (by omega) H' (pIm_sw (by omega) (by omega) (by omega) I) (fun a b h1 h2 h3 => ?_)
      unfold swF
      by_cases c1 : b = j + 1
      · rw [if_pos c1]
        by_cases c2 : a = j
        · rw [if_neg (by omega), if_pos c2]; omega
        · rw [if_neg (by omega), if_neg c2]
          exact S a j (by omega) (by omega) (by omega)
      · rw [if_neg c1, if_neg (c := b = j) (by omega)]
        by_cases c2 : a = j + 1
        · rw [if_pos c2]
          exact S j b (by omega) (by omega) (by omega)
        · rw [if_neg c2]
          by_cases c3 : a = j
          · rw [if_pos c3]
            exact S (j + 1) b (by omega) (by omega) (by omega)
          · rw [if_neg c3]
            exact S a b h1 h2 (by omega)
theorem s_sort_out (hn : n ≤ 16) (h4 : σ0 24 4 = nI n) (hlt : ∀ j, j < n → hp j < 16) (hQ : ∀ h' σ', pHp n h' σ0 σ' → pIm n hp h' → (∀ a b, a < b → b < n → h' a < h' b) → Q σ') : ∀ (m i : Nat) (h : Nat → Nat) (σ : gM), n ≤ i + m → i ≤ 17 → pHp n h σ0 σ → pIm n hp h → (∀ a b, a < b → b < i → b < n → h a < h b) → wD_sortHeap_l2 Q (m + 1) (nI i) σ := by
  intro m
  induction m with
  | zero =>
    intro i h σ hi h17 H I S
    have e4 : σ 24 4 = nI n := by rw [H.1 24 (by omega)]; exact h4
    have q : n ≤ i := by omega
    rw [wD_sortHeap_l2]
    simp (disch := first | assumption | omega | decide) only [e4, nI_leI2, q, Nat.le_refl, Nat.reduceLeDiff, Nat.reduceLT, Nat.reduceEqDiff, Nat.reduceAdd, Nat.reduceMul, Nat.reduceSub, forall_eq, true_and, and_true, not_true_eq_false, not_false_eq_true, false_implies, true_implies, implies_true, if_true, if_false, ite_self]
    exact hQ h σ H I (fun a b h1 h2 => S a b h1 (by omega) h2)
  | succ m ih =>
    intro i h σ hi h17 H I S
    have e4 : σ 24 4 = nI n := by rw [H.1 24 (by omega)]; exact h4
    rw [wD_sortHeap_l2]
    by_cases q : n ≤ i
    · simp (disch := first | assumption | omega | decide) only [e4, nI_leI2, q, Nat.le_refl, Nat.reduceLeDiff, Nat.reduceLT, Nat.reduceEqDiff, Nat.reduceAdd, Nat.reduceMul, Nat.reduceSub, forall_eq, true_and, and_true, not_true_eq_false, not_false_eq_true, false_implies, true_implies, implies_true, if_true, if_false, ite_self]
      exact hQ h σ H I (fun a b h1 h2 => S a b h1 (by omega) h2)
    · simp (disch := first | assumption | omega | decide) only [e4, nI_leI2, q, Nat.le_refl, Nat.reduceLeDiff, Nat.reduceLT, Nat.reduceEqDiff, Nat.reduceAdd, Nat.reduceMul, Nat.reduceSub, forall_eq, true_and, and_true, not_true_eq_false, not_false_eq_true, false_implies, true_implies, implies_true, if_true, if_false, ite_self]
      exact ⟨i + 1, s_sort_in hn (by omega) hlt (fun h' σ' H' I' S' => ih (i + 1) h' σ' (by omega) (by omega) H' I' (fun a b h1 h2 _ => S' a b h1 (by omega))) i h σ (Nat.le_refl _) H I (fun a b h1 h2 h3 => S a b h1 (by omega) (by omega))⟩
theorem s_sort (hn : n ≤ 16) {σ : gM} (h4 : σ 24 4 = nI n) (hlt : ∀ j, j < n → hp j < 16) (hinj : ∀ i j, i < n → j < n → hp i = hp j → i = j) (h26 : ∀ j, j < n → σ 26 j = nI (hp j)) (hQ : ∀ h' σ', pHp n h' σ σ' → pIm n hp h' → (∀ a b, a < b → b < n → h' a < h' b) → Q σ') : wD_sortHeap σ Q := by
  unfold wD_sortHeap
  exact ⟨n + 1, s_sort_out hn h4 hlt hQ n 1 hp σ (by omega) (by omega) ⟨fun _ _ => rfl, h26⟩ ⟨fun i hi => ⟨i, hi, rfl⟩, fun j hj => ⟨j, hj, rfl⟩, hinj⟩ (fun a b h1 h2 h3 => by omega)⟩
end Sorts
/-! the next row -/
theorem getD_set {l : List Nat} {a j x : Nat} (ha : a < l.length) : (l.set a x).getD j 0 = if j = a then x else l.getD j 0 := by
  rw [List.getD_eq_getElem?_getD, List.getElem?_set, List.getD_eq_getElem?_getD]
  by_cases q : a = j
  · rw [if_pos q, if_pos q.symm, if_pos ha]; rfl
  · rw [if_neg q, if_neg (fun z => q z.symm)]
theorem swp_getD {l : List Nat} {a b j : Nat} (ha : a < l.length) (hb : b < l.length) : (swp l a b).getD j 0 = swF (fun i => l.getD i 0) a b j := by
  unfold swp swF
  rw [getD_set (by rw [List.length_set]; exact hb)]
  by_cases q : j = b
  · rw [if_pos q, if_pos q]
  · rw [if_neg q, if_neg q, getD_set ha]
theorem swp_len {l : List Nat} {a b : Nat} : (swp l a b).length = l.length := by
  unfold swp
  rw [List.length_set, List.length_set]
/-- a row of n numbers below n -/
def pOr (n : Nat) (l : List Nat) : Prop := l.length = n ∧ ∀ j, j < n → l.getD j 0 < n
theorem pOr_swp {n a b : Nat} {l : List Nat} (h : pOr n l) (ha : a < n) (hb : b < n) : pOr n (swp l a b) := by
  refine ⟨by rw [swp_len]; exact h.1, fun j hj => ?_⟩
  rw [swp_getD (by rw [h.1]; exact ha) (by rw [h.1]; exact hb)]
  unfold swF
  split
  · exact h.2 a ha
  · split
    · exact h.2 b hb
    · exact h.2 j hj
theorem ble_if {a b : Nat} {α : Type} {x y : α} : (bif Nat.ble a b then x else y) = if a ≤ b then x else y := by
  by_cases q : a ≤ b
  · rw [if_pos q, Nat.ble_eq_true_of_le q]; rfl
  · rw [if_neg q]
    cases z : Nat.ble a b with
    | false => rfl
    | true => exact absurd (Nat.le_of_ble_eq_true z) q
theorem nxt_eq {n : Nat} {l : List Nat} : nxt n l = if nxI l (n - 1) = 0 then [9] else rvs n (swp l (nxI l (n - 1) - 1) (nxJ l (nxI l (n - 1) - 1) (n - 1))) (nxI l (n - 1)) (n - 1) := by
  unfold nxt
  rw [foN_eq, foN_eq, foL_eq]
  by_cases q : nxI l (n - 1) = 0
  · rw [if_pos q, q]; rfl
  · rw [if_neg q]
    cases z : Nat.beq (nxI l (n - 1)) 0 with
    | false => rfl
    | true => exact absurd (Nat.eq_of_beq_eq_true z) q
theorem nxI_le {l : List Nat} : ∀ k, nxI l k ≤ k
  | 0 => Nat.le_refl _
  | k + 1 => by
    rw [nxI, ble_if]
    split
    · exact Nat.le_refl _
    · have := nxI_le (l := l) k; omega
theorem nxJ_le {l : List Nat} {i : Nat} : ∀ k, nxJ l i k ≤ k
  | 0 => Nat.le_refl _
  | k + 1 => by
    rw [nxJ, ble_if, ble_if]
    split
    · exact Nat.le_refl _
    · split
      · exact Nat.le_refl _
      · have := nxJ_le (l := l) (i := i) k; omega
section Next
variable {n : Nat} {srt : Nat → Nat} {σ0 : gM} {Q : Int32 → gM → Prop}
/-- the heap as a row of sorted wares -/
def pHl (n : Nat) (srt : Nat → Nat) (l : List Nat) (σ0 σ : gM) : Prop := (∀ c, c ≠ 26 → σ c = σ0 c) ∧ ∀ j, j < n → σ 26 j = nI (srt (l.getD j 0))
theorem s_swl {l : List Nat} {a b : Nat} {σ : gM} {Q : gM → Prop} (hn : n ≤ 16) (ho : pOr n l) (ha : a < n) (hb : b < n) (H : pHl n srt l σ0 σ) (hQ : ∀ σ', pHl n srt (swp l a b) σ0 σ' → Q σ') : wD_swap (nI a) (nI b) σ Q := by
  refine s_swap hn ha hb (h := fun j => srt (l.getD j 0)) H (fun σ' H' => hQ σ' ⟨H'.1, fun j hj => ?_⟩)
  rw [H'.2 j hj, swp_getD (by rw [ho.1]; exact ha) (by rw [ho.1]; exact hb)]
  unfold swF
  by_cases q : j = b
  · simp only [q, if_true]
  · by_cases q2 : j = a
    · simp only [q2, if_true]
      by_cases q3 : a = b
      · simp only [q3, if_true]
      · simp only [q3, if_false]
    · simp only [q, q2, if_false]
theorem s_rv (hn : n ≤ 16) : ∀ (m : Nat) (l : List Nat) (a b : Nat) (σ : gM), b ≤ a + m → b < n → a ≤ n → pOr n l → pHl n srt l σ0 σ → (∀ σ', pHl n srt (rvs m l a b) σ0 σ' → pOr n (rvs m l a b) → Q (nI 1) σ') → wD_goToNextOrder_l91 Q (m + 1) (nI a) (nI b) σ := by
  intro m
  induction m with
  | zero =>
    intro l a b σ hm hb ha ho H hQ
    have q : b ≤ a := by omega
    rw [wD_goToNextOrder_l91]
    simp (disch := first | assumption | omega | decide) only [nI_leI2, q, Nat.le_refl, Nat.reduceLeDiff, Nat.reduceLT, Nat.reduceEqDiff, Nat.reduceAdd, Nat.reduceMul, Nat.reduceSub, forall_eq, true_and, and_true, not_true_eq_false, not_false_eq_true, false_implies, true_implies, implies_true, if_true, if_false, ite_self]
    exact hQ σ H ho
  | succ m ih =>
    intro l a b σ hm hb ha ho H hQ
    rw [wD_goToNextOrder_l91]
    rw [rvs, ble_if, foL_eq] at hQ
    by_cases q : b ≤ a
    · rw [if_pos q] at hQ
      simp (disch := first | assumption | omega | decide) only [nI_leI2, q, Nat.le_refl, Nat.reduceLeDiff, Nat.reduceLT, Nat.reduceEqDiff, Nat.reduceAdd, Nat.reduceMul, Nat.reduceSub, forall_eq, true_and, and_true, not_true_eq_false, not_false_eq_true, false_implies, true_implies, implies_true, if_true, if_false, ite_self]
      exact hQ σ H ho
    · rw [if_neg q] at hQ
      simp (disch := first | assumption | omega | decide) only [nI_leI2, q, Nat.le_refl, Nat.reduceLeDiff, Nat.reduceLT, Nat.reduceEqDiff, Nat.reduceAdd, Nat.reduceMul, Nat.reduceSub, forall_eq, true_and, and_true, not_true_eq_false, not_false_eq_true, false_implies, true_implies, implies_true, if_true, if_false, ite_self, nI_add, add_m1, nI_sub]
      exact s_swl hn ho (by omega) hb H (fun σ' H' => ih (swp l a b) (a + 1) (b - 1) σ' (by omega) (by omega) (by omega) (pOr_swp ho (by omega) hb) H' hQ)
theorem srt_le (hm : ∀ a b, a < b → b < n → srt a < srt b) {a b : Nat} (ha : a < n) (hb : b < n) : srt a ≤ srt b ↔ a ≤ b := by
  constructor
  · intro h
    rcases Nat.lt_or_ge b a with q | q
    · have := hm b a q ha; omega
    · exact q
  · intro h
    rcases Nat.lt_or_eq_of_le h with q | q
    · exact Nat.le_of_lt (hm a b q hb)
    · rw [q]; exact Nat.le_refl _
theorem s_nx_J (hn : n ≤ 16) (hm : ∀ a b, a < b → b < n → srt a < srt b) (hlt : ∀ j, j < n → srt j < 16) {l : List Nat} {i : Nat} {σ : gM} (hi : i < n) (ho : pOr n l) (H : pHl n srt l σ0 σ) : ∀ j, j < n → wD_goToNextOrder_b73 Q (nI i) (nI (nxJ l i j)) σ → wD_goToNextOrder_l47 Q (j + 1) (nI i) (nI j) σ := by
  intro j
  induction j with
  | zero =>
    intro hj h
    rw [wD_goToNextOrder_l47]
    simp (disch := first | assumption | omega | decide) only [nI_leI2, Nat.zero_le, Nat.le_refl, Nat.reduceLeDiff, Nat.reduceLT, Nat.reduceEqDiff, Nat.reduceAdd, Nat.reduceMul, Nat.reduceSub, forall_eq, true_and, and_true, not_true_eq_false, not_false_eq_true, false_implies, true_implies, implies_true, if_true, if_false, ite_self]
    exact h
  | succ j ih =>
    intro hj h
    rw [nxJ, ble_if, ble_if] at h
    rw [wD_goToNextOrder_l47]
    by_cases q : j + 1 ≤ i
    · rw [if_pos q] at h
      simp (disch := first | assumption | omega | decide) only [nI_leI2, q, Nat.le_refl, Nat.reduceLeDiff, Nat.reduceLT, Nat.reduceEqDiff, Nat.reduceAdd, Nat.reduceMul, Nat.reduceSub, forall_eq, true_and, and_true, not_true_eq_false, not_false_eq_true, false_implies, true_implies, implies_true, if_true, if_false, ite_self]
      exact h
    · rw [if_neg q] at h
      have e1 := H.2 i hi
      have e2 := H.2 (j + 1) hj
      have o1 := ho.2 i hi
      have o2 := ho.2 (j + 1) hj
      have s1 := hlt _ o1
      have s2 := hlt _ o2
      simp (disch := first | assumption | omega | decide) only [nI_leI2, q, Nat.le_refl, Nat.reduceLeDiff, Nat.reduceLT, Nat.reduceEqDiff, Nat.reduceAdd, Nat.reduceMul, Nat.reduceSub, forall_eq, true_and, and_true, not_true_eq_false, not_false_eq_true, false_implies, true_implies, implies_true, if_true, if_false, ite_self, vinT, nI_clamp, e1, e2, srt_le hm o1 o2, add_m1]
      by_cases q2 : l.getD i 0 ≤ l.getD (j + 1) 0
      · rw [if_pos q2] at h
        simp only [q2, Nat.le_refl, Nat.reduceLeDiff, Nat.reduceLT, Nat.reduceEqDiff, Nat.reduceAdd, Nat.reduceMul, Nat.reduceSub, forall_eq, true_and, and_true, not_true_eq_false, not_false_eq_true, false_implies, true_implies, implies_true, if_true, if_false, ite_self]
        exact h
      · rw [if_neg q2] at h
        simp (disch := first | assumption | omega | decide) only [q2, Nat.le_refl, Nat.reduceLeDiff, Nat.reduceLT, Nat.reduceEqDiff, Nat.reduceAdd, Nat.reduceMul, Nat.reduceSub, forall_eq, true_and, and_true, not_true_eq_false, not_false_eq_true, false_implies, true_implies, implies_true, if_true, if_false, ite_self, nI_sub, Nat.add_sub_cancel]
        exact ih (by omega) h
theorem s_nx_I (hn : n ≤ 16) (hm : ∀ a b, a < b → b < n → srt a < srt b) (hlt : ∀ j, j < n → srt j < 16) {l : List Nat} {σ : gM} (ho : pOr n l) (H : pHl n srt l σ0 σ) : ∀ k, k + 1 ≤ n → (nxI l k = 0 → Q (nI 0) σ) → (∀ q, nxI l k = q + 1 → wD_goToNextOrder_b34 Q (nI q) σ) → wD_goToNextOrder_l7 Q (k + 1) (nI k - nI 1) σ := by
  intro k
  induction k with
  | zero =>
    intro hk h0 h1
    have e : nI 0 - nI 1 < nI 0 := by rw [lt_sub (by omega) (by omega) (by omega)]; omega
    have e2 : ¬ nI 0 ≤ nI 0 - nI 1 := by rw [le_sub (by omega) (by omega) (by omega)]; omega
    rw [wD_goToNextOrder_l7]
    simp only [e, Nat.le_refl, Nat.reduceLeDiff, Nat.reduceLT, Nat.reduceEqDiff, Nat.reduceAdd, Nat.reduceMul, Nat.reduceSub, forall_eq, true_and, and_true, not_true_eq_false, not_false_eq_true, false_implies, true_implies, implies_true, if_true, if_false, ite_self, wD_goToNextOrder_b34, e2]
    exact h0 rfl
  | succ k ih =>
    intro hk h0 h1
    have e1 := H.2 k (by omega)
    have e2 := H.2 (k + 1) (by omega)
    have o1 := ho.2 k (by omega)
    have o2 := ho.2 (k + 1) (by omega)
    have s1 := hlt _ o1
    have s2 := hlt _ o2
    rw [nxI, ble_if] at h0 h1
    rw [wD_goToNextOrder_l7]
    simp (disch := first | assumption | omega | decide) only [nI_sub, Nat.add_sub_cancel, nI_ltI2, Nat.not_lt_zero, nI_add, nI_leI2, Nat.le_refl, Nat.reduceLeDiff, Nat.reduceLT, Nat.reduceEqDiff, Nat.reduceAdd, Nat.reduceMul, Nat.reduceSub, forall_eq, true_and, and_true, not_true_eq_false, not_false_eq_true, false_implies, true_implies, implies_true, if_true, if_false, ite_self, vinT, nI_clamp, e1, e2, srt_le hm o1 o2, add_m1]
    by_cases q2 : l.getD k 0 ≤ l.getD (k + 1) 0
    · rw [if_pos q2] at h1
      simp only [q2, Nat.le_refl, Nat.reduceLeDiff, Nat.reduceLT, Nat.reduceEqDiff, Nat.reduceAdd, Nat.reduceMul, Nat.reduceSub, forall_eq, true_and, and_true, not_true_eq_false, not_false_eq_true, false_implies, true_implies, implies_true, if_true, if_false, ite_self]
      exact h1 k rfl
    · rw [if_neg q2] at h0 h1
      simp only [q2, Nat.le_refl, Nat.reduceLeDiff, Nat.reduceLT, Nat.reduceEqDiff, Nat.reduceAdd, Nat.reduceMul, Nat.reduceSub, forall_eq, true_and, and_true, not_true_eq_false, not_false_eq_true, false_implies, true_implies, implies_true, if_true, if_false, ite_self]
      exact ih (by omega) h0 h1
theorem s_next_o (hn : n ≤ 16) (hm : ∀ a b, a < b → b < n → srt a < srt b) (hlt : ∀ j, j < n → srt j < 16) {l : List Nat} {σ : gM} (h4 : σ 24 4 = nI n) (ho : pOr n l) (H : pHl n srt l σ0 σ) (hQ0 : nxt n l = [9] → Q (nI 0) σ) (hQ1 : ∀ σ', pHl n srt (nxt n l) σ0 σ' → pOr n (nxt n l) → Q (nI 1) σ') : wD_goToNextOrder σ Q := by
  unfold wD_goToNextOrder
  rw [nxt_eq] at hQ0 hQ1
  by_cases hz : n = 0
  · subst hz
    have e : nI 0 - nI 2 < nI 0 := by rw [lt_sub (by omega) (by omega) (by omega)]; omega
    have e2 : ¬ nI 0 ≤ nI 0 - nI 2 := by rw [le_sub (by omega) (by omega) (by omega)]; omega
    simp only [h4, forall_eq]
    refine ⟨1, ?_⟩
    rw [wD_goToNextOrder_l7]
    simp only [e, Nat.le_refl, Nat.reduceLeDiff, Nat.reduceLT, Nat.reduceEqDiff, Nat.reduceAdd, Nat.reduceMul, Nat.reduceSub, forall_eq, true_and, and_true, not_true_eq_false, not_false_eq_true, false_implies, true_implies, implies_true, if_true, if_false, ite_self, wD_goToNextOrder_b34, e2]
    exact hQ0 (if_pos (show nxI l (0 - 1) = 0 from rfl))
  · have e12 : nI n - nI 2 = nI (n - 1) - nI 1 := by
      apply i_eq.mpr
      rw [sub_I (by omega) (by omega), sub_I (by omega) (by omega)]
      omega
    simp only [h4, e12, forall_eq]
    refine ⟨n - 1 + 1, s_nx_I hn hm hlt ho H (n - 1) (by omega) (fun z => hQ0 (by rw [if_pos z])) (fun q hq => ?_)⟩
    have hqn := nxI_le (l := l) (n - 1)
    have hne : ¬ nxI l (n - 1) = 0 := by omega
    rw [if_neg hne, hq, Nat.add_sub_cancel] at hQ1
    have hj := nxJ_le (l := l) (i := q) (n - 1)
    unfold wD_goToNextOrder_b34
    simp (disch := first | assumption | omega | decide) only [nI_leI2, Nat.zero_le, Nat.le_refl, Nat.reduceLeDiff, Nat.reduceLT, Nat.reduceEqDiff, Nat.reduceAdd, Nat.reduceMul, Nat.reduceSub, forall_eq, true_and, and_true, not_true_eq_false, not_false_eq_true, false_implies, true_implies, implies_true, if_true, if_false, ite_self, h4, nI_sub]
    refine ⟨n - 1 + 1, s_nx_J hn hm hlt (by omega) ho H (n - 1) (by omega) ?_⟩
    unfold wD_goToNextOrder_b73
    refine s_swl hn ho (by omega) (by omega) H (fun σ' H' => ?_)
    have h4' : σ' 24 4 = nI n := by rw [H'.1 24 (by omega), ← H.1 24 (by omega)]; exact h4
    simp (disch := first | assumption | omega | decide) only [h4', nI_add, nI_sub, forall_eq]
    exact ⟨n + 1, s_rv hn n _ (q + 1) (n - 1) σ' (by omega) (by omega) (by omega) (pOr_swp ho (by omega) (by omega)) H' hQ1⟩
end Next
