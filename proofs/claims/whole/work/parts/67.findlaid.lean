/-! LAID, the class: the best of all rows -/
def ldU (gain : List Nat → Nat) (o : Option (Nat × List Nat)) (l : List Nat) : Option (Nat × List Nat) := match o with
  | none => some (gain l, l)
  | some (g, q) => if gain l ≤ g then some (g, q) else some (gain l, l)
def encL (o : Option (Nat × List Nat)) : Int32 := match o with
  | none => -1
  | some (g, _) => nI g
section FindLaid
variable {n : Nat} {srt : Nat → Nat} {va vb : Nat → Int32} {tf : Nat → Bool} {gain : List Nat → Nat} {σ0 : gM}
/-- the duel's cells; others as they were -/
def pDl (n : Nat) (srt : Nat → Nat) (l : List Nat) (σ0 σ : gM) : Prop := (∀ c, c ≠ 24 → c ≠ 25 → c ≠ 26 → c ≠ 29 → c ≠ 30 → c ≠ 31 → c ≠ 32 → σ c = σ0 c) ∧ σ 24 3 = σ0 24 3 ∧ σ 24 4 = nI n ∧ ∀ j, j < n → σ 26 j = nI (srt (l.getD j 0))
def pLc (n : Nat) (srt : Nat → Nat) (o : Option (Nat × List Nat)) (σ : gM) : Prop := ∀ g q, o = some (g, q) → (∀ j, j < n → σ 25 j = nI (srt (q.getD j 0))) ∧ g < 2147483648 ∧ pOr n q
theorem s_FL {Q : Int32 → gM → Prop} (hn : n ≤ 6) (hm : ∀ a b, a < b → b < n → srt a < srt b) (hlt : ∀ j, j < n → srt j < 16) (hv : ∀ j, j < n → σ0 27 (srt j) = va (srt j) ∧ σ0 28 (srt j) = vb (srt j)) (htf : ∀ c, c < n → tf (c + 1) = pTurn (σ0 24 3) (n - (c + 1))) (hg : ∀ l, pOr n l → gain l < 2147483648 ∧ (pG (fun i => va (srt (l.getD i 0))) (fun i => vb (srt (l.getD i 0))) tf n 0).1 = nI (gain l)) : ∀ (m i : Nat) (l : List Nat) (o : Option (Nat × List Nat)) (σ : gM), i + m = 720 → pOr n l → l ≠ [9] → pDl n srt l σ0 σ → pLc n srt o σ → (∀ σ' l', pDl n srt l' σ0 σ' → pLc n srt ((prC n m l).foldl (ldU gain) o) σ' → Q (encL ((prC n m l).foldl (ldU gain) o)) σ') → wD_findLaid_l10 Q (m + 1) (encL o) (nI 1) (nI i) σ := by
  have n01 : ¬ nI 1 = nI 0 := by decide
  intro m
  induction m with
  | zero =>
    intro i l o σ hi ho h9 hD hL hQ
    have : i = 720 := by omega
    subst this
    rw [wD_findLaid_l10]
    simp (disch := first | assumption | omega | decide) only [nI_leI2, Nat.le_refl, Nat.reduceLeDiff, Nat.reduceLT, Nat.reduceEqDiff, Nat.reduceAdd, Nat.reduceMul, Nat.reduceSub, forall_eq, true_and, and_true, not_true_eq_false, not_false_eq_true, false_implies, true_implies, implies_true, if_true, if_false, ite_self]
    exact hQ σ l hD hL
  | succ m ih =>
    intro i l o σ hi ho h9 hD hL hQ
    have q : ¬ 720 ≤ i := by omega
    rw [prC, if_neg h9, List.foldl_cons] at hQ
    obtain ⟨d1, d3, d4, d26⟩ := hD
    rw [wD_findLaid_l10]
    simp (disch := first | assumption | omega | decide) only [nI_leI2, q, Nat.le_refl, Nat.reduceLeDiff, Nat.reduceLT, Nat.reduceEqDiff, Nat.reduceAdd, Nat.reduceMul, Nat.reduceSub, forall_eq, true_and, and_true, not_true_eq_false, not_false_eq_true, false_implies, true_implies, implies_true, if_true, if_false, ite_self, n01]
    refine s_line (nl := n) (hp := fun j => srt (l.getD j 0)) (va := va) (vb := vb) (by omega) (Or.inr rfl) d4 (fun j hj => ?_) (fun σ2 f1 f2 => ?_)
    · have hjn := ho.2 j hj
      exact ⟨hlt _ hjn, d26 j hj, by rw [d1 27 (by omega) (by omega) (by omega) (by omega) (by omega) (by omega) (by omega)]; exact (hv _ hjn).1, by rw [d1 28 (by omega) (by omega) (by omega) (by omega) (by omega) (by omega) (by omega)]; exact (hv _ hjn).2⟩
    have e4 : σ2 24 4 = nI n := by rw [f1 24 (by omega) (by omega)]; exact d4
    have e3 : σ2 24 3 = σ0 24 3 := by rw [f1 24 (by omega) (by omega)]; exact d3
    refine s_play (tf := tf) (nl := n) (by omega) e4 (fun c hc => by rw [e3]; exact htf c hc) (fun σ3 p1 p2 p3 p4 => ?_)
    have eg : σ3 31 0 = nI (gain l) := by
      have q := congrArg Prod.fst p2
      have q : σ3 31 0 = (pG (σ2 29) (σ2 30) tf n 0).1 := q
      rw [q, ← (hg l ho).2, pG_congr n 0 (fun j _ hj => ?_) (fun _ _ _ => rfl)]
      have := f2 j (by omega)
      rw [show pRo n 0 j = j by unfold pRo; rw [if_pos (by omega)]; omega] at this
      exact this
    have hgc := (hg l ho).1
    have hD3 : pDl n srt l σ0 σ3 := ⟨fun c c1 c2 c3 c4 c5 c6 c7 => by rw [p1.1 c c1 c6 c7, f1 c c4 c5]; exact d1 c c1 c2 c3 c4 c5 c6 c7, by rw [p1.2 3 (by omega)]; exact e3, by rw [p1.2 4 (by omega)]; exact e4, fun j hj => by rw [p1.1 26 (by omega) (by omega) (by omega), f1 26 (by omega) (by omega)]; exact d26 j hj⟩
    have e25 : σ3 25 = σ 25 := by rw [p1.1 25 (by omega) (by omega) (by omega), f1 25 (by omega) (by omega)]
    -- what comes next
    have next : ∀ (o' : Option (Nat × List Nat)) (σ4 : gM), pDl n srt l σ0 σ4 → pLc n srt o' σ4 → o' = ldU gain o l → wD_goToNextOrder σ4 (fun r12 σ12 => ∀ x3_13 : Int32, x3_13 = nI i + nI 1 → wD_findLaid_l10 Q (m + 1) (encL o') r12 x3_13 σ12) := by
      intro o' σ4 hD4 hL4 ho'
      subst ho'
      obtain ⟨g1, g3, g4, g26⟩ := hD4
      refine s_next_o (n := n) (srt := srt) (σ0 := σ4) (l := l) (by omega) hm hlt g4 ho ⟨fun _ _ => rfl, g26⟩ (fun h0 => ?_) (fun σ5 H5 ho5 => ?_)
      · simp only [forall_eq, nI_add]
        have hfin : Q (encL (ldU gain o l)) σ4 := by
          have hh := hQ σ4 l ⟨g1, g3, g4, g26⟩
          rw [h0] at hh
          have e : prC n m [9] = [] := by
            cases m with
            | zero => rfl
            | succ m => rw [prC, if_pos rfl]
          rw [e] at hh
          exact hh hL4
        rw [wD_findLaid_l10]
        simp only [Nat.le_refl, Nat.reduceLeDiff, Nat.reduceLT, Nat.reduceEqDiff, Nat.reduceAdd, Nat.reduceMul, Nat.reduceSub, forall_eq, true_and, and_true, not_true_eq_false, not_false_eq_true, false_implies, true_implies, implies_true, if_true, if_false, ite_self]
        exact ⟨fun _ => hfin, fun _ => hfin⟩
      · simp only [forall_eq, nI_add]
        have h9' : nxt n l ≠ [9] := fun z => by
          rw [z] at ho5
          have hl1 := ho5.1
          have hl2 := ho5.2 0 (by rw [← hl1]; simp)
          have : (9 : Nat) < n := hl2
          omega
        refine ih (i + 1) (nxt n l) (ldU gain o l) σ5 (by omega) ho5 h9' ⟨fun c c1 c2 c3 c4 c5 c6 c7 => by rw [H5.1 c c3]; exact g1 c c1 c2 c3 c4 c5 c6 c7, by rw [H5.1 24 (by omega)]; exact g3, by rw [H5.1 24 (by omega)]; exact g4, H5.2⟩ (fun g q e => ?_) hQ
        rw [H5.1 25 (by omega)]
        exact hL4 g q e
    have copy : pDl n srt l σ0 (gCp σ3 26 0 25 0 n) := ⟨fun c c1 c2 c3 c4 c5 c6 c7 => by rw [gCp_ne c2]; exact hD3.1 c c1 c2 c3 c4 c5 c6 c7, by rw [gCp_ne (by omega)]; exact hD3.2.1, by rw [gCp_ne (by omega)]; exact hD3.2.2.1, fun j hj => by rw [gCp_ne (by omega)]; exact hD3.2.2.2 j hj⟩
    have cpL : pLc n srt (some (gain l, l)) (gCp σ3 26 0 25 0 n) := fun g q e => by
      cases e
      refine ⟨fun j hj => ?_, hgc, ho⟩
      rw [gCp_in (by omega) (by omega), show 0 + (j - 0) = j by omega]
      exact hD3.2.2.2 j hj
    have k1 : 0 + n ≤ 16 := by omega
    have k2 : 0 + n ≤ 6 := by omega
    have e34 := hD3.2.2.1
    cases o with
    | none =>
      have q : ¬ nI (gain l) ≤ encL none := nI_m1 _ hgc
      have h := next (some (gain l, l)) _ copy cpL rfl
      simp (disch := first | assumption | omega | decide) only [eg, q, Nat.le_refl, Nat.reduceLeDiff, Nat.reduceLT, Nat.reduceEqDiff, Nat.reduceAdd, Nat.reduceMul, Nat.reduceSub, forall_eq, true_and, and_true, not_true_eq_false, not_false_eq_true, false_implies, true_implies, implies_true, if_true, if_false, ite_self, e34, nI_clamp, nI_ltI2, Nat.not_lt_zero, Nat.lt_irrefl, k1, k2]
      simp only [forall_eq] at h
      exact h
    | some gc =>
      obtain ⟨g, cc⟩ := gc
      obtain ⟨o1, o2, o3⟩ := hL g cc rfl
      by_cases q : gain l ≤ g
      · have q2 : nI (gain l) ≤ encL (some (g, cc)) := by
          show nI (gain l) ≤ nI g
          rw [nI_leI2 hgc o2]; exact q
        have h := next (some (g, cc)) σ3 hD3 (fun g' q' e => by rw [e25]; exact hL g' q' e) (by show _ = (if gain l ≤ g then some (g, cc) else some (gain l, l)); rw [if_pos q])
        simp only [eg, q2, Nat.le_refl, Nat.reduceLeDiff, Nat.reduceLT, Nat.reduceEqDiff, Nat.reduceAdd, Nat.reduceMul, Nat.reduceSub, forall_eq, true_and, and_true, not_true_eq_false, not_false_eq_true, false_implies, true_implies, implies_true, if_true, if_false, ite_self]
        simp only [forall_eq] at h
        exact h
      · have q2 : ¬ nI (gain l) ≤ encL (some (g, cc)) := by
          show ¬ nI (gain l) ≤ nI g
          rw [nI_leI2 hgc o2]; exact q
        have h := next (some (gain l, l)) _ copy cpL (by show _ = (if gain l ≤ g then some (g, cc) else some (gain l, l)); rw [if_neg q])
        simp (disch := first | assumption | omega | decide) only [eg, q2, Nat.le_refl, Nat.reduceLeDiff, Nat.reduceLT, Nat.reduceEqDiff, Nat.reduceAdd, Nat.reduceMul, Nat.reduceSub, forall_eq, true_and, and_true, not_true_eq_false, not_false_eq_true, false_implies, true_implies, implies_true, if_true, if_false, ite_self, e34, nI_clamp, nI_ltI2, Nat.not_lt_zero, Nat.lt_irrefl, k1, k2]
        simp only [forall_eq] at h
        exact h
theorem ldU_some (o : Option (Nat × List Nat)) (l : List Nat) : ldU gain o l ≠ none := by
  unfold ldU
  cases o with
  | none => simp
  | some gc =>
    obtain ⟨g, cc⟩ := gc
    simp only
    split <;> simp
theorem ld_some : ∀ (r : List (List Nat)) (o : Option (Nat × List Nat)), (o ≠ none ∨ r ≠ []) → r.foldl (ldU gain) o ≠ none
  | [], o, h => h.resolve_right (by simp)
  | l :: r, o, _ => by
    rw [List.foldl_cons]
    exact ld_some r _ (Or.inl (ldU_some o l))
end FindLaid
