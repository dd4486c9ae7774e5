/-! THE REFERENCE'S NEXT TOKEN -/
theorem L_mul {a b : Int64} {x y : Nat} (ha : a.toInt = x) (hb : b.toInt = y) (h : x * y < 2 ^ 63) : (a * b).toInt = (x * y : Nat) := by
  rw [Int64.toInt_mul, ha, hb, ← Int.natCast_mul]
  generalize x * y = z at *
  unfold Int.bmod
  simp only
  split <;> omega
theorem L_add {a b : Int64} {x y : Nat} (ha : a.toInt = x) (hb : b.toInt = y) (h : x + y < 2 ^ 63) : (a + b).toInt = (x + y : Nat) := by
  rw [Int64.toInt_add, ha, hb]
  unfold Int.bmod
  simp only
  split <;> omega
theorem L_sub {a b : Int64} {x y : Nat} (ha : a.toInt = x) (hb : b.toInt = y) (h1 : y ≤ x) (h : x < 2 ^ 63) : (a - b).toInt = (x - y : Nat) := by
  rw [Int64.toInt_sub, ha, hb]
  unfold Int.bmod
  simp only
  split <;> omega
theorem L_eq {a b : Int64} {x y : Nat} (ha : a.toInt = x) (hb : b.toInt = y) : (a = b) ↔ x = y := by
  rw [← Int64.toInt_inj, ha, hb]
  omega
/-- the letters from s on as a number -/
def wv (f : Nat → Int32) (s : Nat) : Nat → Nat
  | 0 => 0
  | i + 1 => 27 * wv f s i + ((f (s + i)).toNatClampNeg - 96)
theorem wv_lt {f : Nat → Int32} {s : Nat} : ∀ i, (∀ j, j < i → isLt (f (s + j)) = true) → wv f s i < 27 ^ i
  | 0, _ => by rw [wv]; simp
  | i + 1, h => by
    have h1 := wv_lt i (fun j hj => h j (by omega))
    obtain ⟨c, c1, c2, c3⟩ := isLt_of (h i (by omega))
    rw [wv, c3, nI_clamp (by omega), Nat.pow_succ]
    omega
theorem wv_bd {f : Nat → Int32} {s i : Nat} (hi : i ≤ 9) (h : ∀ j, j < i → isLt (f (s + j)) = true) : wv f s i < 7625597484987 := by
  have h1 := wv_lt i h
  have h2 : (27 : Nat) ^ i ≤ 27 ^ 9 := Nat.pow_le_pow_right (by omega) hi
  omega
/-- the token that begins at s, as the reference has it -/
def tCok (f : Nat → Int32) (t s : Nat) (v : Int64) : Prop := if t ≤ s then v = -2 else if isLt (f s) = true then (if tEs f t s - s ≤ 9 then v.toInt = (wv f s (tEs f t s - s) : Int) else v = -4) else if isFg (f s) = true then (if tEs f t s - s ≤ 3 then v = -1 else v = -4) else if f s = nI 59 then v = -3 else v = -4
def MS (f : Nat → Int32) (t : Nat) (σ : gM) : Prop := σ 82 4 = nI t ∧ ∀ i, i < t → σ 86 i = f i
def pNxF (σ0 σ : gM) : Prop := (∀ c, c ≠ 82 → σ c = σ0 c) ∧ ∀ j, j ≠ 6 → j ≠ 7 → j ≠ 8 → j ≠ 9 → j ≠ 10 → j ≠ 108 → σ 82 j = σ0 82 j
theorem pNxF_MS {f : Nat → Int32} {t : Nat} {σ0 σ : gM} (h : pNxF σ0 σ) (hc : MS f t σ0) : MS f t σ := ⟨by rw [h.2 4 (by omega) (by omega) (by omega) (by omega) (by omega) (by omega)]; exact hc.1, fun i hi => by rw [h.1 86 (by omega)]; exact hc.2 i hi⟩
theorem pNxF_U {σ0 σ : gM} {j : Nat} {v : Int32} (h : pNxF σ0 σ) (hj : j = 6 ∨ j = 7 ∨ j = 9 ∨ j = 10) : pNxF σ0 (gU σ 82 j v) := ⟨fun c hc => by rw [gU_ne hc]; exact h.1 c hc, fun i h1 h2 h3 h4 h5 h6 => by rw [gU_off (by omega)]; exact h.2 i h1 h2 h3 h4 h5 h6⟩
theorem pNxF_L {σ0 σ : gM} {v : Int64} (h : pNxF σ0 σ) : pNxF σ0 (gUL σ 82 8 v) := ⟨fun c hc => by unfold gUL; rw [gU_ne hc, gU_ne hc]; exact h.1 c hc, fun i h1 h2 h3 h4 h5 h6 => by unfold gUL; rw [gU_off (by omega), gU_off (by omega)]; exact h.2 i h1 h2 h3 h4 h5 h6⟩
theorem gUL_at {σ : gM} {v : Int64} : gLg (gUL σ 82 8 v 82 8) (gUL σ 82 8 v 82 108) = v := by
  have e1 : gUL σ 82 8 v 82 8 = gHi v := by unfold gUL; rw [gU_off (by omega), gU_eq]
  have e2 : gUL σ 82 8 v 82 108 = gLo v := by unfold gUL; exact gU_eq
  rw [e1, e2, gLg_of]
theorem gUL_off {σ : gM} {v : Int64} {j : Nat} (h8 : j ≠ 8) (h : j ≠ 108) : gUL σ 82 8 v 82 j = σ 82 j := by unfold gUL; rw [gU_off (by omega), gU_off h8]
theorem gUL_ne {σ : gM} {v : Int64} {c : Nat} (h : c ≠ 82) : gUL σ 82 8 v c = σ c := by unfold gUL; rw [gU_ne h, gU_ne h]
theorem gUL_keep {σ : gM} {j : Nat} {v : Int32} (h8 : j ≠ 8) (h : j ≠ 108) : gLg (gU σ 82 j v 82 8) (gU σ 82 j v 82 108) = gLg (σ 82 8) (σ 82 108) := by rw [gU_off (by omega), gU_off (by omega)]
section TokM
variable {t : Nat} {f : Nat → Int32}
/-- what the reference has read -/
def RMt (f : Nat → Int32) (t s : Nat) (σ : gM) : Prop := σ 82 7 = nI s ∧ σ 82 6 = nI (tEs f t s) ∧ tCok f t s (gLg (σ 82 8) (σ 82 108)) ∧ (tKs f t s = 1 → σ 82 10 = nI (tVs f t s))
theorem s_nt_digits {σ0 : gM} {s : Nat} (ht : t ≤ 400) (hst : s < t) (hL : isLt (f s) = false) (hG : isFg (f s) = true) (hc : MS f t σ0) {Q : gM → Prop} (hQ : ∀ σ', pNxF σ0 σ' → RMt f t s σ' → Q σ') : ∀ (m i : Nat) (σ : gM), s + i + m = t → pNxF σ0 σ → σ 82 7 = nI s → σ 82 6 = nI (s + i) → σ 82 9 = nI i → σ 82 10 = nI (fv f s (m3 i)) → rn (fun j => isFg (f j)) m (s + i) = rn (fun j => isFg (f j)) (t - s) s → wM_nextToken_l255 Q (m + 1) σ := by
  have n01 : ¬ nI 1 = nI 0 := by decide
  have hE : tEs f t s = rn (fun j => isFg (f j)) (t - s) s := by
    unfold tEs
    rw [if_neg (by omega), if_neg (by rw [hL]; simp), if_pos hG]
  have hK : tKs f t s = (if tEs f t s - s ≤ 3 then 1 else 4) := by
    unfold tKs
    rw [if_neg (by omega), if_neg (by rw [hL]; simp), if_pos hG]
  have fin : ∀ (i : Nat) (σ : gM) (v : Int64), s + i ≤ t → pNxF σ0 σ → σ 82 7 = nI s → σ 82 6 = nI (s + i) → σ 82 10 = nI (fv f s (m3 i)) → s + i = rn (fun j => isFg (f j)) (t - s) s → (if i ≤ 3 then v = -1 else v = -4) → Q (gUL σ 82 8 v) := by
    intro i σ v hi hF h7 h6 h10 hr hv
    have ei : tEs f t s - s = i := by rw [hE, ← hr, Nat.add_sub_cancel_left]
    refine hQ _ (pNxF_L hF) ⟨by rw [gUL_off (by omega) (by omega)]; exact h7, by rw [gUL_off (by omega) (by omega), h6, hE, hr], ?_, fun _ => ?_⟩
    · rw [gUL_at]
      unfold tCok
      rw [if_neg (by omega), if_neg (by rw [hL]; simp), if_pos hG, ei]
      exact hv
    · rw [gUL_off (by omega) (by omega), h10]
      unfold tVs
      rw [ei]
  intro m
  induction m with
  | zero =>
    intro i σ hq hF h7 h6 h9 h10 hr
    have h0 := (pNxF_MS hF hc).1
    have : t ≤ s + i := by omega
    rw [wM_nextToken_l255]
    simp (disch := first | assumption | omega | decide) only [h0, h6, h9, nI_leI2, this, Nat.le_refl, Nat.reduceLeDiff, Nat.reduceLT, Nat.reduceEqDiff, Nat.reduceAdd, Nat.reduceMul, Nat.reduceSub, forall_eq, true_and, and_true, not_true_eq_false, not_false_eq_true, false_implies, true_implies, implies_true, if_true, if_false, ite_self]
    refine ⟨fun q => fin i σ _ (by omega) hF h7 h6 h10 hr (by rw [if_pos q]), fun q => fin i σ _ (by omega) hF h7 h6 h10 hr (by rw [if_neg q])⟩
  | succ m ih =>
    intro i σ hq hF h7 h6 h9 h10 hr
    obtain ⟨h0, hb⟩ := pNxF_MS hF hc
    have q1 : ¬ t ≤ s + i := by omega
    have q2 : s + i < 400 := by omega
    have e := hb (s + i) (by omega)
    rw [rn] at hr
    rw [wM_nextToken_l255]
    simp (disch := first | assumption | omega | decide) only [h0, h6, h9, nI_leI2, q1, vinT, nI_clamp, e, eM_inF, Nat.le_refl, Nat.reduceLeDiff, Nat.reduceLT, Nat.reduceEqDiff, Nat.reduceAdd, Nat.reduceMul, Nat.reduceSub, forall_eq, true_and, and_true, not_true_eq_false, not_false_eq_true, false_implies, true_implies, implies_true, if_true, if_false, ite_self]
    cases hl : isFg (f (s + i)) with
    | true =>
      rw [if_pos hl] at hr
      simp only [Nat.le_refl, Nat.reduceLeDiff, Nat.reduceLT, Nat.reduceEqDiff, Nat.reduceAdd, Nat.reduceMul, Nat.reduceSub, forall_eq, true_and, and_true, not_true_eq_false, not_false_eq_true, false_implies, true_implies, implies_true, if_true, if_false, ite_self, n01, e]
      obtain ⟨c, c1, c2, c3⟩ := isFg_of hl
      have hv : (if nI 3 ≤ nI i then nI (fv f s (m3 i)) else nI 10 * nI (fv f s (m3 i)) + f (s + i) - nI 48) = nI (fv f s (m3 (i + 1))) := by
        by_cases q3 : 3 ≤ i
        · have a1 : m3 i = 3 := by unfold m3; split <;> omega
          have a2 : m3 (i + 1) = 3 := by unfold m3; split <;> omega
          rw [if_pos (by rw [nI_leI2 (by omega) (by omega)]; exact q3), a1, a2]
        · have a1 : m3 i = i := by unfold m3; rw [if_pos (by omega)]
          have a2 : m3 (i + 1) = i + 1 := by unfold m3; rw [if_pos (by omega)]
          rw [if_neg (by rw [nI_leI2 (by omega) (by omega)]; exact q3), a1, a2, fv, c3, pk_mul, nI_add, nI_sub (by omega), nI_clamp (by omega)]
          congr 1
          omega
      have hv2 : (if 3 ≤ i then nI (fv f s (m3 i)) else nI 10 * nI (fv f s (m3 i)) + f (s + i) - nI 48) = nI (fv f s (m3 (i + 1))) := by
        rw [← hv]
        by_cases q3 : 3 ≤ i
        · rw [if_pos q3, if_pos (by rw [nI_leI2 (by omega) (by omega)]; exact q3)]
        · rw [if_neg q3, if_neg (by rw [nI_leI2 (by omega) (by omega)]; exact q3)]
      simp (disch := first | assumption | omega | decide) only [h10, hv, hv2, h9, h6, gU_off, nI_add, forall_eq]
      refine ih (i + 1) _ (by omega) (pNxF_U (j := 6) (pNxF_U (j := 9) (pNxF_U (j := 10) hF (by omega)) (by omega)) (by omega)) ?_ gU_eq ?_ ?_ hr
      · rw [gU_off (by omega), gU_off (by omega), gU_off (by omega)]; exact h7
      · rw [gU_off (by omega), gU_eq]
      · rw [gU_off (by omega), gU_off (by omega), gU_eq]
    | false =>
      rw [if_neg (by rw [hl]; simp)] at hr
      simp (disch := first | assumption | omega | decide) only [Nat.le_refl, Nat.reduceLeDiff, Nat.reduceLT, Nat.reduceEqDiff, Nat.reduceAdd, Nat.reduceMul, Nat.reduceSub, forall_eq, true_and, and_true, not_true_eq_false, not_false_eq_true, false_implies, true_implies, implies_true, if_true, if_false, ite_self, Bool.false_eq_true, h9, nI_leI2]
      refine ⟨fun q => fin i σ _ (by omega) hF h7 h6 h10 hr (by rw [if_pos q]), fun q => fin i σ _ (by omega) hF h7 h6 h10 hr (by rw [if_neg q])⟩
theorem s_nt_letters {σ0 : gM} {s : Nat} (ht : t ≤ 400) (hst : s < t) (hL : isLt (f s) = true) (hc : MS f t σ0) {Q : gM → Prop} (hQ : ∀ σ', pNxF σ0 σ' → RMt f t s σ' → Q σ') : ∀ (m i : Nat) (σ : gM), s + i + m = t → pNxF σ0 σ → σ 82 7 = nI s → σ 82 6 = nI (s + i) → (∀ j, j < i → isLt (f (s + j)) = true) → (i ≤ 9 → (gLg (σ 82 8) (σ 82 108)).toInt = (wv f s i : Int)) → rn (fun j => isLt (f j)) m (s + i) = rn (fun j => isLt (f j)) (t - s) s → wM_nextToken_l115 Q (m + 1) σ := by
  have n01 : ¬ nI 1 = nI 0 := by decide
  have hE : tEs f t s = rn (fun j => isLt (f j)) (t - s) s := by
    unfold tEs
    rw [if_neg (by omega), if_pos hL]
  have hK : tKs f t s = 0 := by
    unfold tKs
    rw [if_neg (by omega), if_pos hL]
  have fin : ∀ (i : Nat) (σ : gM), s + i ≤ t → pNxF σ0 σ → σ 82 7 = nI s → σ 82 6 = nI (s + i) → (i ≤ 9 → (gLg (σ 82 8) (σ 82 108)).toInt = (wv f s i : Int)) → s + i = rn (fun j => isLt (f j)) (t - s) s → wM_nextToken_b205 Q σ := by
    intro i σ hi hF h7 h6 hw hr
    have ei : tEs f t s - s = i := by rw [hE, ← hr, Nat.add_sub_cancel_left]
    have hsub : nI (s + i) - nI s = nI i := by rw [nI_sub (by omega), Nat.add_sub_cancel_left]
    have go : ∀ v : Int64, (if i ≤ 9 then v.toInt = (wv f s i : Int) else v = -4) → Q (gUL σ 82 8 v) := fun v hv => by
      refine hQ _ (pNxF_L hF) ⟨by rw [gUL_off (by omega) (by omega)]; exact h7, by rw [gUL_off (by omega) (by omega), h6, hE, hr], ?_, fun z => by rw [hK] at z; omega⟩
      rw [gUL_at]
      unfold tCok
      rw [if_neg (by omega), if_pos hL, ei]
      exact hv
    unfold wM_nextToken_b205
    simp (disch := first | assumption | omega | decide) only [h6, h7, hsub, nI_leI2, forall_eq]
    exact ⟨fun q => go _ (by rw [if_pos q]; exact hw q), fun q => go _ (by rw [if_neg q])⟩
  intro m
  induction m with
  | zero =>
    intro i σ hq hF h7 h6 hl hw hr
    have h0 := (pNxF_MS hF hc).1
    have : t ≤ s + i := by omega
    rw [wM_nextToken_l115]
    simp (disch := first | assumption | omega | decide) only [h0, h6, nI_leI2, this, Nat.le_refl, Nat.reduceLeDiff, Nat.reduceLT, Nat.reduceEqDiff, Nat.reduceAdd, Nat.reduceMul, Nat.reduceSub, forall_eq, true_and, and_true, not_true_eq_false, not_false_eq_true, false_implies, true_implies, implies_true, if_true, if_false, ite_self]
    exact fin i σ (by omega) hF h7 h6 hw hr
  | succ m ih =>
    intro i σ hq hF h7 h6 hl hw hr
    obtain ⟨h0, hb⟩ := pNxF_MS hF hc
    have q1 : ¬ t ≤ s + i := by omega
    have q2 : s + i < 400 := by omega
    have e := hb (s + i) (by omega)
    have hsub : nI (s + i) - nI s = nI i := by rw [nI_sub (by omega), Nat.add_sub_cancel_left]
    rw [rn] at hr
    rw [wM_nextToken_l115]
    simp (disch := first | assumption | omega | decide) only [h0, h6, nI_leI2, q1, vinT, nI_clamp, e, eM_inL, Nat.le_refl, Nat.reduceLeDiff, Nat.reduceLT, Nat.reduceEqDiff, Nat.reduceAdd, Nat.reduceMul, Nat.reduceSub, forall_eq, true_and, and_true, not_true_eq_false, not_false_eq_true, false_implies, true_implies, implies_true, if_true, if_false, ite_self]
    cases hll : isLt (f (s + i)) with
    | true =>
      rw [if_pos hll] at hr
      simp only [Nat.le_refl, Nat.reduceLeDiff, Nat.reduceLT, Nat.reduceEqDiff, Nat.reduceAdd, Nat.reduceMul, Nat.reduceSub, forall_eq, true_and, and_true, not_true_eq_false, not_false_eq_true, false_implies, true_implies, implies_true, if_true, if_false, ite_self, n01]
      obtain ⟨c, c1, c2, c3⟩ := isLt_of hll
      have hl2 : ∀ j, j < i + 1 → isLt (f (s + j)) = true := fun j hj => by
        by_cases e : j = i
        · rw [e]; exact hll
        · exact hl j (by omega)
      simp (disch := first | assumption | omega | decide) only [h6, h7, hsub, nI_leI2, Nat.le_refl, Nat.reduceLeDiff, Nat.reduceLT, Nat.reduceEqDiff, Nat.reduceAdd, Nat.reduceMul, Nat.reduceSub, forall_eq, true_and, and_true, not_true_eq_false, not_false_eq_true, false_implies, true_implies, implies_true, if_true, if_false, ite_self, vinT, nI_clamp]
      refine ⟨fun q => ?_, fun q => ?_⟩
      · simp (disch := first | assumption | omega | decide) only [gUL_off, h6, nI_add]
        refine ih (i + 1) _ (by omega) (pNxF_U (pNxF_L hF) (by omega)) ?_ gU_eq hl2 (fun z => absurd z (by omega)) hr
        rw [gU_off (by omega), gUL_off (by omega) (by omega)]; exact h7
      · simp (disch := first | assumption | omega | decide) only [gUL_off, h6, nI_add]
        refine ih (i + 1) _ (by omega) (pNxF_U (pNxF_L hF) (by omega)) ?_ gU_eq hl2 (fun _ => ?_) hr
        · rw [gU_off (by omega), gUL_off (by omega) (by omega)]; exact h7
        · rw [gUL_keep (by omega) (by omega), gUL_at, c3, wv, c3, nI_clamp (by omega)]
          have hwi := hw (by omega)
          have hbd := wv_bd (f := f) (s := s) (i := i) (by omega) hl
          have k1 : ((27 : Int64) * gLg (σ 82 8) (σ 82 108)).toInt = (27 * wv f s i : Nat) := L_mul rfl hwi (by omega)
          have k2 : ((nI c).toInt64).toInt = (c : Int) := by rw [Int32.toInt_toInt64, nI_I (by omega)]
          have k3 := L_add k1 k2 (by omega)
          have k4 := L_sub k3 (show (96 : Int64).toInt = ((96 : Nat) : Int) from rfl) (by omega) (by omega)
          rw [k4]
          congr 1
          omega
    | false =>
      rw [if_neg (by rw [hll]; simp)] at hr
      simp (disch := first | assumption | omega | decide) only [Nat.le_refl, Nat.reduceLeDiff, Nat.reduceLT, Nat.reduceEqDiff, Nat.reduceAdd, Nat.reduceMul, Nat.reduceSub, forall_eq, true_and, and_true, not_true_eq_false, not_false_eq_true, false_implies, true_implies, implies_true, if_true, if_false, ite_self, Bool.false_eq_true]
      exact fin i σ (by omega) hF h7 h6 hw hr
theorem s_nt_b {σ0 σ : gM} {s : Nat} (ht : t ≤ 400) (hst : s ≤ t) (hc : MS f t σ0) (hF : pNxF σ0 σ) (h6 : σ 82 6 = nI s) {Q : gM → Prop} (hQ : ∀ σ', pNxF σ0 σ' → RMt f t s σ' → Q σ') : wM_nextToken_b52 Q σ := by
  have n01 : ¬ nI 1 = nI 0 := by decide
  obtain ⟨h0, hb⟩ := pNxF_MS hF hc
  obtain ⟨σ4, e4⟩ : ∃ σ4, σ4 = gU (gU (gU σ 82 7 (nI s)) 82 9 (nI 0)) 82 10 (nI 0) := ⟨_, rfl⟩
  have hF4 : pNxF σ0 σ4 := by rw [e4]; exact pNxF_U (pNxF_U (pNxF_U hF (by omega)) (by omega)) (by omega)
  have h74 : σ4 82 7 = nI s := by rw [e4, gU_off (by omega), gU_off (by omega), gU_eq]
  have h94 : σ4 82 9 = nI 0 := by rw [e4, gU_off (by omega), gU_eq]
  have h104 : σ4 82 10 = nI 0 := by rw [e4, gU_eq]
  have h64 : σ4 82 6 = nI s := by rw [e4, gU_off (by omega), gU_off (by omega), gU_off (by omega)]; exact h6
  obtain ⟨h04, hb4⟩ := pNxF_MS hF4 hc
  unfold wM_nextToken_b52
  simp only [forall_eq, h6]
  rw [← e4]
  have hE : tEs f t s = (if t ≤ s then s else if isLt (f s) = true then rn (fun j => isLt (f j)) (t - s) s else if isFg (f s) = true then rn (fun j => isFg (f j)) (t - s) s else s + 1) := rfl
  have hK : tKs f t s = (if t ≤ s then 3 else if isLt (f s) = true then 0 else if isFg (f s) = true then (if tEs f t s - s ≤ 3 then 1 else 4) else if f s = nI 59 then 2 else 4) := rfl
  by_cases q : t ≤ s
  · rw [if_pos q] at hE hK
    have q2 : s = t := by omega
    simp (disch := first | assumption | omega | decide) only [h64, h04, nI_eqI, q2, Nat.le_refl, Nat.reduceLeDiff, Nat.reduceLT, Nat.reduceEqDiff, Nat.reduceAdd, Nat.reduceMul, Nat.reduceSub, forall_eq, true_and, and_true, not_true_eq_false, not_false_eq_true, false_implies, true_implies, implies_true, if_true, if_false, ite_self]
    refine hQ _ (pNxF_L hF4) ⟨by rw [gUL_off (by omega) (by omega)]; exact h74, by rw [gUL_off (by omega) (by omega), h64, hE], ?_, fun z => by rw [hK] at z; omega⟩
    rw [gUL_at]
    unfold tCok
    rw [if_pos q]
  · rw [if_neg q] at hE hK
    have q2 : ¬ s = t := by omega
    have q3 : s < 400 := by omega
    have e := hb4 s (by omega)
    simp (disch := first | assumption | omega | decide) only [h64, h04, nI_eqI, q2, Nat.le_refl, Nat.reduceLeDiff, Nat.reduceLT, Nat.reduceEqDiff, Nat.reduceAdd, Nat.reduceMul, Nat.reduceSub, forall_eq, true_and, and_true, not_true_eq_false, not_false_eq_true, false_implies, true_implies, implies_true, if_true, if_false, ite_self, vinT, nI_clamp, e, eM_inL]
    cases hl : isLt (f s) with
    | true =>
      simp only [Nat.le_refl, Nat.reduceLeDiff, Nat.reduceLT, Nat.reduceEqDiff, Nat.reduceAdd, Nat.reduceMul, Nat.reduceSub, forall_eq, true_and, and_true, not_true_eq_false, not_false_eq_true, false_implies, true_implies, implies_true, if_true, if_false, ite_self, n01]
      refine ⟨t - s + 1, s_nt_letters ht (by omega) hl hc hQ (t - s) 0 _ (by omega) (pNxF_L hF4) (by rw [gUL_off (by omega) (by omega)]; exact h74) (by rw [gUL_off (by omega) (by omega)]; exact h64) (fun j hj => absurd hj (by omega)) (fun _ => by rw [gUL_at]; rfl) (by rw [Nat.add_zero])⟩
    | false =>
      rw [if_neg (by rw [hl]; simp)] at hE hK
      simp (disch := first | assumption | omega | decide) only [Nat.le_refl, Nat.reduceLeDiff, Nat.reduceLT, Nat.reduceEqDiff, Nat.reduceAdd, Nat.reduceMul, Nat.reduceSub, forall_eq, true_and, and_true, not_true_eq_false, not_false_eq_true, false_implies, true_implies, implies_true, if_true, if_false, ite_self, Bool.false_eq_true, eM_inF, h64, vinT, nI_clamp, e]
      cases hg : isFg (f s) with
      | true =>
        simp only [Nat.le_refl, Nat.reduceLeDiff, Nat.reduceLT, Nat.reduceEqDiff, Nat.reduceAdd, Nat.reduceMul, Nat.reduceSub, forall_eq, true_and, and_true, not_true_eq_false, not_false_eq_true, false_implies, true_implies, implies_true, if_true, if_false, ite_self, n01]
        exact ⟨t - s + 1, s_nt_digits ht (by omega) hl hg hc hQ (t - s) 0 σ4 (by omega) hF4 h74 h64 h94 h104 (by rw [Nat.add_zero])⟩
      | false =>
        rw [if_neg (by rw [hg]; simp)] at hE hK
        simp (disch := first | assumption | omega | decide) only [Nat.le_refl, Nat.reduceLeDiff, Nat.reduceLT, Nat.reduceEqDiff, Nat.reduceAdd, Nat.reduceMul, Nat.reduceSub, forall_eq, true_and, and_true, not_true_eq_false, not_false_eq_true, false_implies, true_implies, implies_true, if_true, if_false, ite_self, Bool.false_eq_true, h64, vinT, nI_clamp, e, gUL_off, nI_add]
        have go : ∀ v : Int64, (if f s = nI 59 then v = -3 else v = -4) → Q (gU (gUL σ4 82 8 v) 82 6 (nI (s + 1))) := fun v hv => by
          refine hQ _ (pNxF_U (pNxF_L hF4) (by omega)) ⟨by rw [gU_off (by omega), gUL_off (by omega) (by omega)]; exact h74, by rw [gU_eq, hE], ?_, fun z => by rw [hK] at z; split at z <;> omega⟩
          rw [gUL_keep (by omega) (by omega), gUL_at]
          unfold tCok
          rw [if_neg q, if_neg (by rw [hl]; simp), if_neg (by rw [hg]; simp)]
          exact hv
        exact ⟨fun z => go _ (by rw [if_pos z]), fun z => go _ (by rw [if_neg z])⟩
theorem s_nt_l {σ0 : gM} {p : Nat} (ht : t ≤ 400) (hc : MS f t σ0) {Q : gM → Prop} (hQ : ∀ σ', pNxF σ0 σ' → σ' 82 6 = nI (tS f t p) → wM_nextToken_b52 Q σ') : ∀ (m q : Nat) (σ : gM), q + m = t → pNxF σ0 σ → σ 82 6 = nI q → rn (fun j => isBk (f j)) m q = tS f t p → wM_nextToken_l0 Q (m + 1) σ := by
  intro m
  induction m with
  | zero =>
    intro q σ hq hF h6 hr
    have h0 := (pNxF_MS hF hc).1
    have : t ≤ q := by omega
    rw [wM_nextToken_l0]
    simp (disch := first | assumption | omega | decide) only [h0, h6, nI_leI2, this, Nat.le_refl, Nat.reduceLeDiff, Nat.reduceLT, Nat.reduceEqDiff, Nat.reduceAdd, Nat.reduceMul, Nat.reduceSub, forall_eq, true_and, and_true, not_true_eq_false, not_false_eq_true, false_implies, true_implies, implies_true, if_true, if_false, ite_self]
    exact hQ σ hF (by rw [h6, ← hr]; rfl)
  | succ m ih =>
    intro q σ hq hF h6 hr
    obtain ⟨h0, hb⟩ := pNxF_MS hF hc
    have q1 : ¬ t ≤ q := by omega
    have q2 : q < 400 := by omega
    have e := hb q (by omega)
    rw [rn] at hr
    rw [wM_nextToken_l0]
    simp (disch := first | assumption | omega | decide) only [h0, h6, nI_leI2, q1, vinT, nI_clamp, e, Nat.le_refl, Nat.reduceLeDiff, Nat.reduceLT, Nat.reduceEqDiff, Nat.reduceAdd, Nat.reduceMul, Nat.reduceSub, forall_eq, true_and, and_true, not_true_eq_false, not_false_eq_true, false_implies, true_implies, implies_true, if_true, if_false, ite_self, nI_add]
    by_cases b1 : f q = nI 32
    · have hbk : isBk (f q) = true := by unfold isBk; exact decide_eq_true (Or.inl b1)
      rw [if_pos hbk] at hr
      simp only [b1, Nat.le_refl, Nat.reduceLeDiff, Nat.reduceLT, Nat.reduceEqDiff, Nat.reduceAdd, Nat.reduceMul, Nat.reduceSub, forall_eq, true_and, and_true, not_true_eq_false, not_false_eq_true, false_implies, true_implies, implies_true, if_true, if_false, ite_self]
      exact ih (q + 1) _ (by omega) (pNxF_U hF (by omega)) gU_eq hr
    · by_cases b2 : f q = nI 10
      · have hbk : isBk (f q) = true := by unfold isBk; exact decide_eq_true (Or.inr b2)
        rw [if_pos hbk] at hr
        simp only [b1, b2, Nat.le_refl, Nat.reduceLeDiff, Nat.reduceLT, Nat.reduceEqDiff, Nat.reduceAdd, Nat.reduceMul, Nat.reduceSub, forall_eq, true_and, and_true, not_true_eq_false, not_false_eq_true, false_implies, true_implies, implies_true, if_true, if_false, ite_self]
        refine ⟨fun z => absurd (b2.symm.trans (b2.trans z)) (by decide), fun _ => ?_⟩
        exact ih (q + 1) _ (by omega) (pNxF_U hF (by omega)) gU_eq hr
      · have hbk : ¬ isBk (f q) = true := by unfold isBk; intro z; have := of_decide_eq_true z; rcases this with z | z; exact b1 z; exact b2 z
        rw [if_neg hbk] at hr
        simp only [b1, b2, Nat.le_refl, Nat.reduceLeDiff, Nat.reduceLT, Nat.reduceEqDiff, Nat.reduceAdd, Nat.reduceMul, Nat.reduceSub, forall_eq, true_and, and_true, not_true_eq_false, not_false_eq_true, false_implies, true_implies, implies_true, if_true, if_false, ite_self]
        exact hQ σ hF (by rw [h6, hr])
theorem s_next {σ : gM} {p : Nat} (ht : t ≤ 400) (hp : p ≤ t) (hc : MS f t σ) (h6 : σ 82 6 = nI p) {Q : gM → Prop} (hQ : ∀ σ', pNxF σ σ' → RMt f t (tS f t p) σ' → Q σ') : wM_nextToken σ Q := by
  have h0 : pNxF σ σ := ⟨fun _ _ => rfl, fun _ _ _ _ _ _ _ => rfl⟩
  have hs := tS_spec (f := f) hp
  unfold wM_nextToken
  exact ⟨t - p + 1, s_nt_l (p := p) ht hc (fun σ' g1 g2 => s_nt_b ht hs.2 hc g1 g2 hQ) (t - p) p σ (by omega) h0 h6 rfl⟩
end TokM
