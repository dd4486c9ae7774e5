/-! LAY -/
def layB (N : Nat → Int32) (x1 x2 : Int32) (nw : Nat) : Nat → Int32 := pU (pU (pU (pU (pU N 3 (nI (nw + 1))) (22 + 4 * nw) x1) (22 + 4 * nw + 1) x2) (22 + 4 * nw + 2) (nI 0)) (22 + 4 * nw + 3) (-1000000)
def layN (N : Nat → Int32) (x1 x2 : Int32) (nw e nl : Nat) : Nat → Int32 := ptN (layB N x1 x2 nw) e nl (nI nw)
def layH (hp : Nat → Nat) (nw e nl : Nat) : Nat → Nat := fun i => if e = 0 then (if i = 0 then nw else hp (i - 1)) else (if i = nl then nw else hp i)
section LayN
variable {N : Nat → Int32} {x1 x2 : Int32} {nw e nl : Nat}
theorem layN_lo {j : Nat} (hj : j < 6) (h3 : j ≠ 3) (h5 : j ≠ 5) : layN N x1 x2 nw e nl j = N j := by
  unfold layN layB
  simp (disch := omega) only [pU_ne, ptN_lo]
theorem layN_3 : layN N x1 x2 nw e nl 3 = nI (nw + 1) := by
  unfold layN layB
  simp (disch := omega) only [pU_ne, pU_eq, ptN_lo]
theorem layN_5 : layN N x1 x2 nw e nl 5 = nI (nl + 1) := ptN_5
theorem layN_b {i c : Nat} (hi : i < 4) (hc : c < 4) : layN N x1 x2 nw e nl (6 + 4 * i + c) = N (6 + 4 * i + c) := by
  unfold layN layB
  simp (disch := omega) only [pU_ne, ptN_lo]
theorem layN_w {i c : Nat} (hw : nw < 16) (hi : i < nw) (hc : c < 4) : layN N x1 x2 nw e nl (22 + 4 * i + c) = N (22 + 4 * i + c) := by
  unfold layN layB
  simp (disch := omega) only [pU_ne, ptN_lo]
theorem layN_new (hw : nw < 16) : layN N x1 x2 nw e nl (22 + 4 * nw) = x1 ∧ layN N x1 x2 nw e nl (22 + 4 * nw + 1) = x2 ∧ layN N x1 x2 nw e nl (22 + 4 * nw + 2) = nI 0 ∧ layN N x1 x2 nw e nl (22 + 4 * nw + 3) = -1000000 := by
  unfold layN layB
  refine ⟨?_, ?_, ?_, ?_⟩
  · simp (disch := omega) only [pU_ne, pU_eq, ptN_lo]
  · simp (disch := omega) only [pU_ne, pU_eq, ptN_lo]
  · simp (disch := omega) only [pU_ne, pU_eq, ptN_lo]
  · simp (disch := omega) only [pU_ne, pU_eq, ptN_lo]
theorem layN_h {i : Nat} (hw : nw < 16) (hi : i ≤ nl) : layN N x1 x2 nw e nl (86 + i) = if e = 0 then (if i = 0 then nI nw else N (86 + (i - 1))) else (if i = nl then nI nw else N (86 + i)) := by
  unfold layN
  rw [ptN_h hi]
  unfold layB
  simp (disch := omega) only [pU_ne]
end LayN
section Lay
variable {k nb nw nl e kd wo : Nat} {N : Nat → Int32} {hp : Nat → Nat} {σ : gM}
theorem layN_WF (hW : pWF k N nb nw nl hp) (he : e ≤ 1) (hw : nw < 16) (h1 : 1 ≤ kd) (h5 : kd ≤ 5) (ho : wo ≤ 30) : pWF k (layN N (nI kd) (nI wo) nw e nl) nb (nw + 1) (nl + 1) (layH hp nw e nl) := by
  obtain ⟨h1', h2, h3, h4, h5', h6, h7, ⟨dy, h8, h9⟩, h10, h11, h12, h13⟩ := hW
  have new := layN_new (N := N) (x1 := nI kd) (x2 := nI wo) (e := e) (nl := nl) hw
  have old : ∀ i c, i < nw → c < 4 → layN N (nI kd) (nI wo) nw e nl (22 + 4 * i + c) = N (22 + 4 * i + c) := fun i c a b => layN_w hw a b
  refine ⟨by rw [layN_lo (by omega) (by omega) (by omega)]; exact h1', layN_3, layN_5, h4, by omega, by omega, by rw [layN_lo (by omega) (by omega) (by omega)]; exact h7, ⟨dy, h8, by rw [layN_lo (by omega) (by omega) (by omega)]; exact h9⟩, fun i hi => ?_, fun i j hi hj hq => ?_, fun b hb => ?_, fun w hw' => ?_⟩
  · rw [layN_h hw (by omega)]
    unfold layH
    by_cases q : e = 0
    · simp only [q, if_true]
      by_cases q2 : i = 0
      · simp only [q2, if_true]
        exact ⟨by omega, trivial, by rw [← q]; exact new.2.2.2⟩
      · simp only [q2, if_false]
        obtain ⟨a, b, c⟩ := h10 (i - 1) (by omega)
        exact ⟨by omega, b, by rw [← q, old _ _ a (by omega)]; exact c⟩
    · simp only [q, if_false]
      by_cases q2 : i = nl
      · simp only [q2, if_true]
        exact ⟨by omega, trivial, new.2.2.2⟩
      · simp only [q2, if_false]
        obtain ⟨a, b, c⟩ := h10 i (by omega)
        exact ⟨by omega, b, by rw [old _ _ a (by omega)]; exact c⟩
  · unfold layH at hq
    by_cases q : e = 0
    · simp only [q, if_true] at hq
      by_cases a : i = 0
      · by_cases b : j = 0
        · omega
        · rw [if_pos a, if_neg b] at hq
          have := (h10 (j - 1) (by omega)).1
          omega
      · by_cases b : j = 0
        · rw [if_neg a, if_pos b] at hq
          have := (h10 (i - 1) (by omega)).1
          omega
        · rw [if_neg a, if_neg b] at hq
          have := h11 _ _ (by omega) (by omega) hq
          omega
    · simp only [q, if_false] at hq
      by_cases a : i = nl
      · by_cases b : j = nl
        · omega
        · rw [if_pos a, if_neg b] at hq
          have := (h10 j (by omega)).1
          omega
      · by_cases b : j = nl
        · rw [if_neg a, if_pos b] at hq
          have := (h10 i (by omega)).1
          omega
        · rw [if_neg a, if_neg b] at hq
          exact h11 _ _ (by omega) (by omega) hq
  · have := layN_b (N := N) (x1 := nI kd) (x2 := nI wo) (nw := nw) (e := e) (nl := nl) (i := b) (c := 0) (by omega) (by omega)
    rw [Nat.add_zero] at this
    rw [this]; exact h12 b hb
  · by_cases q : w = nw
    · rw [q, new.1, new.2.1, new.2.2.1]
      exact ⟨kd, wo, 0, h1, h5, ho, by omega, rfl, rfl, rfl⟩
    · have := old w 0 (by omega) (by omega)
      rw [Nat.add_zero] at this
      rw [this, old w 1 (by omega) (by omega), old w 2 (by omega) (by omega)]
      exact h13 w (by omega)
theorem s_addWare {Q : Int32 → gM → Prop} (hM : pMk σ 42 N nb nw nl) (hW : pWF k N nb nw nl hp) (he : e ≤ 1) (hw : nw < 16) {x1 x2 : Int32} (hQ : ∀ σ', (∀ c, (c < 42 ∨ 51 < c) → σ' c = σ c) → σ' 42 0 = σ 42 0 → pMk σ' 42 (layN N x1 x2 nw e nl) nb (nw + 1) (nl + 1) → Q (nI nw) σ') : wK42_addWare x1 x2 (nI 0) (nI e) σ Q := by
  have hnb : nb ≤ 4 := hW.2.2.2.1
  have hln : nl ≤ nw := hW.2.2.2.2.2.1
  have m4 := hM.2.2.2.1
  have m5 := hM.2.2.2.2.1
  unfold wK42_addWare
  simp (disch := first | assumption | omega | decide) only [forall_eq, m4, vinT, nI_clamp, true_and, gU_ne, nI_add]
  refine s_putH (nl := nl) he (by omega) (by simp (disch := first | assumption | omega | decide) only [gU_ne, gU_off]; exact m5) (fun σ' f1 f2 f3 f4 => hQ σ' (fun c hc => ?_) ?_ ?_)
  · rw [f1 c (by omega) (by omega)]
    simp (disch := omega) only [gU_ne]
  · rw [f2 0 (by omega)]
    simp (disch := omega) only [gU_ne, gU_off]
  · obtain ⟨m1, m2, m3, m4, -, m6, m7, m8⟩ := hM
    have g42 : ∀ j, j ≠ 5 → j ≠ 4 → σ' 42 j = σ 42 j := fun j hj hj4 => by rw [f2 j hj]; simp (disch := omega) only [gU_ne, gU_off]
    refine ⟨by rw [g42 1 (by omega) (by omega), layN_lo (by omega) (by omega) (by omega)]; exact m1, by rw [g42 2 (by omega) (by omega), layN_lo (by omega) (by omega) (by omega)]; exact m2, by rw [g42 3 (by omega) (by omega)]; exact m3, by rw [f2 4 (by omega)]; exact gU_eq, f3, fun i hi => ?_, fun i hi => ?_, fun i hi => ?_⟩
    · have t0 := layN_b (N := N) (x1 := x1) (x2 := x2) (nw := nw) (e := e) (nl := nl) (i := i) (c := 0) (by omega) (by omega)
      rw [Nat.add_zero] at t0
      rw [t0, layN_b (by omega) (by omega), layN_b (by omega) (by omega), layN_b (by omega) (by omega), f1 43 (by omega) (by omega), f1 44 (by omega) (by omega), f1 45 (by omega) (by omega), f1 46 (by omega) (by omega)]
      simp (disch := omega) only [gU_ne]
      exact m6 i hi
    · rw [f1 47 (by omega) (by omega), f1 48 (by omega) (by omega), f1 49 (by omega) (by omega), f1 50 (by omega) (by omega)]
      by_cases q : i = nw
      · subst q
        obtain ⟨t1, t2, t3, t4⟩ := layN_new (N := N) (x1 := x1) (x2 := x2) (e := e) (nl := nl) hw
        rw [t1, t2, t3, t4]
        simp (disch := omega) only [gU_ne, gU_eq, and_self]
      · have t0 := layN_w (N := N) (x1 := x1) (x2 := x2) (nw := nw) (e := e) (nl := nl) (i := i) (c := 0) hw (by omega) (by omega)
        rw [Nat.add_zero] at t0
        rw [t0, layN_w hw (by omega) (by omega), layN_w hw (by omega) (by omega), layN_w hw (by omega) (by omega)]
        simp (disch := omega) only [gU_ne, gU_off]
        exact m7 i (by omega)
    · rw [layN_h hw (by omega)]
      have e9 : σ' (42 + 9) i = σ' 51 i := rfl
      rw [e9, f4 i (by omega)]
      simp (disch := omega) only [gU_ne]
      by_cases q : e = 0
      · simp only [q, if_true]
        by_cases q2 : i = 0
        · simp only [q2, if_true]
        · simp only [q2, if_false]
          exact m8 (i - 1) (by omega)
      · simp only [q, if_false]
        by_cases q2 : i = nl
        · simp only [q2, if_true]
        · simp only [q2, if_false]
          exact m8 i (by omega)
end Lay
theorem op_lay {k : Nat} {x1 x2 x3 : Int32} {σ : gM} (h : pInv k σ) : pBoth (wH_lay x1 x2 x3) (wM_lay x1 x2 x3) σ (pInv k) := by
  obtain ⟨nb, nw, nl, hp, hM, hW⟩ := h.2.2.2.2.2.2.1
  obtain ⟨n, nx, a1, a2, a3, a4, a5, hR, hH⟩ := h.2.2.2.2.2.2.2.2.2
  have hn : nw ≤ 16 := hW.2.2.2.2.1
  have hln : nl ≤ nw := hW.2.2.2.2.2.1
  have hnb : nb ≤ 4 := hW.2.2.2.1
  have e4 : σ 42 4 = nI nw := hM.2.2.2.1
  have e4' : σ 89 3 = nI nw := hW.2.1
  obtain ⟨es, h01⟩ := e_stands h
  have n01 : ¬ nI 1 = nI 0 := by decide
  unfold pBoth wH_lay
  rcases h01 with z | z
  · simp only [es, z, Nat.le_refl, Nat.reduceLeDiff, Nat.reduceLT, Nat.reduceEqDiff, Nat.reduceAdd, Nat.reduceMul, Nat.reduceSub, forall_eq, true_and, and_true, not_true_eq_false, not_false_eq_true, false_implies, true_implies, implies_true, if_true, if_false, ite_self, wM_lay]
    exact h
  simp only [es, z, n01, Nat.le_refl, Nat.reduceLeDiff, Nat.reduceLT, Nat.reduceEqDiff, Nat.reduceAdd, Nat.reduceMul, Nat.reduceSub, forall_eq, true_and, and_true, not_true_eq_false, not_false_eq_true, false_implies, true_implies, implies_true, if_true, if_false, ite_self]
  rcases i_nat x1 with h1 | ⟨kd, hkd, rfl⟩
  · simp (disch := first | assumption | omega | decide) only [nI_leI2, nI_ltI2, nI_eqI, nI_add, nI_sub, pk_mul, nI_clamp, vinT, Nat.add_sub_cancel, Nat.le_refl, Nat.reduceLeDiff, Nat.reduceLT, Nat.reduceEqDiff, Nat.reduceAdd, Nat.reduceMul, Nat.reduceSub, forall_eq, true_and, and_true, not_true_eq_false, not_false_eq_true, false_implies, true_implies, implies_true, if_true, if_false, ite_self, ng_lt, ng_le, ng_gt, ng_ge, ng_eq, ng_qe, wM_lay, z, n01, eM_in]
    exact h
  by_cases hk1 : kd < 1
  · simp (disch := first | assumption | omega | decide) only [nI_leI2, nI_ltI2, nI_eqI, nI_add, nI_sub, pk_mul, nI_clamp, vinT, Nat.add_sub_cancel, Nat.le_refl, Nat.reduceLeDiff, Nat.reduceLT, Nat.reduceEqDiff, Nat.reduceAdd, Nat.reduceMul, Nat.reduceSub, forall_eq, true_and, and_true, not_true_eq_false, not_false_eq_true, false_implies, true_implies, implies_true, if_true, if_false, ite_self, wM_lay, z, n01, eM_in, hk1]
    exact h
  by_cases hk5 : 5 < kd
  · simp (disch := first | assumption | omega | decide) only [nI_leI2, nI_ltI2, nI_eqI, nI_add, nI_sub, pk_mul, nI_clamp, vinT, Nat.add_sub_cancel, Nat.le_refl, Nat.reduceLeDiff, Nat.reduceLT, Nat.reduceEqDiff, Nat.reduceAdd, Nat.reduceMul, Nat.reduceSub, forall_eq, true_and, and_true, not_true_eq_false, not_false_eq_true, false_implies, true_implies, implies_true, if_true, if_false, ite_self, wM_lay, z, n01, eM_in, hk1, hk5]
    exact h
  rcases i_nat x2 with h2 | ⟨wo, hwo, rfl⟩
  · simp (disch := first | assumption | omega | decide) only [nI_leI2, nI_ltI2, nI_eqI, nI_add, nI_sub, pk_mul, nI_clamp, vinT, Nat.add_sub_cancel, Nat.le_refl, Nat.reduceLeDiff, Nat.reduceLT, Nat.reduceEqDiff, Nat.reduceAdd, Nat.reduceMul, Nat.reduceSub, forall_eq, true_and, and_true, not_true_eq_false, not_false_eq_true, false_implies, true_implies, implies_true, if_true, if_false, ite_self, ng_lt, ng_le, ng_gt, ng_ge, ng_eq, ng_qe, wM_lay, z, n01, eM_in, hk1, hk5]
    exact h
  by_cases ho : 30 < wo
  · simp (disch := first | assumption | omega | decide) only [nI_leI2, nI_ltI2, nI_eqI, nI_add, nI_sub, pk_mul, nI_clamp, vinT, Nat.add_sub_cancel, Nat.le_refl, Nat.reduceLeDiff, Nat.reduceLT, Nat.reduceEqDiff, Nat.reduceAdd, Nat.reduceMul, Nat.reduceSub, forall_eq, true_and, and_true, not_true_eq_false, not_false_eq_true, false_implies, true_implies, implies_true, if_true, if_false, ite_self, wM_lay, z, n01, eM_in, hk1, hk5, ho, Nat.not_lt_zero]
    exact h
  rcases e_end x3 with ⟨e, he, rfl, eH, eM⟩ | ⟨eH, eM⟩
  · by_cases hf : nw = 16
    · simp (disch := first | assumption | omega | decide) only [nI_ltI2, nI_eqI, hk1, hk5, ho, Nat.not_lt_zero, eH, e4, hf, Nat.le_refl, Nat.reduceLeDiff, Nat.reduceLT, Nat.reduceEqDiff, Nat.reduceAdd, Nat.reduceMul, Nat.reduceSub, forall_eq, true_and, and_true, not_true_eq_false, not_false_eq_true, false_implies, true_implies, implies_true, if_true, if_false, ite_self, wM_lay, z, n01, eM, e4']
      rw [eM_in, eM_in]
      simp (disch := first | assumption | omega | decide) only [nI_ltI2, nI_eqI, hk1, hk5, ho, Nat.not_lt_zero, Nat.le_refl, Nat.reduceLeDiff, Nat.reduceLT, Nat.reduceEqDiff, Nat.reduceAdd, Nat.reduceMul, Nat.reduceSub, forall_eq, true_and, and_true, not_true_eq_false, not_false_eq_true, false_implies, true_implies, implies_true, if_true, if_false, ite_self, n01, e4', hf]
      exact h
    · have hw : nw < 16 := by omega
      simp (disch := first | assumption | omega | decide) only [nI_ltI2, nI_eqI, hk1, hk5, ho, Nat.not_lt_zero, eH, e4, hf, Nat.le_refl, Nat.reduceLeDiff, Nat.reduceLT, Nat.reduceEqDiff, Nat.reduceAdd, Nat.reduceMul, Nat.reduceSub, forall_eq, true_and, and_true, not_true_eq_false, not_false_eq_true, false_implies, true_implies, implies_true, if_true, if_false, ite_self]
      refine s_addWare hM hW he hw (fun σ1 g1 g2 g3 => ?_)
      refine s_keep (n := n) (nx := nx) (by rw [g1 20 (by omega)]; exact a4) (by rw [g1 20 (by omega)]; exact a5) a1 a2 (fun σ2 f1 f2 f3 f4 f5 f6 => ?_)
      have fr2 : ∀ c, (c < 20 ∨ (24 ≤ c ∧ c < 42) ∨ 51 < c) → σ2 c = σ c := fun c hc => by rw [f1 c (by omega) (by omega) (by omega) (by omega), g1 c (by omega)]
      have h89 : σ2 89 = σ 89 := fr2 89 (by omega)
      unfold wM_lay
      rw [eM_in, eM_in]
      simp (disch := first | assumption | omega | decide) only [nI_ltI2, nI_eqI, hk1, hk5, ho, Nat.not_lt_zero, h89, e4', hf, Nat.le_refl, Nat.reduceLeDiff, Nat.reduceLT, Nat.reduceEqDiff, Nat.reduceAdd, Nat.reduceMul, Nat.reduceSub, forall_eq, true_and, and_true, not_true_eq_false, not_false_eq_true, false_implies, true_implies, implies_true, if_true, if_false, ite_self, z, n01, eM]
      have k0 : 22 + 4 * nw < 102 := by omega
      simp (disch := first | assumption | omega | decide) only [nI_add, pk_mul, vinT, nI_clamp, Nat.le_refl, Nat.reduceLeDiff, Nat.reduceLT, Nat.reduceEqDiff, Nat.reduceAdd, Nat.reduceMul, Nat.reduceSub, forall_eq, true_and, and_true, not_true_eq_false, not_false_eq_true, false_implies, true_implies, implies_true, if_true, if_false, ite_self]
      refine s_putM (nl := nl) he (by omega) (by simp (disch := omega) only [gU_off, h89]; exact hW.2.2.1) (fun σ3 u1 u2 => ?_)
      refine s_note (n := n) (by rw [u1 82 (by omega), gU_ne (by omega), gU_ne (by omega), gU_ne (by omega), gU_ne (by omega), gU_ne (by omega), fr2 82 (by omega)]; exact a3) a1 (fun σ4 w1 w2 w3 w4 w5 w6 w7 w8 w9 => ?_)
      have N' : σ4 89 = layN (σ 89) (nI kd) (nI wo) nw e nl := by
        rw [w1 89 (by omega) (by omega), u2, gU_pU, gU_pU, gU_pU, gU_pU, gU_pU, h89]
        rfl
      have fr4 : ∀ c, c ≠ 82 → c ≠ 92 → c ≠ 89 → σ4 c = σ2 c := fun c c1 c2 c3 => by
        rw [w1 c c1 c2, u1 c c3, gU_ne c3, gU_ne c3, gU_ne c3, gU_ne c3, gU_ne c3]
      have fr82 : ∀ j, j ≠ 20 → σ4 82 j = σ 82 j := fun j hj => by
        rw [w2 j hj, u1 82 (by omega), gU_ne (by omega), gU_ne (by omega), gU_ne (by omega), gU_ne (by omega), gU_ne (by omega), fr2 82 (by omega)]
      have hWF := layN_WF (e := e) hW he hw (by omega) (by omega) (by omega : wo ≤ 30) (kd := kd)
      refine pInv_act h (Nat.le_refl _) (fun c hc => by rw [fr4 c (by omega) (by omega) (by omega)]; exact fr2 c (by omega)) fr82 ?_ ?_ ?_
      · unfold pStands
        rw [N', fr4 42 (by omega) (by omega) (by omega), f1 42 (by omega) (by omega) (by omega) (by omega), g2, layN_lo (by omega) (by omega) (by omega)]
        exact h.2.2.2.2.2.1
      · refine ⟨nb, nw + 1, nl + 1, layH hp nw e nl, ?_, ?_⟩
        · rw [N']
          exact pMk_fr (fun i _ _ => by rw [fr4 42 (by omega) (by omega) (by omega), f1 42 (by omega) (by omega) (by omega) (by omega)]) (fun c c1 c2 => by rw [fr4 c (by omega) (by omega) (by omega), f1 c (by omega) (by omega) (by omega) (by omega)]) g3
        · rw [N']; exact hWF
      · refine pActs_add (s := nI 1) (e := nI e) (b := nI 0) (p := nI 0) (g := nI 0) (x1 := nI 1) (x2 := nI e) (x3 := nI nw) (Nat.le_refl _) a1 a2 hR hH hW w3 (by rw [fr4 20 (by omega) (by omega) (by omega)]; exact f2) (by rw [fr4 20 (by omega) (by omega) (by omega)]; exact f3)
          (by rw [fr4 21 (by omega) (by omega) (by omega), f4, g1 21 (by omega)]) (by rw [fr4 22 (by omega) (by omega) (by omega), f5, g1 22 (by omega)]) (by rw [fr4 23 (by omega) (by omega) (by omega), f6, g1 23 (by omega)])
          (fun i hi2 => ?_) w5 w6 w7 w8 w9 (Or.inr (Or.inl ⟨rfl, rfl, rfl⟩)) ?_
        · rw [w4 i hi2, u1 92 (by omega), gU_ne (by omega), gU_ne (by omega), gU_ne (by omega), gU_ne (by omega), gU_ne (by omega), fr2 92 (by omega)]
        · rw [N']
          refine ⟨layN_lo (by omega) (by omega) (by omega), layN_lo (by omega) (by omega) (by omega), layN_lo (by omega) (by omega) (by omega), ?_, Or.inr (Or.inl ⟨rfl, hw, layN_3, layN_lo (by omega) (by omega) (by omega), layN_5, fun i hi2 => ?_, ?_, fun i hi2 => ?_, fun i hi2 => ?_⟩)⟩
          · have : e = 0 ∨ e = 1 := by omega
            rcases this with rfl | rfl
            · exact Or.inl rfl
            · exact Or.inr rfl
          · rw [ifE he]
            by_cases q : e = 0
            · rw [if_pos q, layN_h hw (by omega), if_pos q, if_neg (by omega), Nat.add_sub_cancel]
            · rw [if_neg q, layN_h hw (by omega), if_neg q, if_neg (by omega)]
          · rw [ifE he]
            by_cases q : e = 0
            · rw [if_pos q, layN_h hw (by omega), if_pos q, if_pos rfl]
            · rw [if_neg q, layN_h hw (by omega), if_neg q, if_pos rfl]
          · have t0 := layN_b (N := σ 89) (x1 := nI kd) (x2 := nI wo) (nw := nw) (e := e) (nl := nl) (i := i) (c := 0) (by omega) (by omega)
            rw [Nat.add_zero] at t0
            exact ⟨t0, layN_b (by omega) (by omega), layN_b (by omega) (by omega), layN_b (by omega) (by omega)⟩
          · have t0 := layN_w (N := σ 89) (x1 := nI kd) (x2 := nI wo) (nw := nw) (e := e) (nl := nl) (i := i) (c := 0) hw (by omega) (by omega)
            rw [Nat.add_zero] at t0
            exact ⟨t0, layN_w hw (by omega) (by omega), layN_w hw (by omega) (by omega), layN_w hw (by omega) (by omega)⟩
  · simp (disch := first | assumption | omega | decide) only [nI_ltI2, hk1, hk5, ho, Nat.not_lt_zero, eH, Nat.le_refl, Nat.reduceLeDiff, Nat.reduceLT, Nat.reduceEqDiff, Nat.reduceAdd, Nat.reduceMul, Nat.reduceSub, forall_eq, true_and, and_true, not_true_eq_false, not_false_eq_true, false_implies, true_implies, implies_true, if_true, if_false, ite_self, wM_lay, z, n01, eM]
    rw [eM_in, eM_in]
    simp (disch := first | assumption | omega | decide) only [nI_ltI2, hk1, hk5, ho, Nat.not_lt_zero, Nat.le_refl, Nat.reduceLeDiff, Nat.reduceLT, Nat.reduceEqDiff, Nat.reduceAdd, Nat.reduceMul, Nat.reduceSub, forall_eq, true_and, and_true, not_true_eq_false, not_false_eq_true, false_implies, true_implies, implies_true, if_true, if_false, ite_self, n01]
    exact h
