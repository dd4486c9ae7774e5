theorem op_undo {k : Nat} {σ : gM} (h : pInv k σ) : pBoth wH_undo wM_undo σ (pInv k) := by
  obtain ⟨nb, nw, nl, hp, hM, hW⟩ := h.2.2.2.2.2.2.1
  obtain ⟨n, nx, a1, a2, a3, a4, a5, hR, hH⟩ := h.2.2.2.2.2.2.2.2.2
  have hn : nw ≤ 16 := hW.2.2.2.2.1
  have hln : nl ≤ nw := hW.2.2.2.2.2.1
  have hnb : nb ≤ 4 := hW.2.2.2.1
  have n01 : ¬ nI 1 = nI 0 := by decide
  unfold pBoth wH_undo
  cases n with
  | zero =>
    simp (disch := first | assumption | omega | decide) only [a4, Nat.le_refl, Nat.reduceLeDiff, Nat.reduceLT, Nat.reduceEqDiff, Nat.reduceAdd, Nat.reduceMul, Nat.reduceSub, forall_eq, true_and, and_true, not_true_eq_false, not_false_eq_true, false_implies, true_implies, implies_true, if_true, if_false, ite_self, wM_undo, a3]
    exact h
  | succ n =>
    obtain ⟨N0, nb0, nw0, nl0, hp0, hW0, hH0, s0, s1, s2, he, hc⟩ := hH
    have hnb0 := hW0.2.2.2.1
    have hnw0 := hW0.2.2.2.2.1
    have hnl0 := hW0.2.2.2.2.2.1
    have hq : ¬ n + 1 = 0 := by omega
    have hb0 : nb = nb0 := by
      have h1 := hW.1
      rw [s2, hW0.1] at h1
      exact (nI_inj (by omega) (by omega) h1).symm
    subst hb0
    obtain ⟨e, he1, hee⟩ : ∃ e, e ≤ 1 ∧ σ 92 (5 * n + 1) = nI e := by
      rcases he with he | he
      · exact ⟨0, by omega, he⟩
      · exact ⟨1, by omega, he⟩
    obtain ⟨pp, hpp, hh⟩ := hR n (by omega)
    rw [ring_ix4 (by omega) a2] at hpp
    have hpx : pp < 24 := by omega
    have er : nI nx + nI 24 - nI 1 - (nI nx + nI 24 - nI 1) / nI 24 * nI 24 = nI pp := by
      rw [nI_add, nI_sub (by omega), pk_rem (by omega) (by omega) (by omega), hpp]
    have es : nI (n + 1) - nI 1 = nI n := by rw [nI_sub (by omega), Nat.add_sub_cancel]
    obtain ⟨τ, hτ⟩ : ∃ τ, τ = gU (gU σ 20 4 (nI pp)) 20 3 (nI n) := ⟨_, rfl⟩
    have t1 : ∀ c, c ≠ 20 → τ c = σ c := fun c hc => by rw [hτ, gU_ne hc, gU_ne hc]
    have t2 : τ 20 3 = nI n := by rw [hτ, gU_eq]
    have t3 : τ 20 4 = nI pp := by rw [hτ, gU_off (by omega), gU_eq]
    have hMt : pMk τ 42 (σ 89) nb nw nl := pMk_fr (fun i _ _ => by rw [t1 42 (by omega)]) (fun c c1 c2 => t1 c (by omega)) hM
    simp (disch := first | assumption | omega | decide) only [a4, a5, nI_eqI, hq, Nat.le_refl, Nat.reduceLeDiff, Nat.reduceLT, Nat.reduceEqDiff, Nat.reduceAdd, Nat.reduceMul, Nat.reduceSub, forall_eq, true_and, and_true, not_true_eq_false, not_false_eq_true, false_implies, true_implies, implies_true, if_true, if_false, ite_self, wA_takeBack, er, gU_off, gU_eq, es, vinT, nI_clamp]
    rw [← hτ]
    try simp (disch := first | assumption | omega | decide) only [t3, vinT, nI_clamp, Nat.le_refl, Nat.reduceLeDiff, Nat.reduceLT, Nat.reduceEqDiff, Nat.reduceAdd, Nat.reduceMul, Nat.reduceSub, forall_eq, true_and, and_true, not_true_eq_false, not_false_eq_true, false_implies, true_implies, implies_true, if_true, if_false, ite_self]
    have e21 : τ 21 pp = σ 21 pp := by rw [t1 21 (by omega)]
    have e22 : τ 22 pp = σ 22 pp := by rw [t1 22 (by omega)]
    have e23 : τ 23 pp = σ 23 pp := by rw [t1 23 (by omega)]
    rw [e21, e22, e23]
    have n5 : 5 * n < 120 := by omega
    rcases hh with ⟨w, w1, w2, w3, w4, w5⟩ | ⟨w2, w3, w4⟩ | ⟨w2, w3⟩
    · -- a take
      have hwf : ∀ i, i < nl0 → hp0 i < 16 := fun i hi => by have := (hW0.2.2.2.2.2.2.2.2.1 i hi).1; omega
      rcases hc with ⟨w', bi, q1, q2, q3, q4, q5, q6, q7, q8, q9, q10, q11, q12, q13, q14⟩ | ⟨q1, -⟩ | ⟨q1, -⟩
      · have hw'16 : w' < 16 := by rw [q3]; exact hwf _ (by split <;> omega)
        have hww : w = w' := by
          have := nI_inj (by omega) (by omega) (w2.symm.trans q4)
          omega
        subst hww
        have hw0 : w < nw0 := by rw [q3]; exact (hW0.2.2.2.2.2.2.2.2.1 _ (by split <;> omega)).1
        have f3 : nw = nw0 := nI_inj (by omega) (by omega) (hW.2.1.symm.trans q8)
        have f5 : nl = nl0 - 1 := nI_inj (by omega) (by omega) (hW.2.2.1.symm.trans q10)
        subst f3
        have hpv : pV N0 w (nI 0) = pV (σ 89) w (nI 0) := by
          obtain ⟨z1, z2, z3, -⟩ := q13 w hw0
          unfold pV
          rw [z1, z2, z3]
        have hpt : pVT N0 bi w (nI 0) = pVT (σ 89) bi w (nI 0) := by
          unfold pVT
          rw [hpv, (q13 w hw0).1, (q12 bi q1).1]
        have htk : σ 89 (22 + 4 * w + 3) = nI bi := by rw [(q13 w hw0).2.2.2, if_pos rfl]
        simp (disch := first | assumption | omega | decide) only [w3, nI_eqI, Nat.le_refl, Nat.reduceLeDiff, Nat.reduceLT, Nat.reduceEqDiff, Nat.reduceAdd, Nat.reduceMul, Nat.reduceSub, forall_eq, true_and, and_true, not_true_eq_false, not_false_eq_true, false_implies, true_implies, implies_true, if_true, if_false, ite_self, w4, w5, hee]
        refine s_unsell (e := e) (p := σ 92 (5 * n + 3)) (g := σ 92 (5 * n + 4)) hMt hW q1 hw0 he1 (by omega) htk (by rw [q6, hpv]) (by rw [q7, hpt]) (fun σ1 g1 g2 g3 => ?_)
        have fr1 : ∀ c, (c < 20 ∨ (21 ≤ c ∧ c < 42) ∨ 51 < c) → σ1 c = σ c := fun c hc => by rw [g1 c (by omega), t1 c (by omega)]
        have h89 : σ1 89 = σ 89 := fr1 89 (by omega)
        have h92 : σ1 92 = σ 92 := fr1 92 (by omega)
        have h82 : σ1 82 20 = nI (n + 1) := by rw [fr1 82 (by omega)]; exact a3
        have h20 : σ1 20 3 = nI n := by rw [g1 20 (by omega)]; exact t2
        have k1 : ¬ 3 + w = 1 := by omega
        have k2 : ¬ 3 + w = 2 := by omega
        have k3 : 3 + w - 3 = w := by omega
        rw [h20]
        unfold wM_undo
        simp (disch := first | assumption | omega | decide) only [h82, nI_eqI, hq, Nat.le_refl, Nat.reduceLeDiff, Nat.reduceLT, Nat.reduceEqDiff, Nat.reduceAdd, Nat.reduceMul, Nat.reduceSub, forall_eq, true_and, and_true, not_true_eq_false, not_false_eq_true, false_implies, true_implies, implies_true, if_true, if_false, ite_self, es, gU_eq, gU_ne, nI_add, pk_mul, vinT, nI_clamp, h92, w2, hee, q5, nI_sub, k1, k2, k3]
        refine s_putM (nl := nl) he1 (by omega) (by rw [gU_ne (by omega), h89]; exact hW.2.2.1) (fun σ3 u1 u2 => ?_)
        rw [gU_ne (by omega), h89] at u2
        have v0 : ∀ j, j < 86 → j ≠ 5 → σ3 89 j = σ 89 j := fun j hj h5 => by rw [u2, ptN_lo h5 hj]
        have v82 : σ3 82 20 = nI n := by rw [u1 82 (by omega), gU_eq]
        have v92 : σ3 92 = σ 92 := by rw [u1 92 (by omega), gU_ne (by omega), h92]
        have j1 : 6 + 4 * bi + 1 ≠ 22 + 4 * w + 3 := by omega
        have j2 : 6 + 4 * bi + 2 ≠ 22 + 4 * w + 3 := by omega
        have j3 : 6 + 4 * bi + 3 ≠ 22 + 4 * w + 3 := by omega
        simp (disch := first | assumption | omega | decide) only [nI_add, pk_mul, vinT, nI_clamp, Nat.le_refl, Nat.reduceLeDiff, Nat.reduceLT, Nat.reduceEqDiff, Nat.reduceAdd, Nat.reduceMul, Nat.reduceSub, forall_eq, true_and, and_true, not_true_eq_false, not_false_eq_true, false_implies, true_implies, implies_true, if_true, if_false, ite_self, gU_off, gU_ne, v0, v82, v92]
        obtain ⟨σ4, hσ4⟩ : ∃ σ4, σ4 = gU (gU (gU (gU σ3 89 (22 + 4 * w + 3) (-1000000)) 89 (6 + 4 * bi + 1) (σ 89 (6 + 4 * bi + 1) + σ 92 (5 * n + 3))) 89 (6 + 4 * bi + 2) (σ 89 (6 + 4 * bi + 2) - σ 92 (5 * n + 4))) 89 (6 + 4 * bi + 3) (σ 89 (6 + 4 * bi + 3) - nI 1) := ⟨_, rfl⟩
        rw [← hσ4]
        have N' : σ4 89 = untN (σ 89) bi w e nl (σ 92 (5 * n + 3)) (σ 92 (5 * n + 4)) := by
          rw [hσ4, gU_pU, gU_pU, gU_pU, gU_pU, u2]
          rfl
        have fr4 : ∀ c, c ≠ 89 → σ4 c = gU σ1 82 20 (nI n) c := fun c c1 => by rw [hσ4, gU_ne c1, gU_ne c1, gU_ne c1, gU_ne c1, u1 c c1]
        have fr5 : ∀ c, c ≠ 89 → c ≠ 82 → σ4 c = σ1 c := fun c c1 c2 => by rw [fr4 c c1, gU_ne c2]
        refine pInv_undo (N0 := N0) (nb := nb) (nw := nw) (nl := nl + 1) (hp := hp0) h (by omega) a2 hH0 (by rw [show nl + 1 = nl0 by omega]; exact hW0) ?_ ?_ hR (fun c hc => by rw [fr5 c (by omega) (by omega)]; exact fr1 c (by omega)) (by rw [fr5 42 (by omega) (by omega), g2, t1 42 (by omega)]) (by rw [N', untN_lo (by omega) (by omega) (by omega)]) (fun j hj => by rw [fr4 82 (by omega), gU_off hj, fr1 82 (by omega)]) (by rw [fr4 82 (by omega), gU_eq]) (by rw [fr5 20 (by omega) (by omega)]; exact h20) (by rw [fr5 20 (by omega) (by omega), g1 20 (by omega), t3, hpp])
        · rw [N']
          refine ⟨fun i hi => ?_, fun i hi c hc => ?_, fun i hi c hc => ?_, fun i hi => ?_⟩
          · have : i = 0 ∨ i = 1 ∨ i = 2 ∨ i = 3 ∨ i = 4 ∨ i = 5 := by omega
            rcases this with rfl | rfl | rfl | rfl | rfl | rfl
            · rw [untN_lo (by omega) (by omega) (by omega)]; exact s0
            · rw [untN_lo (by omega) (by omega) (by omega)]; exact s1
            · rw [untN_lo (by omega) (by omega) (by omega)]; exact s2
            · rw [untN_lo (by omega) (by omega) (by omega), q8]; exact hW0.2.1.symm
            · rw [untN_lo (by omega) (by omega) (by omega)]; exact q9
            · rw [untN_5 (by omega), show nl + 1 = nl0 by omega]; exact hW0.2.2.1.symm
          · obtain ⟨y1, y2, y3, y4⟩ := untN_b (N := σ 89) (b := bi) (w := w) (e := e) (nl := nl) (p := σ 92 (5 * n + 3)) (g := σ 92 (5 * n + 4)) (by omega) (by omega) (i := i) (by omega)
            obtain ⟨z1, z2, z3, z4⟩ := q12 i hi
            have : c = 0 ∨ c = 1 ∨ c = 2 ∨ c = 3 := by omega
            rcases this with rfl | rfl | rfl | rfl
            · exact y1.trans z1
            · rw [y2, z2]
              by_cases q : i = bi
              · rw [if_pos q, if_pos q, Int32.sub_add_cancel]
              · rw [if_neg q, if_neg q]
            · rw [y3, z3]
              by_cases q : i = bi
              · rw [if_pos q, if_pos q, Int32.add_sub_cancel]
              · rw [if_neg q, if_neg q]
            · rw [y4, z4]
              by_cases q : i = bi
              · rw [if_pos q, if_pos q, Int32.add_sub_cancel]
              · rw [if_neg q, if_neg q]
          · obtain ⟨y1, y2, y3, y4⟩ := untN_w (N := σ 89) (b := bi) (w := w) (e := e) (nl := nl) (p := σ 92 (5 * n + 3)) (g := σ 92 (5 * n + 4)) (by omega) (by omega) (i := i) (by omega)
            obtain ⟨z1, z2, z3, z4⟩ := q13 i hi
            have : c = 0 ∨ c = 1 ∨ c = 2 ∨ c = 3 := by omega
            rcases this with rfl | rfl | rfl | rfl
            · exact y1.trans z1
            · rw [y2]; exact z2
            · rw [y3]; exact z3
            · rw [y4, z4]
              by_cases q : i = w
              · rw [if_pos q, q, q14]
              · rw [if_neg q, if_neg q]
          · rw [untN_h (by omega) (by omega) (by omega)]
            rw [hee, ifE he1] at q3
            have q11' : ∀ i, i < nl0 - 1 → σ 89 (86 + i) = N0 (86 + if e = 0 then i + 1 else i) := fun i hi => by
              have := q11 i hi
              rw [hee, ifE he1] at this
              exact this
            by_cases q : e = 0
            · rw [if_pos q] at q3
              simp only [q, if_true] at q11' ⊢
              by_cases r : i = 0
              · rw [if_pos r, r, q3]
                exact (hW0.2.2.2.2.2.2.2.2.1 0 (by omega)).2.1.symm
              · rw [if_neg r, q11' _ (by omega), show i - 1 + 1 = i by omega]
            · rw [if_neg q] at q3
              simp only [q, if_false] at q11' ⊢
              by_cases r : i = nl
              · rw [if_pos r, q3, r, f5]
                exact (hW0.2.2.2.2.2.2.2.2.1 _ (by omega)).2.1.symm
              · rw [if_neg r, q11' _ (by omega)]
        · rw [N']
          exact pMk_fr (fun i _ _ => by rw [fr5 42 (by omega) (by omega)]) (fun c c1 c2 => fr5 c (by omega) (by omega)) g3
      · exfalso
        have := nI_inj (by omega) (by omega) (w2.symm.trans q1)
        omega
      · exfalso
        have := nI_inj (by omega) (by omega) (w2.symm.trans q1)
        omega
    · -- a ware laid
      rcases hc with ⟨w', bi, q1, q2, q3, q4, -⟩ | ⟨q1, q2, q3, q4, q5, q6, q7, q8, q9⟩ | ⟨q1, -⟩
      · exfalso
        have hw'16 : w' < 16 := by
          rw [q3]
          have := (hW0.2.2.2.2.2.2.2.2.1 (if σ 92 (5 * n + 1) = nI 0 then 0 else nl0 - 1) (by split <;> omega)).1
          omega
        have := nI_inj (by omega) (by omega) (w2.symm.trans q4)
        omega
      · have f3 : nw = nw0 + 1 := nI_inj (by omega) (by omega) (hW.2.1.symm.trans q3)
        have f5 : nl = nl0 + 1 := nI_inj (by omega) (by omega) (hW.2.2.1.symm.trans q5)
        simp (disch := first | assumption | omega | decide) only [w3, nI_eqI, Nat.le_refl, Nat.reduceLeDiff, Nat.reduceLT, Nat.reduceEqDiff, Nat.reduceAdd, Nat.reduceMul, Nat.reduceSub, forall_eq, true_and, and_true, not_true_eq_false, not_false_eq_true, false_implies, true_implies, implies_true, if_true, if_false, ite_self, w4, hee, Nat.one_ne_zero]
        refine s_removeNewest (e := e) hMt hW he1 (by omega) (fun σ1 g1 g2 g3 => ?_)
        have fr1 : ∀ c, (c < 20 ∨ (21 ≤ c ∧ c < 42) ∨ 51 < c) → σ1 c = σ c := fun c hc => by rw [g1 c (by omega), t1 c (by omega)]
        have h89 : σ1 89 = σ 89 := fr1 89 (by omega)
        have h92 : σ1 92 = σ 92 := fr1 92 (by omega)
        have h82 : σ1 82 20 = nI (n + 1) := by rw [fr1 82 (by omega)]; exact a3
        have h20 : σ1 20 3 = nI n := by rw [g1 20 (by omega)]; exact t2
        rw [h20]
        unfold wM_undo
        simp (disch := first | assumption | omega | decide) only [h82, nI_eqI, hq, Nat.le_refl, Nat.reduceLeDiff, Nat.reduceLT, Nat.reduceEqDiff, Nat.reduceAdd, Nat.reduceMul, Nat.reduceSub, forall_eq, true_and, and_true, not_true_eq_false, not_false_eq_true, false_implies, true_implies, implies_true, if_true, if_false, ite_self, es, gU_eq, gU_ne, nI_add, pk_mul, vinT, nI_clamp, h92, w2, hee]
        refine s_takeAtM (nl := nl) he1 (by omega) (by omega) (by rw [gU_ne (by omega), h89]; exact hW.2.2.1) (fun σ3 u1 u2 => ?_)
        rw [gU_ne (by omega), h89] at u2 ⊢
        have hval : σ 89 (86 + if e = 0 then 0 else nl - 1) = nI nw0 := by
          rw [hee, ifE he1] at q7
          rw [show nl - 1 = nl0 by omega]
          exact q7
        rw [hval]
        try simp only [Nat.le_refl, Nat.reduceLeDiff, Nat.reduceLT, Nat.reduceEqDiff, Nat.reduceAdd, Nat.reduceMul, Nat.reduceSub, forall_eq, true_and, and_true, not_true_eq_false, not_false_eq_true, false_implies, true_implies, implies_true, if_true, if_false, ite_self]
        have v82 : σ3 82 20 = nI n := by rw [u1 82 (by omega), gU_eq]
        rw [v82]
        have N' : gU σ3 89 3 (nI nw0) 89 = unlN (σ 89) e nl nw0 := by
          rw [gU_pU, u2]
          rfl
        have fr4 : ∀ c, c ≠ 89 → gU σ3 89 3 (nI nw0) c = gU σ1 82 20 (nI n) c := fun c c1 => by rw [gU_ne c1, u1 c c1]
        have fr5 : ∀ c, c ≠ 89 → c ≠ 82 → gU σ3 89 3 (nI nw0) c = σ1 c := fun c c1 c2 => by rw [fr4 c c1, gU_ne c2]
        have lo : ∀ j, j < 86 → j ≠ 3 → j ≠ 5 → unlN (σ 89) e nl nw0 j = σ 89 j := fun j a b c => by
          unfold unlN
          rw [pU_ne b, tkN_lo c a]
        refine ⟨rfl, pInv_undo (N0 := N0) (nb := nb) (nw := nw0) (nl := nl0) (hp := hp0) h (by omega) a2 hH0 hW0 ?_ ?_ hR (fun c hc => by rw [fr5 c (by omega) (by omega)]; exact fr1 c (by omega)) (by rw [fr5 42 (by omega) (by omega), g2, t1 42 (by omega)]) (by rw [N', lo 0 (by omega) (by omega) (by omega)]) (fun j hj => by rw [fr4 82 (by omega), gU_off hj, fr1 82 (by omega)]) (by rw [fr4 82 (by omega), gU_eq]) (by rw [fr5 20 (by omega) (by omega)]; exact h20) (by rw [fr5 20 (by omega) (by omega), g1 20 (by omega), t3, hpp])⟩
        · rw [N']
          refine ⟨fun i hi => ?_, fun i hi c hc => ?_, fun i hi c hc => ?_, fun i hi => ?_⟩
          · have : i = 0 ∨ i = 1 ∨ i = 2 ∨ i = 3 ∨ i = 4 ∨ i = 5 := by omega
            rcases this with rfl | rfl | rfl | rfl | rfl | rfl
            · rw [lo _ (by omega) (by omega) (by omega)]; exact s0
            · rw [lo _ (by omega) (by omega) (by omega)]; exact s1
            · rw [lo _ (by omega) (by omega) (by omega)]; exact s2
            · unfold unlN; rw [pU_eq]; exact hW0.2.1.symm
            · rw [lo _ (by omega) (by omega) (by omega)]; exact q4
            · unfold unlN; rw [pU_ne (by omega), tkN_5, show nl - 1 = nl0 by omega]; exact hW0.2.2.1.symm
          · rw [lo _ (by omega) (by omega) (by omega)]
            obtain ⟨z1, z2, z3, z4⟩ := q8 i hi
            have : c = 0 ∨ c = 1 ∨ c = 2 ∨ c = 3 := by omega
            rcases this with rfl | rfl | rfl | rfl
            · exact z1
            · exact z2
            · exact z3
            · exact z4
          · rw [lo _ (by omega) (by omega) (by omega)]
            obtain ⟨z1, z2, z3, z4⟩ := q9 i hi
            have : c = 0 ∨ c = 1 ∨ c = 2 ∨ c = 3 := by omega
            rcases this with rfl | rfl | rfl | rfl
            · exact z1
            · exact z2
            · exact z3
            · exact z4
          · unfold unlN
            rw [pU_ne (by omega), tkN_h (by omega)]
            have := q6 i hi
            rw [hee, ifE he1] at this
            exact this
        · rw [N']
          have g4 : pMk σ1 42 (unlN (σ 89) e nl nw0) nb nw0 nl0 := by
            rw [show nw - 1 = nw0 by omega, show nl - 1 = nl0 by omega] at g3
            exact g3
          exact pMk_fr (fun i _ _ => by rw [fr5 42 (by omega) (by omega)]) (fun c c1 c2 => fr5 c (by omega) (by omega)) g4
      · exfalso
        exact absurd (w2.symm.trans q1) (by decide)
    · -- a day
      rcases hc with ⟨w', bi, q1, q2, q3, q4, -⟩ | ⟨q1, -⟩ | ⟨q1, q2, q3, q4, q5, q6, q7⟩
      · exfalso
        have hw'16 : w' < 16 := by
          rw [q3]
          have := (hW0.2.2.2.2.2.2.2.2.1 (if σ 92 (5 * n + 1) = nI 0 then 0 else nl0 - 1) (by split <;> omega)).1
          omega
        have := nI_inj (by omega) (by omega) (w2.symm.trans q4)
        omega
      · exfalso
        exact absurd (w2.symm.trans q1) (by decide)
      · have f3 : nw = nw0 := nI_inj (by omega) (by omega) (hW.2.1.symm.trans q2)
        have f5 : nl = nl0 := nI_inj (by omega) (by omega) (hW.2.2.1.symm.trans q4)
        subst f3
        subst f5
        simp (disch := first | assumption | omega | decide) only [w3, nI_eqI, Nat.le_refl, Nat.reduceLeDiff, Nat.reduceLT, Nat.reduceEqDiff, Nat.reduceAdd, Nat.reduceMul, Nat.reduceSub, forall_eq, true_and, and_true, not_true_eq_false, not_false_eq_true, false_implies, true_implies, implies_true, if_true, if_false, ite_self]
        refine s_pass (v := -1) hMt hW (fun σ1 g1 g2 g3 => ?_)
        have fr1 : ∀ c, (c < 20 ∨ (21 ≤ c ∧ c < 42) ∨ 51 < c) → σ1 c = σ c := fun c hc => by rw [g1 c (by omega), t1 c (by omega)]
        have h89 : σ1 89 = σ 89 := fr1 89 (by omega)
        have h92 : σ1 92 = σ 92 := fr1 92 (by omega)
        have h82 : σ1 82 20 = nI (n + 1) := by rw [fr1 82 (by omega)]; exact a3
        have h20 : σ1 20 3 = nI n := by rw [g1 20 (by omega)]; exact t2
        rw [h20]
        unfold wM_undo
        simp (disch := first | assumption | omega | decide) only [h82, nI_eqI, hq, Nat.le_refl, Nat.reduceLeDiff, Nat.reduceLT, Nat.reduceEqDiff, Nat.reduceAdd, Nat.reduceMul, Nat.reduceSub, forall_eq, true_and, and_true, not_true_eq_false, not_false_eq_true, false_implies, true_implies, implies_true, if_true, if_false, ite_self, es, gU_eq, gU_ne, nI_add, pk_mul, vinT, nI_clamp, h92, w2]
        unfold wM_grow
        refine ⟨nl + 1, s_grow_l (σ0 := gU σ1 82 20 (nI n)) (hp := hp) (v := -1) (by rw [gU_ne (by omega), h89]; exact hW) (fun σ3 u1 u2 => ?_) nl 0 _ (by omega) (fun _ _ => rfl) rfl⟩
        rw [gU_ne (by omega), h89] at u2
        have v82 : σ3 82 20 = nI n := by rw [u1 82 (by omega), gU_eq]
        rw [v82]
        have fr5 : ∀ c, c ≠ 89 → c ≠ 82 → σ3 c = σ1 c := fun c c1 c2 => by rw [u1 c c1, gU_ne c2]
        have hh : ∀ j, j < nl → hp j < 16 := fun j hj => by have := (hW.2.2.2.2.2.2.2.2.1 j hj).1; omega
        have hinj := hW.2.2.2.2.2.2.2.2.2.1
        have hpe : ∀ j, j < nl → hp j = hp0 j := fun j hj => by
          have z1 := (hW.2.2.2.2.2.2.2.2.1 j hj).2.1
          have z2 := (hW0.2.2.2.2.2.2.2.2.1 j hj)
          rw [q5 j hj, z2.2.1] at z1
          exact (nI_inj (by omega) (by have := hh j hj; omega) z1).symm
        have m1c : ∀ x : Int32, x + nI 1 + -1 = x := fun x => by
          rw [add_m1, Int32.add_sub_cancel]
        refine ⟨rfl, pInv_undo (N0 := N0) (nb := nb) (nw := nw) (nl := nl) (hp := hp0) h (by omega) a2 hH0 hW0 ?_ ?_ hR (fun c hc => by rw [fr5 c (by omega) (by omega)]; exact fr1 c (by omega)) (by rw [fr5 42 (by omega) (by omega), g2, t1 42 (by omega)]) (by rw [u2, dayN_lo (by omega) (by omega)]) (fun j hj => by rw [u1 82 (by omega), gU_off hj, fr1 82 (by omega)]) v82 (by rw [fr5 20 (by omega) (by omega)]; exact h20) (by rw [fr5 20 (by omega) (by omega), g1 20 (by omega), t3, hpp])⟩
        · rw [u2]
          refine ⟨fun i hi => ?_, fun i hi c hc => ?_, fun i hi c hc => ?_, fun i hi => ?_⟩
          · have : i = 0 ∨ i = 1 ∨ i = 2 ∨ i = 3 ∨ i = 4 ∨ i = 5 := by omega
            rcases this with rfl | rfl | rfl | rfl | rfl | rfl
            · rw [dayN_lo (by omega) (by omega)]; exact s0
            · rw [dayN_lo (by omega) (by omega)]; exact s1
            · rw [dayN_lo (by omega) (by omega)]; exact s2
            · rw [dayN_lo (by omega) (by omega), q2]; exact hW0.2.1.symm
            · rw [dayN_4, q3]; exact m1c _
            · rw [dayN_lo (by omega) (by omega), q4]; exact hW0.2.2.1.symm
          · rw [dayN_b (by omega) (by omega)]
            obtain ⟨z1, z2, z3, z4⟩ := q6 i hi
            have : c = 0 ∨ c = 1 ∨ c = 2 ∨ c = 3 := by omega
            rcases this with rfl | rfl | rfl | rfl
            · exact z1
            · exact z2
            · exact z3
            · exact z4
          · obtain ⟨z1, z2, z3, z4, z5⟩ := q7 i hi
            have : c = 0 ∨ c = 1 ∨ c = 2 ∨ c = 3 := by omega
            rcases this with rfl | rfl | rfl | rfl
            · rw [dayN_w (by omega) (by omega)]; exact z1
            · rw [dayN_w (by omega) (by omega)]; exact z2
            · by_cases q : ∃ j, j < nl ∧ hp0 j = i
              · have zz := z4 q
                obtain ⟨j, hj, e⟩ := q
                rw [← hpe j hj] at e
                subst e
                rw [dayN_at hinj hj, zz]
                exact m1c _
              · rw [dayN_ne (by omega) (fun j hj z => q ⟨j, hj, by rw [← hpe j hj]; omega⟩)]
                exact z5 (fun j hj z => q ⟨j, hj, z⟩)
            · rw [dayN_w (by omega) (by omega)]; exact z3
          · rw [dayN_h hh]; exact q5 i hi
        · rw [u2]
          exact pMk_fr (fun i _ _ => by rw [fr5 42 (by omega) (by omega)]) (fun c c1 c2 => fr5 c (by omega) (by omega)) g3
