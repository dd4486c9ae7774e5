/-! TAKE -/
def takN (N : Nat → Int32) (b w e nl : Nat) (p g : Int32) : Nat → Int32 := pU (pU (pU (pU (tkN N e nl) (22 + 4 * w + 3) (nI b)) (6 + 4 * b + 1) (N (6 + 4 * b + 1) - p)) (6 + 4 * b + 2) (N (6 + 4 * b + 2) + g)) (6 + 4 * b + 3) (N (6 + 4 * b + 3) + nI 1)
section TakN
variable {N : Nat → Int32} {b w e nl : Nat} {p g : Int32}
theorem takN_lo (hb : b < 4) {j : Nat} (hj : j < 6) (h5 : j ≠ 5) : takN N b w e nl p g j = N j := by
  unfold takN
  simp (disch := omega) only [pU_ne, tkN_lo]
theorem takN_5 (hb : b < 4) : takN N b w e nl p g 5 = nI (nl - 1) := by
  unfold takN
  simp (disch := omega) only [pU_ne, tkN_5]
theorem takN_b (hb : b < 4) (hw : w < 16) {i : Nat} (hi : i < 4) : takN N b w e nl p g (6 + 4 * i) = N (6 + 4 * i) ∧ takN N b w e nl p g (6 + 4 * i + 1) = (if i = b then N (6 + 4 * i + 1) - p else N (6 + 4 * i + 1)) ∧ takN N b w e nl p g (6 + 4 * i + 2) = (if i = b then N (6 + 4 * i + 2) + g else N (6 + 4 * i + 2)) ∧ takN N b w e nl p g (6 + 4 * i + 3) = (if i = b then N (6 + 4 * i + 3) + nI 1 else N (6 + 4 * i + 3)) := by
  unfold takN
  by_cases q : i = b
  · subst q
    refine ⟨?_, ?_, ?_, ?_⟩
    · simp (disch := omega) only [pU_ne, tkN_lo]
    · simp (disch := omega) only [pU_ne, pU_eq, if_true]
    · simp (disch := omega) only [pU_ne, pU_eq, if_true]
    · simp (disch := omega) only [pU_ne, pU_eq, if_true]
  · refine ⟨?_, ?_, ?_, ?_⟩
    · simp (disch := omega) only [pU_ne, tkN_lo]
    · simp (disch := omega) only [pU_ne, tkN_lo, q, if_false]
    · simp (disch := omega) only [pU_ne, tkN_lo, q, if_false]
    · simp (disch := omega) only [pU_ne, tkN_lo, q, if_false]
theorem takN_w (hb : b < 4) (hw : w < 16) {i : Nat} (hi : i < 16) : takN N b w e nl p g (22 + 4 * i) = N (22 + 4 * i) ∧ takN N b w e nl p g (22 + 4 * i + 1) = N (22 + 4 * i + 1) ∧ takN N b w e nl p g (22 + 4 * i + 2) = N (22 + 4 * i + 2) ∧ takN N b w e nl p g (22 + 4 * i + 3) = (if i = w then nI b else N (22 + 4 * i + 3)) := by
  unfold takN
  refine ⟨?_, ?_, ?_, ?_⟩
  · simp (disch := omega) only [pU_ne, tkN_lo]
  · simp (disch := omega) only [pU_ne, tkN_lo]
  · simp (disch := omega) only [pU_ne, tkN_lo]
  · by_cases q : i = w
    · subst q
      simp (disch := omega) only [pU_ne, pU_eq, if_true]
    · simp (disch := omega) only [pU_ne, tkN_lo, q, if_false]
theorem takN_h (hb : b < 4) (hw : w < 16) {i : Nat} (hi : i < nl - 1) : takN N b w e nl p g (86 + i) = N (86 + if e = 0 then i + 1 else i) := by
  unfold takN
  simp (disch := omega) only [pU_ne, tkN_h]
end TakN
section Take
variable {k nb nw nl b e n nx : Nat} {N : Nat → Int32} {hp : Nat → Nat} {σ : gM}
def endI (e nl : Nat) : Nat := if e = 0 then 0 else nl - 1
theorem endI_lt (h : 1 ≤ nl) : endI e nl < nl := by unfold endI; split <;> omega
theorem e_wareAt {Q : Int32 → gM → Prop} (hM : pMk σ 42 N nb nw nl) (hW : pWF k N nb nw nl hp) (he : e ≤ 1) (hl : 1 ≤ nl) : wK42_wareAt (nI e) σ Q = Q (nI (hp (endI e nl))) σ := by
  have hn : nw ≤ 16 := hW.2.2.2.2.1
  have hln : nl ≤ nw := hW.2.2.2.2.2.1
  have h5 : σ 42 5 = nI nl := hM.2.2.2.2.1
  have hi := endI_lt (e := e) hl
  have hev : (if nI e = nI 0 then nI 0 else nI nl - nI 1) = nI (endI e nl) := by
    unfold endI
    rw [ifE he, nI_sub hl]
    split <;> rfl
  have eh : σ 51 (endI e nl) = nI (hp (endI e nl)) := (hM.2.2.2.2.2.2.2 _ hi).trans (hW.2.2.2.2.2.2.2.2.1 _ hi).2.1
  unfold wK42_wareAt
  simp (disch := first | assumption | omega | decide) only [forall_eq, h5, hev, vinT, nI_clamp, true_and, eh]
/-- the class's market behind a take -/
theorem s_sell {Q : Int32 → gM → Prop} (hM : pMk σ 42 N nb nw nl) (hW : pWF k N nb nw nl hp) (hb : b < nb) (he : e ≤ 1) (hl : 1 ≤ nl) (hQ : ∀ σ', (∀ c, (c < 42 ∨ 51 < c) → σ' c = σ c) → σ' 42 0 = σ 42 0 → pMk σ' 42 (takN N b (hp (endI e nl)) e nl (pV N (hp (endI e nl)) (nI 0)) (pVT N b (hp (endI e nl)) (nI 0))) nb nw (nl - 1) → Q (pVT N b (hp (endI e nl)) (nI 0)) σ') : wK42_sell (nI b) (nI e) σ Q := by
  have hn : nw ≤ 16 := hW.2.2.2.2.1
  have hnb : nb ≤ 4 := hW.2.2.2.1
  have hln : nl ≤ nw := hW.2.2.2.2.2.1
  have hi := endI_lt (e := e) hl
  have hw := (hW.2.2.2.2.2.2.2.2.1 _ hi).1
  obtain ⟨-, d2, d3, d4⟩ := hM.2.2.2.2.2.1 b hb
  have d2 : σ 44 b = N (6 + 4 * b + 1) := d2
  have d3 : σ 45 b = N (6 + 4 * b + 2) := d3
  have d4 : σ 46 b = N (6 + 4 * b + 3) := d4
  have ea := fun Q => e_wareAt (Q := Q) hM hW he hl
  have ev := fun Q => eK_valueIn (d := nI 0) (Q := Q) hM hW hw
  have et := fun Q => eK_valueTo (d := nI 0) (Q := Q) hM hW hb hw
  unfold wK42_sell
  generalize hp (endI e nl) = w at hw ea ev et hQ
  simp (disch := first | assumption | omega | decide) only [ea, et, ev, forall_eq, vinT, nI_clamp, true_and, d2, d3, d4, gU_ne]
  refine s_removeH (nl := nl) he (by omega) hl (by simp (disch := first | assumption | omega | decide) only [gU_ne]; exact hM.2.2.2.2.1) (fun σ' f1 f2 f3 f4 => hQ σ' (fun c hc => ?_) ?_ ?_)
  · rw [f1 c (by omega) (by omega)]
    simp (disch := omega) only [gU_ne]
  · rw [f2 0 (by omega)]
    simp (disch := omega) only [gU_ne]
  · obtain ⟨m1, m2, m3, m4, -, m6, m7, m8⟩ := hM
    have g42 : ∀ j, j ≠ 5 → σ' 42 j = σ 42 j := fun j hj => by rw [f2 j hj]; simp (disch := omega) only [gU_ne]
    refine ⟨by rw [g42 1 (by omega), takN_lo (by omega) (by omega) (by omega)]; exact m1, by rw [g42 2 (by omega), takN_lo (by omega) (by omega) (by omega)]; exact m2, by rw [g42 3 (by omega)]; exact m3, by rw [g42 4 (by omega)]; exact m4, f3, fun i hi => ?_, fun i hi => ?_, fun i hi => ?_⟩
    · obtain ⟨t1, t2, t3, t4⟩ := takN_b (N := N) (b := b) (w := w) (e := e) (nl := nl) (p := pV N w (nI 0)) (g := pVT N b w (nI 0)) (by omega) (by omega) (i := i) (by omega)
      obtain ⟨z1, z2, z3, z4⟩ := m6 i hi
      have z1 : σ 43 i = N (6 + 4 * i) := z1
      have z2 : σ 44 i = N (6 + 4 * i + 1) := z2
      have z3 : σ 45 i = N (6 + 4 * i + 2) := z3
      have z4 : σ 46 i = N (6 + 4 * i + 3) := z4
      rw [t1, t2, t3, t4, f1 43 (by omega) (by omega), f1 44 (by omega) (by omega), f1 45 (by omega) (by omega), f1 46 (by omega) (by omega)]
      by_cases q : i = b
      · subst q
        simp (disch := omega) only [gU_ne, gU_eq, if_true]
        exact ⟨z1, trivial, trivial, trivial⟩
      · simp (disch := omega) only [gU_ne, gU_off, q, if_false]
        exact ⟨z1, z2, z3, z4⟩
    · obtain ⟨t1, t2, t3, t4⟩ := takN_w (N := N) (b := b) (w := w) (e := e) (nl := nl) (p := pV N w (nI 0)) (g := pVT N b w (nI 0)) (by omega) (by omega) (i := i) (by omega)
      obtain ⟨z1, z2, z3, z4⟩ := m7 i hi
      have z1 : σ 47 i = N (22 + 4 * i) := z1
      have z2 : σ 48 i = N (22 + 4 * i + 1) := z2
      have z3 : σ 49 i = N (22 + 4 * i + 2) := z3
      have z4 : σ 50 i = N (22 + 4 * i + 3) := z4
      rw [t1, t2, t3, t4, f1 47 (by omega) (by omega), f1 48 (by omega) (by omega), f1 49 (by omega) (by omega), f1 50 (by omega) (by omega)]
      by_cases q : i = w
      · subst q
        simp (disch := omega) only [gU_ne, gU_eq, if_true]
        exact ⟨z1, z2, z3, trivial⟩
      · simp (disch := omega) only [gU_ne, gU_off, q, if_false]
        exact ⟨z1, z2, z3, z4⟩
    · rw [takN_h (by omega) (by omega) hi, f4 i hi]
      simp (disch := omega) only [gU_ne]
      exact m8 _ (by split <;> omega)
theorem takN_WF (hW : pWF k N nb nw nl hp) (hb : b < nb) (hl : 1 ≤ nl) {p g : Int32} : pWF k (takN N b (hp (endI e nl)) e nl p g) nb nw (nl - 1) (fun i => hp (if e = 0 then i + 1 else i)) := by
  have hi := endI_lt (e := e) hl
  obtain ⟨h1, h2, h3, h4, h5, h6, h7, ⟨dy, h8, h9⟩, h10, h11, h12, h13⟩ := hW
  have hw := (h10 _ hi).1
  have hne : ∀ i, i < nl - 1 → (if e = 0 then i + 1 else i) < nl ∧ (if e = 0 then i + 1 else i) ≠ endI e nl := fun i hi => by
    unfold endI
    by_cases q : e = 0
    · simp only [q, if_true]; omega
    · simp only [q, if_false]; omega
  refine ⟨by rw [takN_lo (by omega) (by omega) (by omega)]; exact h1, by rw [takN_lo (by omega) (by omega) (by omega)]; exact h2, takN_5 (by omega), h4, h5, by omega, by rw [takN_lo (by omega) (by omega) (by omega)]; exact h7, ⟨dy, h8, by rw [takN_lo (by omega) (by omega) (by omega)]; exact h9⟩, fun i hi2 => ?_, fun i j hi2 hj2 hq => ?_, fun i hi2 => ?_, fun i hi2 => ?_⟩
  · obtain ⟨a1, a2⟩ := hne i hi2
    obtain ⟨b1, b2, b3⟩ := h10 _ a1
    refine ⟨b1, by rw [takN_h (by omega) (by omega) hi2]; exact b2, ?_⟩
    show takN N b (hp (endI e nl)) e nl p g (22 + 4 * hp (if e = 0 then i + 1 else i) + 3) = _
    rw [(takN_w (by omega) (by omega) (by omega)).2.2.2, if_neg (fun z => a2 (h11 _ _ a1 hi z))]
    exact b3
  · have := h11 _ _ (hne i hi2).1 (hne j hj2).1 hq
    by_cases q : e = 0
    · simp only [q, if_true] at this; omega
    · simp only [q, if_false] at this; exact this
  · rw [(takN_b (by omega) (by omega) (by omega)).1]; exact h12 i hi2
  · obtain ⟨t1, t2, t3, -⟩ := takN_w (N := N) (b := b) (w := hp (endI e nl)) (e := e) (nl := nl) (p := p) (g := g) (by omega) (by omega) (i := i) (by omega)
    rw [t1, t2, t3]; exact h13 i hi2
end Take
theorem op_take {k : Nat} {x1 x2 : Int32} {σ : gM} (h : pInv k σ) : pBoth (wH_take x1 x2) (wM_take x1 x2) σ (pInv k) := by
  obtain ⟨nb, nw, nl, hp, hM, hW⟩ := h.2.2.2.2.2.2.1
  obtain ⟨n, nx, a1, a2, a3, a4, a5, hR, hH⟩ := h.2.2.2.2.2.2.2.2.2
  have hn : nw ≤ 16 := hW.2.2.2.2.1
  have hln : nl ≤ nw := hW.2.2.2.2.2.1
  have hnb : nb ≤ 4 := hW.2.2.2.1
  have e5 : σ 42 5 = nI nl := hM.2.2.2.2.1
  have e5' : σ 89 5 = nI nl := hW.2.2.1
  have n01 : ¬ nI 1 = nI 0 := by decide
  unfold pBoth wH_take
  rw [eH_isNoBuyer hM.2.2.1]
  rcases i_in x1 nb (by omega) with ⟨b, hb, rfl⟩ | ⟨q1, q2⟩
  · rw [pNB_in hb (by omega)]
    have emb := fun τ (ht : τ 89 = σ 89) Q => (@eM_isBuyerAt (nI b) τ Q nb (by rw [ht]; exact hW.1) hnb).trans (by rw [pB_in hb (by omega)])
    rcases e_end x2 with ⟨e, he, rfl, eH, eM⟩ | ⟨eH, eM⟩
    · simp only [Nat.le_refl, Nat.reduceLeDiff, Nat.reduceLT, Nat.reduceEqDiff, Nat.reduceAdd, Nat.reduceMul, Nat.reduceSub, forall_eq, true_and, and_true, not_true_eq_false, not_false_eq_true, false_implies, true_implies, implies_true, if_true, if_false, ite_self, eH]
      by_cases hz : nl = 0
      · simp (disch := first | assumption | omega | decide) only [nI_leI2, nI_ltI2, nI_eqI, nI_add, nI_sub, pk_mul, nI_clamp, vinT, Nat.add_sub_cancel, Nat.le_refl, Nat.reduceLeDiff, Nat.reduceLT, Nat.reduceEqDiff, Nat.reduceAdd, Nat.reduceMul, Nat.reduceSub, forall_eq, true_and, and_true, not_true_eq_false, not_false_eq_true, false_implies, true_implies, implies_true, if_true, if_false, ite_self, e5, hz, wM_take, emb σ rfl, eM, n01, e5']
        exact h
      · have hl : 1 ≤ nl := by omega
        have hi := endI_lt (e := e) hl
        obtain ⟨hw, hwh, hwt⟩ := hW.2.2.2.2.2.2.2.2.1 _ hi
        have ea := fun Q => e_wareAt (Q := Q) hM hW he hl
        have ev := fun Q => eK_valueIn (d := nI 0) (Q := Q) hM hW hw
        have d2 : σ 44 b = σ 89 (6 + 4 * b + 1) := (hM.2.2.2.2.2.1 b hb).2.1
        simp (disch := first | assumption | omega | decide) only [nI_eqI, e5, hz, Nat.le_refl, Nat.reduceLeDiff, Nat.reduceLT, Nat.reduceEqDiff, Nat.reduceAdd, Nat.reduceMul, Nat.reduceSub, forall_eq, true_and, and_true, not_true_eq_false, not_false_eq_true, false_implies, true_implies, implies_true, if_true, if_false, ite_self, ea, ev, vinT, nI_clamp, d2]
        have hev : (if e = 0 then nI 0 else nI nl - nI 1) = nI (endI e nl) := by
          unfold endI
          rw [nI_sub hl]
          split <;> rfl
        by_cases hpu : pV (σ 89) (hp (endI e nl)) (nI 0) ≤ σ 89 (6 + 4 * b + 1)
        · simp only [hpu, Nat.le_refl, Nat.reduceLeDiff, Nat.reduceLT, Nat.reduceEqDiff, Nat.reduceAdd, Nat.reduceMul, Nat.reduceSub, forall_eq, true_and, and_true, not_true_eq_false, not_false_eq_true, false_implies, true_implies, implies_true, if_true, if_false, ite_self]
          refine s_keep a4 a5 a1 a2 (fun σ1 f1 f2 f3 f4 f5 f6 => ?_)
          have hM1 : pMk σ1 42 (σ 89) nb nw nl := pMk_fr (fun i _ _ => by rw [f1 42 (by omega) (by omega) (by omega) (by omega)]) (fun c c1 c2 => f1 c (by omega) (by omega) (by omega) (by omega)) hM
          refine s_sell hM1 hW hb he hl (fun σ2 g1 g2 g3 => ?_)
          have fr2 : ∀ c, (c < 20 ∨ (24 ≤ c ∧ c < 42) ∨ 51 < c) → σ2 c = σ c := fun c hc => by rw [g1 c (by omega), f1 c (by omega) (by omega) (by omega) (by omega)]
          have h89 : σ2 89 = σ 89 := fr2 89 (by omega)
          have hsec : (if e = 0 then 0 else nl - 1) = endI e nl := rfl
          unfold wM_take
          simp (disch := first | assumption | omega | decide) only [nI_eqI, emb σ2 h89, eM, n01, h89, e5', hz, hev, Nat.le_refl, Nat.reduceLeDiff, Nat.reduceLT, Nat.reduceEqDiff, Nat.reduceAdd, Nat.reduceMul, Nat.reduceSub, forall_eq, true_and, and_true, not_true_eq_false, not_false_eq_true, false_implies, true_implies, implies_true, if_true, if_false, ite_self, eM_heap, hwh, eM_valueOf, nI_add, pk_mul, vinT, nI_clamp, hpu, eM_worthOf]
          refine s_takeAtM (nl := nl) he (by omega) hl (by rw [h89]; exact e5') (fun σ3 u1 u2 => ?_)
          rw [hsec, h89, hwh]
          have v0 : ∀ j, j < 86 → j ≠ 5 → σ3 89 j = σ 89 j := fun j hj h5 => by rw [u2, tkN_lo h5 hj, h89]
          generalize hwg : hp (endI e nl) = w at *
          have k1 : 6 + 4 * b + 1 ≠ 22 + 4 * w + 3 := by omega
          have k2 : 6 + 4 * b + 2 ≠ 22 + 4 * w + 3 := by omega
          have k3 : 6 + 4 * b + 3 ≠ 22 + 4 * w + 3 := by omega
          simp (disch := first | assumption | omega | decide) only [nI_add, pk_mul, vinT, nI_clamp, Nat.le_refl, Nat.reduceLeDiff, Nat.reduceLT, Nat.reduceEqDiff, Nat.reduceAdd, Nat.reduceMul, Nat.reduceSub, forall_eq, true_and, and_true, not_true_eq_false, not_false_eq_true, false_implies, true_implies, implies_true, if_true, if_false, ite_self, gU_off, v0]
          refine s_note (n := n) (by rw [gU_ne (by omega), gU_ne (by omega), gU_ne (by omega), gU_ne (by omega), u1 82 (by omega), fr2 82 (by omega)]; exact a3) a1 (fun σ4 w1 w2 w3 w4 w5 w6 w7 w8 w9 => ?_)
          have hn24 := noteN_lt a1
          simp (disch := first | assumption | omega | decide) only [nI_add, nI_sub, pk_mul, vinT, nI_clamp, Nat.le_refl, Nat.reduceLeDiff, Nat.reduceLT, Nat.reduceEqDiff, Nat.reduceAdd, Nat.reduceMul, Nat.reduceSub, forall_eq, true_and, and_true, not_true_eq_false, not_false_eq_true, false_implies, true_implies, implies_true, if_true, if_false, ite_self, w3, Nat.add_sub_cancel]
          have N' : gU σ4 92 (5 * noteN n) (nI (3 + w)) 89 = takN (σ 89) b w e nl (pV (σ 89) w (nI 0)) (pVT (σ 89) b w (nI 0)) := by
            rw [gU_ne (by omega), w1 89 (by omega) (by omega), gU_pU, gU_pU, gU_pU, gU_pU, u2, h89]
            rfl
          have fr4 : ∀ c, c ≠ 82 → c ≠ 92 → c ≠ 89 → gU σ4 92 (5 * noteN n) (nI (3 + w)) c = σ2 c := fun c c1 c2 c3 => by
            rw [gU_ne c2, w1 c c1 c2, gU_ne c3, gU_ne c3, gU_ne c3, gU_ne c3, u1 c c3]
          have fr82 : ∀ j, j ≠ 20 → gU σ4 92 (5 * noteN n) (nI (3 + w)) 82 j = σ 82 j := fun j hj => by
            rw [gU_ne (by omega), w2 j hj, gU_ne (by omega), gU_ne (by omega), gU_ne (by omega), gU_ne (by omega), u1 82 (by omega), fr2 82 (by omega)]
          have hWF := takN_WF (e := e) (p := pV (σ 89) w (nI 0)) (g := pVT (σ 89) b w (nI 0)) hW hb hl
          rw [hwg] at hWF
          refine pInv_act h (Nat.le_refl _) (fun c hc => by rw [fr4 c (by omega) (by omega) (by omega)]; exact fr2 c (by omega)) fr82 ?_ ?_ ?_
          · unfold pStands
            rw [N', fr4 42 (by omega) (by omega) (by omega), g2, f1 42 (by omega) (by omega) (by omega) (by omega), takN_lo (by omega) (by omega) (by omega)]
            exact h.2.2.2.2.2.1
          · refine ⟨nb, nw, nl - 1, (fun i => hp (if e = 0 then i + 1 else i)), ?_, ?_⟩
            · rw [N']
              exact pMk_fr (fun i _ _ => by rw [fr4 42 (by omega) (by omega) (by omega)]) (fun c c1 c2 => fr4 c (by omega) (by omega) (by omega)) g3
            · rw [N']; exact hWF
          · refine pActs_add (s := nI (3 + w)) (e := nI e) (b := nI b) (p := pV (σ 89) w (nI 0)) (g := pVT (σ 89) b w (nI 0)) (x1 := nI 0) (x2 := nI e) (x3 := nI w) (Nat.le_refl _) a1 a2 hR hH hW (by rw [gU_ne (by omega)]; exact w3) (by rw [fr4 20 (by omega) (by omega) (by omega), g1 20 (by omega)]; exact f2) (by rw [fr4 20 (by omega) (by omega) (by omega), g1 20 (by omega)]; exact f3)
              (by rw [fr4 21 (by omega) (by omega) (by omega), g1 21 (by omega)]; exact f4) (by rw [fr4 22 (by omega) (by omega) (by omega), g1 22 (by omega)]; exact f5) (by rw [fr4 23 (by omega) (by omega) (by omega), g1 23 (by omega)]; exact f6)
              (fun i hi2 => ?_) gU_eq (by rw [gU_off (by omega)]; exact w6) (by rw [gU_off (by omega)]; exact w7) (by rw [gU_off (by omega)]; exact w8) (by rw [gU_off (by omega)]; exact w9) (Or.inl ⟨w, by omega, rfl, rfl, rfl, rfl⟩) ?_
            · rw [gU_off (by omega), w4 i hi2, gU_ne (by omega), gU_ne (by omega), gU_ne (by omega), gU_ne (by omega), u1 92 (by omega), fr2 92 (by omega)]
            · rw [N']
              refine ⟨takN_lo (by omega) (by omega) (by omega), takN_lo (by omega) (by omega) (by omega), takN_lo (by omega) (by omega) (by omega), ?_, Or.inl ⟨w, b, hb, hl, ?_, rfl, rfl, rfl, rfl, by rw [takN_lo (by omega) (by omega) (by omega)]; exact hW.2.1, takN_lo (by omega) (by omega) (by omega), takN_5 (by omega), fun i hi2 => ?_, fun i hi2 => takN_b (by omega) (by omega) (by omega), fun i hi2 => takN_w (by omega) (by omega) (by omega), hwt⟩⟩
              · have : e = 0 ∨ e = 1 := by omega
                rcases this with rfl | rfl
                · exact Or.inl rfl
                · exact Or.inr rfl
              · rw [ifE he]; exact hwg.symm
              · rw [takN_h (by omega) (by omega) hi2, ifE he]
        · have hm : wM_take (nI b) (nI e) σ (fun r2 σ2 => (-1000002 : Int32) = r2 ∧ pInv k σ2) := by
            unfold wM_take
            simp (disch := first | assumption | omega | decide) only [nI_eqI, emb σ rfl, eM, n01, e5', hz, hev, Nat.le_refl, Nat.reduceLeDiff, Nat.reduceLT, Nat.reduceEqDiff, Nat.reduceAdd, Nat.reduceMul, Nat.reduceSub, forall_eq, true_and, and_true, not_true_eq_false, not_false_eq_true, false_implies, true_implies, implies_true, if_true, if_false, ite_self, eM_heap, hwh, eM_valueOf, nI_add, pk_mul, vinT, nI_clamp, hpu]
            exact h
          simp only [hpu, Nat.le_refl, Nat.reduceLeDiff, Nat.reduceLT, Nat.reduceEqDiff, Nat.reduceAdd, Nat.reduceMul, Nat.reduceSub, forall_eq, true_and, and_true, not_true_eq_false, not_false_eq_true, false_implies, true_implies, implies_true, if_true, if_false, ite_self]
          exact hm
    · simp (disch := first | assumption | omega | decide) only [Nat.le_refl, Nat.reduceLeDiff, Nat.reduceLT, Nat.reduceEqDiff, Nat.reduceAdd, Nat.reduceMul, Nat.reduceSub, forall_eq, true_and, and_true, not_true_eq_false, not_false_eq_true, false_implies, true_implies, implies_true, if_true, if_false, ite_self, eH, n01, wM_take, emb σ rfl, eM]
      exact h
  · rw [q2]
    simp only [n01, Nat.le_refl, Nat.reduceLeDiff, Nat.reduceLT, Nat.reduceEqDiff, Nat.reduceAdd, Nat.reduceMul, Nat.reduceSub, forall_eq, true_and, and_true, not_true_eq_false, not_false_eq_true, false_implies, true_implies, implies_true, if_true, if_false, ite_self]
    unfold wM_take
    rw [eM_isBuyerAt hW.1 hnb, q1]
    simp only [Nat.le_refl, Nat.reduceLeDiff, Nat.reduceLT, Nat.reduceEqDiff, Nat.reduceAdd, Nat.reduceMul, Nat.reduceSub, forall_eq, true_and, and_true, not_true_eq_false, not_false_eq_true, false_implies, true_implies, implies_true, if_true, if_false, ite_self]
    exact h
