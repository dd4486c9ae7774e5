/-! UNDO -/
theorem ring_ix3 {n nx j : Nat} (hn : n < 24) (hx : nx < 24) (hj : j < n) : ((nx + 24 - 1) % 24 + 24 - n + j) % 24 = (nx + 24 - (n + 1) + j) % 24 := by omega
theorem ring_ix4 {n nx : Nat} (hn : n < 24) (hx : nx < 24) : (nx + 24 - (n + 1) + n) % 24 = (nx + 24 - 1) % 24 := by omega
theorem pInv_undo {k n nx nb nw nl : Nat} {hp : Nat → Nat} {N0 : Nat → Int32} {σ σ' : gM} (h : pInv k σ) (hn : n < 24) (hx : nx < 24) (hH : pHist k n (σ 92) N0) (hW : pWF k N0 nb nw nl hp) (hrel : pRel nb nw nl N0 (σ' 89)) (hmk : pMk σ' 42 (σ' 89) nb nw nl) (hR : pRing σ (n + 1) nx)
    (e : ∀ c, (c < 20 ∨ (21 ≤ c ∧ c < 42) ∨ (52 ≤ c ∧ c ≠ 82 ∧ c ≠ 89)) → σ' c = σ c) (e42 : σ' 42 0 = σ 42 0) (e89 : σ' 89 0 = σ 89 0) (e82 : ∀ j, j ≠ 20 → σ' 82 j = σ 82 j) (c1 : σ' 82 20 = nI n) (c2 : σ' 20 3 = nI n) (c3 : σ' 20 4 = nI ((nx + 24 - 1) % 24)) : pInv k σ' := by
  have hWr := pWF_rel hrel hW
  have hnw := hW.2.2.2.2.1
  have hnb := hW.2.2.2.1
  have hnl := hW.2.2.2.2.2.1
  refine pInv_act h (Nat.le_refl _) (fun c hc => e c (by omega)) e82 ?_ ⟨nb, nw, nl, hp, hmk, hWr⟩ ⟨n, (nx + 24 - 1) % 24, by omega, by omega, c1, c2, c3, fun j hj => ?_, ?_⟩
  · unfold pStands
    rw [e42, e89]
    exact h.2.2.2.2.2.1
  · obtain ⟨p, hp', hh⟩ := hR j (by omega)
    refine ⟨p, by rw [ring_ix3 hn hx hj]; exact hp', ?_⟩
    rw [e 92 (by omega), e 21 (by omega), e 22 (by omega), e 23 (by omega)]
    exact hh
  · rw [e 92 (by omega)]
    exact pHist_rel hW.1 hW.2.1 hW.2.2.1 hnb hnw (by omega) hrel hH
theorem eK_valueIn2 {σ : gM} {w kd : Nat} {wo ag d : Int32} {Q : Int32 → gM → Prop} (hw : w < 16) (h1 : 1 ≤ kd) (h5 : kd ≤ 5) (b1 : σ 47 w = nI kd) (b2 : σ 48 w = wo) (b3 : σ 49 w = ag) : wK42_valueIn (nI w) d σ Q = Q (pVal (nI kd) wo (ag + d)) σ := by
  unfold wK42_valueIn
  simp (disch := first | assumption | omega | decide) only [li0, li1, li2, li3, li4, li5, li6, li7, li8, li9, li10, li11, li12, li13, li14, li16, li17, li20, li21, li22, li23, li24, li30, li32, li40, li48, li57, li59, li63, li86, li97, li99, li100, li102, li115, li122, li200, li255, li289, li320, li400, li720, li999, li1000, nI_add, pk_mul, nI_sub, nI_clamp, vinT, Nat.le_refl, Nat.reduceLeDiff, Nat.reduceLT, Nat.reduceEqDiff, Nat.reduceAdd, Nat.reduceMul, Nat.reduceSub, forall_eq, true_and, and_true, not_true_eq_false, not_false_eq_true, false_implies, true_implies, implies_true, if_true, if_false, ite_self, nI_eqI, nI_leI2, nI_ltI2, b1, b2, b3]
  rw [eK_ripened rfl h5 h1, e_max0]
  rfl
theorem eK_valueTo2 {σ : gM} {b w kd t : Nat} {wo ag d : Int32} {Q : Int32 → gM → Prop} (hw : w < 16) (hb : b < 4) (h1 : 1 ≤ kd) (h5 : kd ≤ 5) (ht : t ≤ 5) (b1 : σ 47 w = nI kd) (b2 : σ 48 w = wo) (b3 : σ 49 w = ag) (c1 : σ 43 b = nI t) : wK42_valueTo (nI b) (nI w) d σ Q = Q (if pSuch (nI kd) (nI t) = true then nI 2 * pVal (nI kd) wo (ag + d) else pVal (nI kd) wo (ag + d)) σ := by
  unfold wK42_valueTo
  rw [eK_valueIn2 hw h1 h5 b1 b2 b3]
  simp (disch := first | assumption | omega | decide) only [li0, li1, li2, li3, li4, li5, li6, li7, li8, li9, li10, li11, li12, li13, li14, li16, li17, li20, li21, li22, li23, li24, li30, li32, li40, li48, li57, li59, li63, li86, li97, li99, li100, li102, li115, li122, li200, li255, li289, li320, li400, li720, li999, li1000, nI_add, pk_mul, nI_sub, nI_clamp, vinT, Nat.le_refl, Nat.reduceLeDiff, Nat.reduceLT, Nat.reduceEqDiff, Nat.reduceAdd, Nat.reduceMul, Nat.reduceSub, forall_eq, true_and, and_true, not_true_eq_false, not_false_eq_true, false_implies, true_implies, implies_true, if_true, if_false, ite_self, nI_eqI, nI_leI2, nI_ltI2, b1, c1, eH_isSuch]
  by_cases h : pSuch (nI kd) (nI t) = true <;> simp (disch := first | assumption | omega | decide) [h, nI_eqI]
def untN (N : Nat → Int32) (b w e nl : Nat) (p g : Int32) : Nat → Int32 := pU (pU (pU (pU (ptN N e nl (nI w)) (22 + 4 * w + 3) (-1000000)) (6 + 4 * b + 1) (N (6 + 4 * b + 1) + p)) (6 + 4 * b + 2) (N (6 + 4 * b + 2) - g)) (6 + 4 * b + 3) (N (6 + 4 * b + 3) - nI 1)
section UntN
variable {N : Nat → Int32} {b w e nl : Nat} {p g : Int32}
theorem untN_lo (hb : b < 4) {j : Nat} (hj : j < 6) (h5 : j ≠ 5) : untN N b w e nl p g j = N j := by
  unfold untN
  simp (disch := omega) only [pU_ne, ptN_lo]
theorem untN_5 (hb : b < 4) : untN N b w e nl p g 5 = nI (nl + 1) := by
  unfold untN
  simp (disch := omega) only [pU_ne, ptN_5]
theorem untN_b (hb : b < 4) (hw : w < 16) {i : Nat} (hi : i < 4) : untN N b w e nl p g (6 + 4 * i) = N (6 + 4 * i) ∧ untN N b w e nl p g (6 + 4 * i + 1) = (if i = b then N (6 + 4 * i + 1) + p else N (6 + 4 * i + 1)) ∧ untN N b w e nl p g (6 + 4 * i + 2) = (if i = b then N (6 + 4 * i + 2) - g else N (6 + 4 * i + 2)) ∧ untN N b w e nl p g (6 + 4 * i + 3) = (if i = b then N (6 + 4 * i + 3) - nI 1 else N (6 + 4 * i + 3)) := by
  unfold untN
  by_cases q : i = b
  · subst q
    refine ⟨?_, ?_, ?_, ?_⟩
    · simp (disch := omega) only [pU_ne, ptN_lo]
    · simp (disch := omega) only [pU_ne, pU_eq, if_true]
    · simp (disch := omega) only [pU_ne, pU_eq, if_true]
    · simp (disch := omega) only [pU_ne, pU_eq, if_true]
  · refine ⟨?_, ?_, ?_, ?_⟩
    · simp (disch := omega) only [pU_ne, ptN_lo]
    · simp (disch := omega) only [pU_ne, ptN_lo, q, if_false]
    · simp (disch := omega) only [pU_ne, ptN_lo, q, if_false]
    · simp (disch := omega) only [pU_ne, ptN_lo, q, if_false]
theorem untN_w (hb : b < 4) (hw : w < 16) {i : Nat} (hi : i < 16) : untN N b w e nl p g (22 + 4 * i) = N (22 + 4 * i) ∧ untN N b w e nl p g (22 + 4 * i + 1) = N (22 + 4 * i + 1) ∧ untN N b w e nl p g (22 + 4 * i + 2) = N (22 + 4 * i + 2) ∧ untN N b w e nl p g (22 + 4 * i + 3) = (if i = w then -1000000 else N (22 + 4 * i + 3)) := by
  unfold untN
  refine ⟨?_, ?_, ?_, ?_⟩
  · simp (disch := omega) only [pU_ne, ptN_lo]
  · simp (disch := omega) only [pU_ne, ptN_lo]
  · simp (disch := omega) only [pU_ne, ptN_lo]
  · by_cases q : i = w
    · subst q
      simp (disch := omega) only [pU_ne, pU_eq, if_true]
    · simp (disch := omega) only [pU_ne, ptN_lo, q, if_false]
theorem untN_h (hb : b < 4) (hw : w < 16) {i : Nat} (hi : i ≤ nl) : untN N b w e nl p g (86 + i) = if e = 0 then (if i = 0 then nI w else N (86 + (i - 1))) else (if i = nl then nI w else N (86 + i)) := by
  unfold untN
  simp (disch := omega) only [pU_ne, ptN_h]
end UntN
section Undo
variable {k nb nw nl b w e : Nat} {N N0 : Nat → Int32} {hp hp0 : Nat → Nat} {σ : gM}
theorem s_unsell {Q : gM → Prop} (hM : pMk σ 42 N nb nw nl) (hW : pWF k N nb nw nl hp) (hb : b < nb) (hw : w < nw) (he : e ≤ 1) (hl : nl < 16) (htk : N (22 + 4 * w + 3) = nI b) {p g : Int32} (hp' : p = pV N w (nI 0)) (hg : g = pVT N b w (nI 0)) (hQ : ∀ σ', (∀ c, (c < 42 ∨ 51 < c) → σ' c = σ c) → σ' 42 0 = σ 42 0 → pMk σ' 42 (untN N b w e nl p g) nb nw (nl + 1) → Q σ') : wK42_unsell (nI w) (nI e) σ Q := by
  have hn : nw ≤ 16 := hW.2.2.2.2.1
  have hnb : nb ≤ 4 := hW.2.2.2.1
  obtain ⟨d1, d2, d3, d4⟩ := hM.2.2.2.2.2.1 b hb
  have d1 : σ 43 b = N (6 + 4 * b) := d1
  have d2 : σ 44 b = N (6 + 4 * b + 1) := d2
  have d3 : σ 45 b = N (6 + 4 * b + 2) := d3
  have d4 : σ 46 b = N (6 + 4 * b + 3) := d4
  obtain ⟨f1, f2, f3, f4⟩ := hM.2.2.2.2.2.2.1 w hw
  have f4 : σ 50 w = nI b := (show σ 50 w = N (22 + 4 * w + 3) from f4).trans htk
  obtain ⟨kd, wo, ag, a1, a2, -, -, a5, -⟩ := hW.2.2.2.2.2.2.2.2.2.2.2 w hw
  obtain ⟨t, t1, t2⟩ := hW.2.2.2.2.2.2.2.2.2.2.1 b hb
  have f1 : σ 47 w = nI kd := (show σ 47 w = N (22 + 4 * w) from f1).trans a5
  have ev := fun Q => eK_valueIn (d := nI 0) (Q := Q) hM hW hw
  have et : ∀ v Q, wK42_valueTo (nI b) (nI w) (nI 0) (gU σ 44 b v) Q = Q g (gU σ 44 b v) := fun v Q => by
    rw [eK_valueTo2 (kd := kd) (t := t) (wo := N (22 + 4 * w + 1)) (ag := N (22 + 4 * w + 2)) (by omega) (by omega) a1 a2 t1 (by rw [gU_ne (by omega)]; exact f1) (by rw [gU_ne (by omega)]; exact f2) (by rw [gU_ne (by omega)]; exact f3) (by rw [gU_ne (by omega)]; exact d1.trans t2)]
    rw [hg]
    unfold pVT pV
    rw [a5, t2]
  unfold wK42_unsell
  simp (disch := first | assumption | omega | decide) only [forall_eq, vinT, nI_clamp, true_and, f4, ev, d2, et, gU_ne, d3, d4]
  rw [← hp']
  refine s_putH (nl := nl) he (by omega) (by simp (disch := first | assumption | omega | decide) only [gU_ne]; exact hM.2.2.2.2.1) (fun σ' g1 g2 g3 g4 => hQ σ' (fun c hc => ?_) ?_ ?_)
  · rw [g1 c (by omega) (by omega)]
    simp (disch := omega) only [gU_ne]
  · rw [g2 0 (by omega)]
    simp (disch := omega) only [gU_ne]
  · obtain ⟨m1, m2, m3, m4, -, m6, m7, m8⟩ := hM
    have g42 : ∀ j, j ≠ 5 → σ' 42 j = σ 42 j := fun j hj => by rw [g2 j hj]; simp (disch := omega) only [gU_ne]
    refine ⟨by rw [g42 1 (by omega), untN_lo (by omega) (by omega) (by omega)]; exact m1, by rw [g42 2 (by omega), untN_lo (by omega) (by omega) (by omega)]; exact m2, by rw [g42 3 (by omega)]; exact m3, by rw [g42 4 (by omega)]; exact m4, g3, fun i hi => ?_, fun i hi => ?_, fun i hi => ?_⟩
    · obtain ⟨t1, t2, t3, t4⟩ := untN_b (N := N) (b := b) (w := w) (e := e) (nl := nl) (p := p) (g := g) (by omega) (by omega) (i := i) (by omega)
      obtain ⟨z1, z2, z3, z4⟩ := m6 i hi
      have z1 : σ 43 i = N (6 + 4 * i) := z1
      have z2 : σ 44 i = N (6 + 4 * i + 1) := z2
      have z3 : σ 45 i = N (6 + 4 * i + 2) := z3
      have z4 : σ 46 i = N (6 + 4 * i + 3) := z4
      rw [t1, t2, t3, t4, g1 43 (by omega) (by omega), g1 44 (by omega) (by omega), g1 45 (by omega) (by omega), g1 46 (by omega) (by omega)]
      by_cases q : i = b
      · subst q
        simp (disch := omega) only [gU_ne, gU_eq, if_true]
        exact ⟨z1, trivial, trivial, trivial⟩
      · simp (disch := omega) only [gU_ne, gU_off, q, if_false]
        exact ⟨z1, z2, z3, z4⟩
    · obtain ⟨t1, t2, t3, t4⟩ := untN_w (N := N) (b := b) (w := w) (e := e) (nl := nl) (p := p) (g := g) (by omega) (by omega) (i := i) (by omega)
      obtain ⟨z1, z2, z3, z4⟩ := m7 i hi
      have z1 : σ 47 i = N (22 + 4 * i) := z1
      have z2 : σ 48 i = N (22 + 4 * i + 1) := z2
      have z3 : σ 49 i = N (22 + 4 * i + 2) := z3
      have z4 : σ 50 i = N (22 + 4 * i + 3) := z4
      rw [t1, t2, t3, t4, g1 47 (by omega) (by omega), g1 48 (by omega) (by omega), g1 49 (by omega) (by omega), g1 50 (by omega) (by omega)]
      by_cases q : i = w
      · subst q
        simp (disch := omega) only [gU_ne, gU_eq, if_true]
        exact ⟨z1, z2, z3, trivial⟩
      · simp (disch := omega) only [gU_ne, gU_off, q, if_false]
        exact ⟨z1, z2, z3, z4⟩
    · rw [untN_h (by omega) (by omega) (by omega)]
      have e9 : σ' (42 + 9) i = σ' 51 i := rfl
      rw [e9, g4 i (by omega)]
      simp (disch := omega) only [gU_ne]
      by_cases q : e = 0
      · simp only [q, if_true]
        by_cases q2 : i = 0
        · simp only [q2, if_true]
        · simp only [q2, if_false]
          exact m8 (i - 1) (by omega)
      · simp only [q, if_false]
        by_cases q2 : i = nl
        · simp only [q2, if_true]
        · simp only [q2, if_false]
          exact m8 i (by omega)
def unlN (N : Nat → Int32) (e nl nw : Nat) : Nat → Int32 := pU (tkN N e nl) 3 (nI nw)
theorem s_removeNewest {Q : gM → Prop} (hM : pMk σ 42 N nb nw nl) (hW : pWF k N nb nw nl hp) (he : e ≤ 1) (hl : 1 ≤ nl) (hQ : ∀ σ', (∀ c, (c < 42 ∨ 51 < c) → σ' c = σ c) → σ' 42 0 = σ 42 0 → pMk σ' 42 (unlN N e nl (nw - 1)) nb (nw - 1) (nl - 1) → Q σ') : wK42_removeNewest (nI e) σ Q := by
  have hn : nw ≤ 16 := hW.2.2.2.2.1
  have hnb : nb ≤ 4 := hW.2.2.2.1
  have hln : nl ≤ nw := hW.2.2.2.2.2.1
  obtain ⟨m1, m2, m3, m4, m5, m6, m7, m8⟩ := hM
  unfold wK42_removeNewest
  refine s_removeH (nl := nl) he (by omega) hl m5 (fun σ' f1 f2 f3 f4 => ?_)
  have e4 : σ' 42 4 = nI nw := by rw [f2 4 (by omega)]; exact m4
  simp (disch := first | assumption | omega | decide) only [forall_eq, e4, nI_sub]
  have lo : ∀ j, j < 86 → j ≠ 3 → j ≠ 5 → unlN N e nl (nw - 1) j = N j := fun j a b c => by
    unfold unlN
    rw [pU_ne b, tkN_lo c a]
  refine hQ _ (fun c hc => by rw [gU_ne (by omega), f1 c (by omega) (by omega)]) (by rw [gU_off (by omega), f2 0 (by omega)]) ⟨by rw [gU_off (by omega), f2 1 (by omega), lo 1 (by omega) (by omega) (by omega)]; exact m1, by rw [gU_off (by omega), f2 2 (by omega), lo 4 (by omega) (by omega) (by omega)]; exact m2, by rw [gU_off (by omega), f2 3 (by omega)]; exact m3, gU_eq, by rw [gU_off (by omega)]; exact f3, fun i hi => ?_, fun i hi => ?_, fun i hi => ?_⟩
  · rw [lo _ (by omega) (by omega) (by omega), lo _ (by omega) (by omega) (by omega), lo _ (by omega) (by omega) (by omega), lo _ (by omega) (by omega) (by omega), gU_ne (by omega), gU_ne (by omega), gU_ne (by omega), gU_ne (by omega), f1 _ (by omega) (by omega), f1 _ (by omega) (by omega), f1 _ (by omega) (by omega), f1 _ (by omega) (by omega)]
    exact m6 i hi
  · rw [lo _ (by omega) (by omega) (by omega), lo _ (by omega) (by omega) (by omega), lo _ (by omega) (by omega) (by omega), lo _ (by omega) (by omega) (by omega), gU_ne (by omega), gU_ne (by omega), gU_ne (by omega), gU_ne (by omega), f1 _ (by omega) (by omega), f1 _ (by omega) (by omega), f1 _ (by omega) (by omega), f1 _ (by omega) (by omega)]
    exact m7 i (by omega)
  · rw [gU_ne (by omega)]
    have e9 : σ' (42 + 9) i = σ' 51 i := rfl
    rw [e9, f4 i hi]
    unfold unlN
    rw [pU_ne (by omega), tkN_h hi]
    exact m8 _ (by split <;> omega)
end Undo
