/-! DAY -/
/-- ages of the first m of the heap, v more -/
def dayA (N : Nat → Int32) (hp : Nat → Nat) (v : Int32) : Nat → Nat → Int32
  | 0 => N
  | m + 1 => pU (dayA N hp v m) (22 + 4 * hp m + 2) (dayA N hp v m (22 + 4 * hp m + 2) + v)
def dayN (N : Nat → Int32) (hp : Nat → Nat) (v : Int32) (nl : Nat) : Nat → Int32 := pU (dayA N hp v nl) 4 (N 4 + v)
theorem dayA_ne {N : Nat → Int32} {hp : Nat → Nat} {v : Int32} {j : Nat} : ∀ m, (∀ i, i < m → j ≠ 22 + 4 * hp i + 2) → dayA N hp v m j = N j
  | 0, _ => rfl
  | m + 1, h => by
    rw [dayA, pU_ne (h m (by omega)), dayA_ne m (fun i hi => h i (by omega))]
theorem dayA_at {N : Nat → Int32} {hp : Nat → Nat} {v : Int32} {nl : Nat} (hinj : ∀ i j, i < nl → j < nl → hp i = hp j → i = j) {i : Nat} : ∀ m, m ≤ nl → i < m → dayA N hp v m (22 + 4 * hp i + 2) = N (22 + 4 * hp i + 2) + v
  | 0, _, h => absurd h (by omega)
  | m + 1, hm, h => by
    rw [dayA]
    by_cases q : i = m
    · subst q
      rw [pU_eq, dayA_ne i (fun j hj z => by have := hinj i j (by omega) (by omega) (by omega); omega)]
    · rw [pU_ne (fun z => q (hinj i m (by omega) (by omega) (by omega))), dayA_at hinj m (by omega) (by omega)]
section Day
variable {k nb nw nl : Nat} {N : Nat → Int32} {hp : Nat → Nat} {σ : gM} {v : Int32}
theorem dayN_4 : dayN N hp v nl 4 = N 4 + v := pU_eq
theorem dayN_ne {j : Nat} (h4 : j ≠ 4) (h : ∀ i, i < nl → j ≠ 22 + 4 * hp i + 2) : dayN N hp v nl j = N j := by
  unfold dayN
  rw [pU_ne h4, dayA_ne nl h]
theorem dayN_at (hinj : ∀ i j, i < nl → j < nl → hp i = hp j → i = j) {i : Nat} (hi : i < nl) : dayN N hp v nl (22 + 4 * hp i + 2) = N (22 + 4 * hp i + 2) + v := by
  unfold dayN
  rw [pU_ne (by omega), dayA_at hinj nl (Nat.le_refl _) hi]
theorem dayN_b {i c : Nat} (hi : i < 4) (hc : c < 4) : dayN N hp v nl (6 + 4 * i + c) = N (6 + 4 * i + c) := dayN_ne (by omega) (fun j _ => by omega)
theorem dayN_w {i c : Nat} (hc : c < 4) (h2 : c ≠ 2) : dayN N hp v nl (22 + 4 * i + c) = N (22 + 4 * i + c) := dayN_ne (by omega) (fun j _ => by omega)
theorem dayN_h {i : Nat} (hh : ∀ j, j < nl → hp j < 16) : dayN N hp v nl (86 + i) = N (86 + i) := dayN_ne (by omega) (fun j hj => by have := hh j hj; omega)
theorem dayN_lo {j : Nat} (h4 : j ≠ 4) (h6 : j < 6) : dayN N hp v nl j = N j := dayN_ne h4 (fun i _ => by omega)
theorem s_pass_g {σ0 : gM} (h5 : σ0 42 5 = nI nl) (h51 : ∀ i, i < nl → σ0 51 i = nI (hp i)) (hn : nw ≤ 16) (hl : nl ≤ nw) (hlt : ∀ i, i < nl → hp i < nw) {Q : gM → Prop} (hQ : ∀ σ', (∀ c, c ≠ 49 → σ' c = σ0 c) → (∀ w, w < nw → σ' 49 w = dayA N hp v nl (22 + 4 * w + 2)) → Q σ') : ∀ (m i : Nat) (σ : gM), i + m = nl → (∀ c, c ≠ 49 → σ c = σ0 c) → (∀ w, w < nw → σ 49 w = dayA N hp v i (22 + 4 * w + 2)) → wK42_passDays_l12 Q (m + 1) v (nI i) σ := by
  intro m
  induction m with
  | zero =>
    intro i σ hi hF h
    have : i = nl := by omega
    subst this
    have e5 : σ 42 5 = nI i := by rw [hF 42 (by omega)]; exact h5
    rw [wK42_passDays_l12]
    simp (disch := first | assumption | omega | decide) only [nI_leI2, e5, Nat.le_refl, Nat.reduceLeDiff, Nat.reduceLT, Nat.reduceEqDiff, Nat.reduceAdd, Nat.reduceMul, Nat.reduceSub, forall_eq, true_and, and_true, not_true_eq_false, not_false_eq_true, false_implies, true_implies, implies_true, if_true, if_false, ite_self]
    exact hQ σ hF h
  | succ m ih =>
    intro i σ hi hF h
    have q : ¬ nl ≤ i := by omega
    have e5 : σ 42 5 = nI nl := by rw [hF 42 (by omega)]; exact h5
    have hw := hlt i (by omega)
    have eh : σ 51 i = nI (hp i) := by rw [hF 51 (by omega)]; exact h51 i (by omega)
    rw [wK42_passDays_l12]
    simp (disch := first | assumption | omega | decide) only [nI_leI2, nI_ltI2, nI_eqI, nI_add, nI_sub, pk_mul, nI_clamp, vinT, Nat.add_sub_cancel, Nat.le_refl, Nat.reduceLeDiff, Nat.reduceLT, Nat.reduceEqDiff, Nat.reduceAdd, Nat.reduceMul, Nat.reduceSub, forall_eq, true_and, and_true, not_true_eq_false, not_false_eq_true, false_implies, true_implies, implies_true, if_true, if_false, ite_self, e5, q, eh]
    refine ih (i + 1) _ (by omega) (fun c hc => by rw [gU_ne hc]; exact hF c hc) (fun w hw2 => ?_)
    rw [dayA]
    by_cases e : w = hp i
    · subst e
      rw [gU_eq, pU_eq, h _ hw2]
    · rw [gU_off e, pU_ne (by omega)]
      exact h w hw2
theorem s_pass (hM : pMk σ 42 N nb nw nl) (hW : pWF k N nb nw nl hp) {Q : gM → Prop} (hQ : ∀ σ', (∀ c, (c < 42 ∨ 51 < c) → σ' c = σ c) → σ' 42 0 = σ 42 0 → pMk σ' 42 (dayN N hp v nl) nb nw nl → Q σ') : wK42_passDays v σ Q := by
  have hn : nw ≤ 16 := hW.2.2.2.2.1
  have hnb : nb ≤ 4 := hW.2.2.2.1
  have hl : nl ≤ nw := hW.2.2.2.2.2.1
  have hh : ∀ j, j < nl → hp j < 16 := fun j hj => by have := (hW.2.2.2.2.2.2.2.2.1 j hj).1; omega
  obtain ⟨m1, m2, m3, m4, m5, m6, m7, m8⟩ := hM
  unfold wK42_passDays
  simp only [forall_eq]
  have e0 : ∀ c, c ≠ 42 → gU σ 42 2 (σ 42 2 + v) c = σ c := fun c hc => gU_ne hc
  have go : ∀ σ', (∀ c, c ≠ 49 → σ' c = gU σ 42 2 (σ 42 2 + v) c) → (∀ w, w < nw → σ' 49 w = dayA N hp v nl (22 + 4 * w + 2)) → Q σ' := fun σ' f1 f2 => by
    refine hQ σ' (fun c hc => by rw [f1 c (by omega), e0 c (by omega)]) (by rw [f1 42 (by omega), gU_off (by omega)]) ?_
    refine ⟨by rw [f1 42 (by omega), gU_off (by omega), dayN_lo (by omega) (by omega)]; exact m1, by rw [f1 42 (by omega), gU_eq, dayN_4, m2], by rw [f1 42 (by omega), gU_off (by omega)]; exact m3, by rw [f1 42 (by omega), gU_off (by omega)]; exact m4, by rw [f1 42 (by omega), gU_off (by omega)]; exact m5, fun i hi => ?_, fun w hw => ?_, fun i hi => ?_⟩
    · have t0 := dayN_b (N := N) (hp := hp) (v := v) (nl := nl) (i := i) (c := 0) (by omega) (by omega)
      rw [Nat.add_zero] at t0
      rw [t0, dayN_b (by omega) (by omega), dayN_b (by omega) (by omega), dayN_b (by omega) (by omega), f1 _ (by omega), f1 _ (by omega), f1 _ (by omega), f1 _ (by omega), e0 _ (by omega), e0 _ (by omega), e0 _ (by omega), e0 _ (by omega)]
      exact m6 i hi
    · have t0 := dayN_w (N := N) (hp := hp) (v := v) (nl := nl) (i := w) (c := 0) (by omega) (by omega)
      rw [Nat.add_zero] at t0
      have e9 : σ' (42 + 7) w = σ' 49 w := rfl
      have t2 : dayN N hp v nl (22 + 4 * w + 2) = dayA N hp v nl (22 + 4 * w + 2) := by
        unfold dayN
        rw [pU_ne (by omega)]
      obtain ⟨y1, y2, y3, y4⟩ := m7 w hw
      refine ⟨?_, ?_, ?_, ?_⟩
      · show σ' 47 w = _
        rw [t0, f1 47 (by omega), e0 47 (by omega)]; exact y1
      · show σ' 48 w = _
        rw [dayN_w (by omega) (by omega), f1 48 (by omega), e0 48 (by omega)]; exact y2
      · show σ' 49 w = _
        rw [f2 w hw, t2]
      · show σ' 50 w = _
        rw [dayN_w (by omega) (by omega), f1 50 (by omega), e0 50 (by omega)]; exact y4
    · rw [dayN_h hh, f1 _ (by omega), e0 _ (by omega)]
      exact m8 i hi
  -- the loop reads heap and size alone
  refine ⟨nl + 1, s_pass_g (σ0 := gU σ 42 2 (σ 42 2 + v)) (by rw [gU_off (by omega)]; exact m5) (fun i hi => by rw [e0 51 (by omega)]; exact (m8 i hi).trans (hW.2.2.2.2.2.2.2.2.1 i hi).2.1) hn hl (fun i hi => (hW.2.2.2.2.2.2.2.2.1 i hi).1) go nl 0 _ (by omega) (fun _ _ => rfl) (fun w hw => ?_)⟩
  rw [e0 49 (by omega)]
  exact (m7 w hw).2.2.1
theorem s_grow_l {σ0 : gM} (hW : pWF k (σ0 89) nb nw nl hp) {Q : gM → Prop} (hQ : ∀ σ', (∀ c, c ≠ 89 → σ' c = σ0 c) → σ' 89 = dayN (σ0 89) hp v nl → Q σ') : ∀ (m i : Nat) (σ : gM), i + m = nl → (∀ c, c ≠ 89 → σ c = σ0 c) → σ 89 = dayA (σ0 89) hp v i → wM_grow_l2 Q (m + 1) v (nI i) σ := by
  have hn : nw ≤ 16 := hW.2.2.2.2.1
  have hl : nl ≤ nw := hW.2.2.2.2.2.1
  intro m
  induction m with
  | zero =>
    intro i σ hi hF h
    have : i = nl := by omega
    subst this
    have e5 : σ 89 5 = nI i := by rw [h, dayA_ne i (fun j hj => by omega)]; exact hW.2.2.1
    have e4 : σ 89 4 = σ0 89 4 := by rw [h, dayA_ne i (fun j hj => by omega)]
    rw [wM_grow_l2]
    simp (disch := first | assumption | omega | decide) only [nI_leI2, e5, Nat.le_refl, Nat.reduceLeDiff, Nat.reduceLT, Nat.reduceEqDiff, Nat.reduceAdd, Nat.reduceMul, Nat.reduceSub, forall_eq, true_and, and_true, not_true_eq_false, not_false_eq_true, false_implies, true_implies, implies_true, if_true, if_false, ite_self]
    refine hQ _ (fun c hc => by rw [gU_ne hc]; exact hF c hc) ?_
    rw [gU_pU, e4, h]
    rfl
  | succ m ih =>
    intro i σ hi hF h
    have q : ¬ nl ≤ i := by omega
    have e5 : σ 89 5 = nI nl := by rw [h, dayA_ne i (fun j hj => by omega)]; exact hW.2.2.1
    obtain ⟨hw, hh, -⟩ := hW.2.2.2.2.2.2.2.2.1 i (by omega)
    have eh : σ 89 (86 + i) = nI (hp i) := by
      rw [h, dayA_ne i (fun j hj => by have := (hW.2.2.2.2.2.2.2.2.1 j (by omega)).1; omega)]
      exact hh
    rw [wM_grow_l2]
    simp (disch := first | assumption | omega | decide) only [nI_leI2, e5, q, eM_heap, eh, nI_add, pk_mul, vinT, nI_clamp, Nat.le_refl, Nat.reduceLeDiff, Nat.reduceLT, Nat.reduceEqDiff, Nat.reduceAdd, Nat.reduceMul, Nat.reduceSub, forall_eq, true_and, and_true, not_true_eq_false, not_false_eq_true, false_implies, true_implies, implies_true, if_true, if_false, ite_self]
    refine ih (i + 1) _ (by omega) (fun c hc => by rw [gU_ne hc]; exact hF c hc) ?_
    rw [gU_pU, h]
    rfl
theorem dayN_WF (hk : k ≤ 500) (hW : pWF k N nb nw nl hp) : pWF (k + 1) (dayN N hp (nI 1) nl) nb nw nl hp := by
  obtain ⟨h1, h2, h3, h4, h5, h6, h7, ⟨dy, h8, h9⟩, h10, h11, h12, h13⟩ := hW
  have hh : ∀ j, j < nl → hp j < 16 := fun j hj => by have := (h10 j hj).1; omega
  refine ⟨by rw [dayN_lo (by omega) (by omega)]; exact h1, by rw [dayN_lo (by omega) (by omega)]; exact h2, by rw [dayN_lo (by omega) (by omega)]; exact h3, h4, h5, h6, by rw [dayN_lo (by omega) (by omega)]; exact h7, ⟨dy + 1, by omega, by rw [dayN_4, h9, nI_add]⟩, fun i hi => ⟨(h10 i hi).1, by rw [dayN_h hh]; exact (h10 i hi).2.1, by rw [dayN_w (by omega) (by omega)]; exact (h10 i hi).2.2⟩, h11, fun b hb => ?_, fun w hw => ?_⟩
  · have t0 := dayN_b (N := N) (hp := hp) (v := nI 1) (nl := nl) (i := b) (c := 0) (by omega) (by omega)
    rw [Nat.add_zero] at t0
    rw [t0]; exact h12 b hb
  · have t0 := dayN_w (N := N) (hp := hp) (v := nI 1) (nl := nl) (i := w) (c := 0) (by omega) (by omega)
    rw [Nat.add_zero] at t0
    rw [t0, dayN_w (by omega) (by omega)]
    obtain ⟨kd, wo, ag, b1, b2, b3, b4, b5, b6, b7⟩ := h13 w hw
    by_cases q : ∃ i, i < nl ∧ hp i = w
    · obtain ⟨i, hi, rfl⟩ := q
      exact ⟨kd, wo, ag + 1, b1, b2, b3, by omega, b5, b6, by rw [dayN_at h11 hi, b7, nI_add]⟩
    · refine ⟨kd, wo, ag, b1, b2, b3, by omega, b5, b6, ?_⟩
      rw [dayN_ne (by omega) (fun i hi z => q ⟨i, hi, by omega⟩)]
      exact b7
end Day
theorem op_day {k : Nat} {σ : gM} (hk : k ≤ 100) (h : pInv k σ) : pBoth wH_day wM_day σ (pInv (k + 1)) := by
  obtain ⟨nb, nw, nl, hp, hM, hW⟩ := h.2.2.2.2.2.2.1
  obtain ⟨n, nx, a1, a2, a3, a4, a5, hR, hH⟩ := h.2.2.2.2.2.2.2.2.2
  have hn : nw ≤ 16 := hW.2.2.2.2.1
  have hln : nl ≤ nw := hW.2.2.2.2.2.1
  have hnb : nb ≤ 4 := hW.2.2.2.1
  obtain ⟨dy, hdy, e4'⟩ := hW.2.2.2.2.2.2.2.1
  have e4 : σ 42 2 = nI dy := hM.2.1.trans e4'
  obtain ⟨es, h01⟩ := e_stands h
  have n01 : ¬ nI 1 = nI 0 := by decide
  unfold pBoth wH_day
  rcases h01 with z | z
  · simp only [es, z, Nat.le_refl, Nat.reduceLeDiff, Nat.reduceLT, Nat.reduceEqDiff, Nat.reduceAdd, Nat.reduceMul, Nat.reduceSub, forall_eq, true_and, and_true, not_true_eq_false, not_false_eq_true, false_implies, true_implies, implies_true, if_true, if_false, ite_self, wM_day]
    exact pInv_le (Nat.le_succ k) h
  have q9 : dy < 999 := by omega
  have q9' : ¬ dy = 999 := by omega
  simp (disch := first | assumption | omega | decide) only [es, z, n01, nI_ltI2, e4, q9, Nat.le_refl, Nat.reduceLeDiff, Nat.reduceLT, Nat.reduceEqDiff, Nat.reduceAdd, Nat.reduceMul, Nat.reduceSub, forall_eq, true_and, and_true, not_true_eq_false, not_false_eq_true, false_implies, true_implies, implies_true, if_true, if_false, ite_self, wK42_rottenIn]
  refine ⟨nl + 1, s_rot_H hM hW nl 0 (nI 0) (by omega) ?_⟩
  refine s_keep a4 a5 a1 a2 (fun σ1 f1 f2 f3 f4 f5 f6 => ?_)
  have hM1 : pMk σ1 42 (σ 89) nb nw nl := pMk_fr (fun i _ _ => by rw [f1 42 (by omega) (by omega) (by omega) (by omega)]) (fun c c1 c2 => f1 c (by omega) (by omega) (by omega) (by omega)) hM
  refine s_pass hM1 hW (fun σ2 g1 g2 g3 => ?_)
  have hWF := dayN_WF (by omega) hW
  refine ⟨nl + 1, s_rot_H g3 hWF nl 0 (nI 0) (by omega) ?_⟩
  have fr2 : ∀ c, (c < 20 ∨ (24 ≤ c ∧ c < 42) ∨ 51 < c) → σ2 c = σ c := fun c hc => by rw [g1 c (by omega), f1 c (by omega) (by omega) (by omega) (by omega)]
  have h89 : σ2 89 = σ 89 := fr2 89 (by omega)
  unfold wM_day
  simp (disch := first | assumption | omega | decide) only [h89, z, n01, nI_eqI, e4', q9', Nat.le_refl, Nat.reduceLeDiff, Nat.reduceLT, Nat.reduceEqDiff, Nat.reduceAdd, Nat.reduceMul, Nat.reduceSub, forall_eq, true_and, and_true, not_true_eq_false, not_false_eq_true, false_implies, true_implies, implies_true, if_true, if_false, ite_self, wM_rotten]
  refine ⟨nl + 1, s_rot_M (σ := σ2) (hp := hp) (by rw [h89]; exact hW) nl 0 (nI 0) (by omega) ?_⟩
  unfold wM_grow
  refine ⟨nl + 1, s_grow_l (σ0 := σ2) (by rw [h89]; exact hW) (fun σ3 u1 u2 => ?_) nl 0 σ2 (by omega) (fun _ _ => rfl) rfl⟩
  rw [h89] at u2
  refine s_note (n := n) (by rw [u1 82 (by omega), fr2 82 (by omega)]; exact a3) a1 (fun σ4 w1 w2 w3 w4 w5 w6 w7 w8 w9 => ?_)
  have N' : σ4 89 = dayN (σ 89) hp (nI 1) nl := by rw [w1 89 (by omega) (by omega), u2]
  refine ⟨nl + 1, s_rot_M (σ := σ4) (hp := hp) (by rw [N']; exact hWF) nl 0 (nI 0) (by omega) ⟨by rw [N', h89], ?_⟩⟩
  have fr4 : ∀ c, c ≠ 82 → c ≠ 92 → c ≠ 89 → σ4 c = σ2 c := fun c c1 c2 c3 => by rw [w1 c c1 c2, u1 c c3]
  have fr82 : ∀ j, j ≠ 20 → σ4 82 j = σ 82 j := fun j hj => by rw [w2 j hj, u1 82 (by omega), fr2 82 (by omega)]
  refine pInv_act h (Nat.le_succ k) (fun c hc => by rw [fr4 c (by omega) (by omega) (by omega)]; exact fr2 c (by omega)) fr82 ?_ ?_ ?_
  · unfold pStands
    rw [N', fr4 42 (by omega) (by omega) (by omega), g2, f1 42 (by omega) (by omega) (by omega) (by omega), dayN_lo (by omega) (by omega)]
    exact h.2.2.2.2.2.1
  · refine ⟨nb, nw, nl, hp, ?_, ?_⟩
    · rw [N']
      exact pMk_fr (fun i _ _ => by rw [fr4 42 (by omega) (by omega) (by omega)]) (fun c c1 c2 => fr4 c (by omega) (by omega) (by omega)) g3
    · rw [N']; exact hWF
  · refine pActs_add (s := nI 2) (e := nI 0) (b := nI 0) (p := nI 0) (g := nI 0) (x1 := nI 2) (x2 := -1000000) (x3 := -1000000) (Nat.le_succ k) a1 a2 hR hH hW w3 (by rw [fr4 20 (by omega) (by omega) (by omega), g1 20 (by omega)]; exact f2) (by rw [fr4 20 (by omega) (by omega) (by omega), g1 20 (by omega)]; exact f3)
      (by rw [fr4 21 (by omega) (by omega) (by omega), g1 21 (by omega)]; exact f4) (by rw [fr4 22 (by omega) (by omega) (by omega), g1 22 (by omega)]; exact f5) (by rw [fr4 23 (by omega) (by omega) (by omega), g1 23 (by omega)]; exact f6)
      (fun i hi2 => by rw [w4 i hi2, u1 92 (by omega), fr2 92 (by omega)]) w5 w6 w7 w8 w9 (Or.inr (Or.inr ⟨rfl, rfl⟩)) ?_
    rw [N']
    have hh : ∀ j, j < nl → hp j < 16 := fun j hj => by have := (hW.2.2.2.2.2.2.2.2.1 j hj).1; omega
    have hinj := hW.2.2.2.2.2.2.2.2.2.1
    refine ⟨dayN_lo (by omega) (by omega), dayN_lo (by omega) (by omega), dayN_lo (by omega) (by omega), Or.inl rfl, Or.inr (Or.inr ⟨rfl, by rw [dayN_lo (by omega) (by omega)]; exact hW.2.1, dayN_4, by rw [dayN_lo (by omega) (by omega)]; exact hW.2.2.1, fun i hi => dayN_h hh, fun i hi => ?_, fun i hi => ?_⟩)⟩
    · have t0 := dayN_b (N := σ 89) (hp := hp) (v := nI 1) (nl := nl) (i := i) (c := 0) (by omega) (by omega)
      rw [Nat.add_zero] at t0
      exact ⟨t0, dayN_b (by omega) (by omega), dayN_b (by omega) (by omega), dayN_b (by omega) (by omega)⟩
    · have t0 := dayN_w (N := σ 89) (hp := hp) (v := nI 1) (nl := nl) (i := i) (c := 0) (by omega) (by omega)
      rw [Nat.add_zero] at t0
      refine ⟨t0, dayN_w (by omega) (by omega), dayN_w (by omega) (by omega), fun ⟨j, hj, e⟩ => ?_, fun hne => ?_⟩
      · rw [← e]
        exact dayN_at hinj hj
      · exact dayN_ne (by omega) (fun j hj z => hne j hj (by omega))
