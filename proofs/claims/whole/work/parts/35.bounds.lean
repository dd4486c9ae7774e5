/-! VALUES AS NATURALS -/
def vN (kd wo ag : Nat) : Nat := if kd = 1 then wo - ag else if kd = 2 then (if 6 ≤ ag then wo + 5 - 2 * (ag - 5) else wo + ag) else if kd = 3 then wo - 2 * ag else if kd = 4 then wo else wo + ag / 3
theorem pos_sub {a b : Nat} (ha : a < 2147483648) (hb : b < 2147483648) : (if nI 0 ≤ nI a - nI b then nI a - nI b else nI 0) = nI (a - b) := by
  by_cases h : b ≤ a
  · rw [if_pos (by rw [le_sub ha hb (by omega)]; omega), nI_sub h]
  · rw [if_neg (by rw [le_sub ha hb (by omega)]; omega), show a - b = 0 by omega]
theorem pos_nI {a : Nat} (ha : a < 2147483648) : (if nI 0 ≤ nI a then nI a else nI 0) = nI a := by
  rw [if_pos (by rw [nI_leI2 (by omega) ha]; omega)]
theorem pVal_nI {kd wo ag : Nat} (h1 : 1 ≤ kd) (h5 : kd ≤ 5) (hw : wo < 10000) (ha : ag < 10000) : pVal (nI kd) (nI wo) (nI ag) = nI (vN kd wo ag) := by
  unfold pVal pRip vN
  have : kd = 1 ∨ kd = 2 ∨ kd = 3 ∨ kd = 4 ∨ kd = 5 := by omega
  rcases this with rfl | rfl | rfl | rfl | rfl
  · simp (disch := first | assumption | omega | decide) only [Nat.le_refl, Nat.reduceLeDiff, Nat.reduceLT, Nat.reduceEqDiff, Nat.reduceAdd, Nat.reduceMul, Nat.reduceSub, forall_eq, true_and, and_true, not_true_eq_false, not_false_eq_true, false_implies, true_implies, implies_true, if_true, if_false, ite_self, nI_eqI, pos_sub]
  · simp (disch := first | assumption | omega | decide) only [Nat.le_refl, Nat.reduceLeDiff, Nat.reduceLT, Nat.reduceEqDiff, Nat.reduceAdd, Nat.reduceMul, Nat.reduceSub, forall_eq, true_and, and_true, not_true_eq_false, not_false_eq_true, false_implies, true_implies, implies_true, if_true, if_false, ite_self, nI_eqI, nI_leI2]
    by_cases h6 : 6 ≤ ag
    · simp (disch := first | assumption | omega | decide) only [h6, Nat.le_refl, Nat.reduceLeDiff, Nat.reduceLT, Nat.reduceEqDiff, Nat.reduceAdd, Nat.reduceMul, Nat.reduceSub, forall_eq, true_and, and_true, not_true_eq_false, not_false_eq_true, false_implies, true_implies, implies_true, if_true, if_false, ite_self, nI_add, nI_sub, pk_mul, pos_sub]
    · simp (disch := first | assumption | omega | decide) only [h6, Nat.le_refl, Nat.reduceLeDiff, Nat.reduceLT, Nat.reduceEqDiff, Nat.reduceAdd, Nat.reduceMul, Nat.reduceSub, forall_eq, true_and, and_true, not_true_eq_false, not_false_eq_true, false_implies, true_implies, implies_true, if_true, if_false, ite_self, nI_add, pos_nI]
  · simp (disch := first | assumption | omega | decide) only [Nat.le_refl, Nat.reduceLeDiff, Nat.reduceLT, Nat.reduceEqDiff, Nat.reduceAdd, Nat.reduceMul, Nat.reduceSub, forall_eq, true_and, and_true, not_true_eq_false, not_false_eq_true, false_implies, true_implies, implies_true, if_true, if_false, ite_self, nI_eqI, pk_mul, pos_sub]
  · simp (disch := first | assumption | omega | decide) only [Nat.le_refl, Nat.reduceLeDiff, Nat.reduceLT, Nat.reduceEqDiff, Nat.reduceAdd, Nat.reduceMul, Nat.reduceSub, forall_eq, true_and, and_true, not_true_eq_false, not_false_eq_true, false_implies, true_implies, implies_true, if_true, if_false, ite_self, nI_eqI, pos_nI]
  · have e : nI ag / nI 3 = nI (ag / 3) := pk_div (by omega) (by omega) (by omega)
    simp (disch := first | assumption | omega | decide) only [Nat.le_refl, Nat.reduceLeDiff, Nat.reduceLT, Nat.reduceEqDiff, Nat.reduceAdd, Nat.reduceMul, Nat.reduceSub, forall_eq, true_and, and_true, not_true_eq_false, not_false_eq_true, false_implies, true_implies, implies_true, if_true, if_false, ite_self, nI_eqI, e, nI_add, pos_nI]
theorem vN_le {kd wo ag : Nat} : vN kd wo ag ≤ wo + ag := by
  unfold vN
  split
  · omega
  · split
    · split <;> omega
    · split
      · omega
      · split <;> omega
section Nat
variable {k nb nw nl : Nat} {N : Nat → Int32} {hp : Nat → Nat}
theorem pV_nI (hk : k ≤ 1000) (hW : pWF k N nb nw nl hp) {w d : Nat} (hw : w < nw) (hd : d ≤ 1000) : ∃ m, m ≤ 3000 ∧ pV N w (nI d) = nI m := by
  obtain ⟨kd, wo, ag, a1, a2, a3, a4, a5, a6, a7⟩ := hW.2.2.2.2.2.2.2.2.2.2.2 w hw
  refine ⟨vN kd wo (ag + d), ?_, ?_⟩
  · have := @vN_le kd wo (ag + d)
    omega
  · unfold pV
    rw [a5, a6, a7, nI_add, pVal_nI a1 a2 (by omega) (by omega)]
theorem pVT_nI (hk : k ≤ 1000) (hW : pWF k N nb nw nl hp) {w d : Nat} (b : Nat) (hw : w < nw) (hd : d ≤ 1000) : ∃ m, m ≤ 6000 ∧ pVT N b w (nI d) = nI m := by
  obtain ⟨m, h1, h2⟩ := pV_nI hk hW hw hd
  unfold pVT
  rw [h2]
  split
  · exact ⟨2 * m, by omega, by rw [pk_mul]⟩
  · exact ⟨m, by omega, rfl⟩
def pBd (len : Nat) : Nat := 6000 * len
theorem pBd_s (len : Nat) : pBd (len + 1) = pBd len + 6000 := by unfold pBd; omega
theorem pBd_16 {len : Nat} (h : len ≤ 16) : pBd len ≤ 96000 := by unfold pBd; omega
theorem pG_nI {la lb : Nat → Int32} {tf : Nat → Bool} : ∀ (len i : Nat), len ≤ 16 → (∀ j, i ≤ j → j < i + len → (∃ m, m ≤ 6000 ∧ la j = nI m) ∧ ∃ m, m ≤ 6000 ∧ lb j = nI m) → ∃ a b : Nat, a ≤ pBd len ∧ b ≤ pBd len ∧ pG la lb tf len i = (nI a, nI b)
  | 0, i, _, _ => ⟨0, 0, Nat.zero_le _, Nat.zero_le _, rfl⟩
  | len + 1, i, hl, h => by
    obtain ⟨a, b, a1, b1, e1⟩ := pG_nI (tf := tf) len (i + 1) (by omega) (fun j h1 h2 => h j (by omega) (by omega))
    obtain ⟨c, d, c1, d1, e2⟩ := pG_nI (tf := tf) len i (by omega) (fun j h1 h2 => h j h1 (by omega))
    obtain ⟨⟨x, x1, x2⟩, ⟨y, y1, y2⟩⟩ := h i (by omega) (by omega)
    obtain ⟨⟨u, u1, u2⟩, ⟨v, v1, v2⟩⟩ := h (i + len) (by omega) (by omega)
    rw [pG, e1, e2]
    unfold pStp
    rw [x2, y2, u2, v2, pBd_s]
    have s1 : nI u + nI c = nI (u + c) := nI_add _ _
    have s2 : nI x + nI a = nI (x + a) := nI_add _ _
    have s3 : nI v + nI d = nI (v + d) := nI_add _ _
    have s4 : nI y + nI b = nI (y + b) := nI_add _ _
    by_cases ht : tf (len + 1) = true
    · rw [if_pos ht]
      by_cases hc : nI u + nI c ≤ nI x + nI a
      · exact ⟨x + a, b, by omega, by omega, by rw [if_pos hc, s2]⟩
      · exact ⟨u + c, d, by omega, by omega, by rw [if_neg hc, s1]⟩
    · rw [if_neg ht]
      by_cases hc : nI v + nI d ≤ nI y + nI b
      · exact ⟨a, y + b, by omega, by omega, by rw [if_pos hc, s4]⟩
      · exact ⟨c, v + d, by omega, by omega, by rw [if_neg hc, s3]⟩
end Nat
theorem nI_m1 (a : Nat) (ha : a < 2147483648) : ¬ nI a ≤ (-1 : Int32) := by
  rw [i_nle]
  exact m1_lt a ha
theorem nI_none (a : Nat) (ha : a < 2147483648) : ¬ nI a = (-1000000 : Int32) := fun q => by
  rw [i_eq, nI_I ha] at q
  have q : (a : Int) = -1000000 := q
  omega
/-! RING -/
def pRg (gain : Nat → Nat) : Nat → Nat → Option (Nat × Nat) → Option (Nat × Nat)
  | 0, _, o => o
  | m + 1, c, none => pRg gain m (c + 1) (some (gain c, c))
  | m + 1, c, some (g, cc) => if gain c ≤ g then pRg gain m (c + 1) (some (g, cc)) else pRg gain m (c + 1) (some (gain c, c))
def encH (o : Option (Nat × Nat)) : Int32 := match o with
  | none => -1
  | some (g, _) => nI g
def encG (o : Option (Nat × Nat)) : Int32 := match o with
  | none => -1000000
  | some (g, _) => nI g
def encC (o : Option (Nat × Nat)) : Int32 := match o with
  | none => -1000000
  | some (_, c) => nI c
theorem pRo_mod {n c i : Nat} (hc : c < n) (hi : i < n) : (c + i) % n = pRo n c i := by
  unfold pRo
  by_cases h : c + i < n
  · rw [if_pos h, Nat.mod_eq_of_lt h]
  · rw [if_neg h, Nat.mod_eq_sub_mod (by omega), Nat.mod_eq_of_lt (by omega)]
section Ring
variable {nl : Nat} {hp : Nat → Nat} {va vb : Nat → Int32} {tf : Nat → Bool} {gain : Nat → Nat} {σ0 : gM}
/-- the duel's cells as seated; others as they were -/
def pDu (nl : Nat) (hp : Nat → Nat) (va vb : Nat → Int32) (σ0 σ : gM) : Prop := (∀ c, c ≠ 24 → c ≠ 29 → c ≠ 30 → c ≠ 31 → c ≠ 32 → σ c = σ0 c) ∧ σ 24 3 = σ0 24 3 ∧ σ 24 4 = nI nl ∧ ∀ j, j < nl → hp j < 16 ∧ σ 26 j = nI (hp j) ∧ σ 27 (hp j) = va (hp j) ∧ σ 28 (hp j) = vb (hp j)
theorem s_cut {Q : Int32 → gM → Prop} (hn : nl ≤ 16) (hpos : 0 < nl) (htf : ∀ c, c < nl → tf (c + 1) = pTurn (σ0 24 3) (nl - (c + 1))) (hg : ∀ c, c < nl → gain c < 2147483648 ∧ (pG (fun i => va (hp (pRo nl c i))) (fun i => vb (hp (pRo nl c i))) tf nl 0).1 = nI (gain c)) : ∀ (m c : Nat) (o : Option (Nat × Nat)) (σ : gM), c + m = nl → (∀ g cc, o = some (g, cc) → σ 24 1 = nI cc ∧ g < 2147483648) → pDu nl hp va vb σ0 σ → (∀ σ', pDu nl hp va vb σ0 σ' → (∀ g cc, pRg gain m c o = some (g, cc) → σ' 24 1 = nI cc) → Q (encH (pRg gain m c o)) σ') → wD_findCut_l4 Q (m + 1) (encH o) (nI c) σ := by
  intro m
  induction m with
  | zero =>
    intro c o σ hc ho hD hQ
    have : c = nl := by omega
    subst this
    rw [wD_findCut_l4]
    simp (disch := first | assumption | omega | decide) only [Nat.le_refl, Nat.reduceLeDiff, Nat.reduceLT, Nat.reduceEqDiff, Nat.reduceAdd, Nat.reduceMul, Nat.reduceSub, forall_eq, true_and, and_true, not_true_eq_false, not_false_eq_true, false_implies, true_implies, implies_true, if_true, if_false, ite_self, hD.2.2.1, nI_leI2]
    exact hQ σ hD (fun g cc e => (ho g cc e).1)
  | succ m ih =>
    intro c o σ hc ho hD hQ
    have h1 : ¬ nl ≤ c := by omega
    rw [wD_findCut_l4]
    simp (disch := first | assumption | omega | decide) only [Nat.le_refl, Nat.reduceLeDiff, Nat.reduceLT, Nat.reduceEqDiff, Nat.reduceAdd, Nat.reduceMul, Nat.reduceSub, forall_eq, true_and, and_true, not_true_eq_false, not_false_eq_true, false_implies, true_implies, implies_true, if_true, if_false, ite_self, hD.2.2.1, nI_leI2, h1]
    refine s_line hn (Or.inl (by omega)) hD.2.2.1 hD.2.2.2 (fun σ2 f1 f2 => ?_)
    have e4 : σ2 24 4 = nI nl := by rw [f1 24 (by omega) (by omega)]; exact hD.2.2.1
    have e3 : σ2 24 3 = σ0 24 3 := by rw [f1 24 (by omega) (by omega)]; exact hD.2.1
    refine s_play (tf := tf) hn e4 (fun d hd => by rw [e3]; exact htf d hd) (fun σ3 p1 p2 p3 p4 => ?_)
    have hD3 : pDu nl hp va vb σ0 σ3 := ⟨fun a a1 a2 a3 a4 a5 => by rw [p1.1 a a1 a4 a5, f1 a a2 a3]; exact hD.1 a a1 a2 a3 a4 a5, by rw [p1.2 3 (by omega)]; exact e3, by rw [p1.2 4 (by omega)]; exact e4, fun j hj => by
      have := hD.2.2.2 j hj
      rw [p1.1 26 (by omega) (by omega) (by omega), p1.1 27 (by omega) (by omega) (by omega), p1.1 28 (by omega) (by omega) (by omega), f1 26 (by omega) (by omega), f1 27 (by omega) (by omega), f1 28 (by omega) (by omega)]
      exact this⟩
    have eg : σ3 31 0 = nI (gain c) := by
      have q := congrArg Prod.fst p2
      have q : σ3 31 0 = (pG (σ2 29) (σ2 30) tf nl 0).1 := q
      rw [q, ← (hg c (by omega)).2]
      rw [pG_congr nl 0 (fun j _ hj => f2 j (by omega)) (fun _ _ _ => rfl)]
    have hgc := (hg c (by omega)).1
    rw [eg]
    have e1 : σ3 24 1 = σ 24 1 := by rw [p1.2 1 (by omega), f1 24 (by omega) (by omega)]
    have hup : pDu nl hp va vb σ0 (gU σ3 24 1 (nI c)) := ⟨fun a a1 a2 a3 a4 a5 => by rw [gU_ne a1]; exact hD3.1 a a1 a2 a3 a4 a5, by rw [gU_off (by omega)]; exact hD3.2.1, by rw [gU_off (by omega)]; exact hD3.2.2.1, fun j hj => by rw [gU_ne (by decide), gU_ne (by decide), gU_ne (by decide)]; exact hD3.2.2.2 j hj⟩
    cases o with
    | none =>
      have q : ¬ nI (gain c) ≤ encH none := nI_m1 _ hgc
      simp only [q, Nat.le_refl, Nat.reduceLeDiff, Nat.reduceLT, Nat.reduceEqDiff, Nat.reduceAdd, Nat.reduceMul, Nat.reduceSub, forall_eq, true_and, and_true, not_true_eq_false, not_false_eq_true, false_implies, true_implies, implies_true, if_true, if_false, ite_self, nI_add]
      exact ih (c + 1) (some (gain c, c)) _ (by omega) (fun g cc e => by cases e; exact ⟨gU_eq, hgc⟩) hup hQ
    | some gc =>
      obtain ⟨g, cc⟩ := gc
      obtain ⟨o1, o2⟩ := ho g cc rfl
      rw [pRg] at hQ
      by_cases q : gain c ≤ g
      · have q2 : nI (gain c) ≤ encH (some (g, cc)) := by
          show nI (gain c) ≤ nI g
          rw [nI_leI2 hgc o2]; exact q
        simp only [q2, Nat.le_refl, Nat.reduceLeDiff, Nat.reduceLT, Nat.reduceEqDiff, Nat.reduceAdd, Nat.reduceMul, Nat.reduceSub, forall_eq, true_and, and_true, not_true_eq_false, not_false_eq_true, false_implies, true_implies, implies_true, if_true, if_false, ite_self, nI_add]
        simp only [q, if_true] at hQ
        exact ih (c + 1) (some (g, cc)) _ (by omega) (fun g' cc' e => by cases e; exact ⟨e1.trans o1, o2⟩) hD3 hQ
      · have q2 : ¬ nI (gain c) ≤ encH (some (g, cc)) := by
          show ¬ nI (gain c) ≤ nI g
          rw [nI_leI2 hgc o2]; exact q
        simp only [q2, Nat.le_refl, Nat.reduceLeDiff, Nat.reduceLT, Nat.reduceEqDiff, Nat.reduceAdd, Nat.reduceMul, Nat.reduceSub, forall_eq, true_and, and_true, not_true_eq_false, not_false_eq_true, false_implies, true_implies, implies_true, if_true, if_false, ite_self, nI_add]
        simp only [q, if_false] at hQ
        exact ih (c + 1) (some (gain c, c)) _ (by omega) (fun g' cc' e => by cases e; exact ⟨gU_eq, hgc⟩) hup hQ
end Ring
section RingM
variable {k nb nw nl a b : Nat} {hp : Nat → Nat} {N : Nat → Int32} {gain : Nat → Nat} {σ0 : gM} {Q : Int32 → gM → Prop} {x3 : Int32}
theorem s_ring_in {K40 : Int32 → Int32 → Int32 → Int32 → Int32 → Int32 → Int32 → gM → Prop} (hN : σ0 89 = N) (hW : pWF k N nb nw nl hp) (ha : a < nb) (hb : b < nb) {c : Nat} (hc : c < nl) {x5 x6 : Int32}
    (hK : ∀ σ', (∀ d, d ≠ 94 → d ≠ 95 → d ≠ 96 → σ' d = σ0 d) → σ' 95 0 = (pG (fun i => pVT N a (hp (pRo nl c i)) (nI 0)) (fun i => pVT N b (hp (pRo nl c i)) (nI 0)) (fun len => pTurn (N 1) (nl - len + 0)) nl 0).1 → K40 (nI a) (nI b) x3 (nI nl) (if (if x6 = (-1000000 : Int32) then nI 1 else if σ' 95 0 ≤ x5 then nI 0 else nI 1) = nI 0 then x5 else σ' 95 0) (if (if x6 = (-1000000 : Int32) then nI 1 else if σ' 95 0 ≤ x5 then nI 0 else nI 1) = nI 0 then x6 else nI c) (nI (c + 1)) σ') : ∀ (m i : Nat) (σ : gM), i + m = nl → σ = gFn σ0 94 0 i (fun t => nI (hp (pRo nl c t))) → wM_ring_l50 Q K40 (m + 1) (nI a) (nI b) x3 (nI nl) x5 x6 (nI c) (nI i) σ := by
  have hn : nw ≤ 16 := hW.2.2.2.2.1
  have hl : nl ≤ nw := hW.2.2.2.2.2.1
  have hnb : nb ≤ 4 := hW.2.2.2.1
  intro m
  induction m with
  | zero =>
    intro i σ hi hσ
    have : i = nl := by omega
    subst this
    rw [wM_ring_l50]
    simp (disch := first | assumption | omega | decide) only [Nat.le_refl, Nat.reduceLeDiff, Nat.reduceLT, Nat.reduceEqDiff, Nat.reduceAdd, Nat.reduceMul, Nat.reduceSub, forall_eq, true_and, and_true, not_true_eq_false, not_false_eq_true, false_implies, true_implies, implies_true, if_true, if_false, ite_self, nI_leI2, nI_add]
    refine s_layBest (N := N) (ln := fun t => hp (pRo i c t)) (by omega) (by omega) (by omega) (by omega) (by rw [hσ, gFn_ne (by decide)]; exact hN) (fun t ht => ⟨?_, by rw [hσ, gFn_in (by omega) (by omega)]; rfl⟩) (fun σ5 g1 g2 => ?_)
    · have := (hW.2.2.2.2.2.2.2.2.1 _ (pRo_lt (nl := i) (c := c) (by omega) ht)).1
      omega
    · have h00 : (σ5 95 0, σ5 96 0) = pG (fun t => pVT N a (hp (pRo i c t)) (nI 0)) (fun t => pVT N b (hp (pRo i c t)) (nI 0)) (fun len => pTurn (N 1) (i - len + 0)) i 0 := g2 0 (by omega) (by omega) 0 (by omega)
      exact hK σ5 (fun d d1 d2 d3 => by rw [g1 d d2 d3, hσ, gFn_ne d1]) (congrArg Prod.fst h00)
  | succ m ih =>
    intro i σ hi hσ
    have h1 : ¬ nl ≤ i := by omega
    have h0 : ¬ nl = 0 := by omega
    have er : nI c + nI i - (nI c + nI i) / nI nl * nI nl = nI (pRo nl c i) := by
      rw [nI_add, pk_rem (by omega) (by omega) (by omega), pRo_mod hc (by omega)]
    have hr : pRo nl c i < nl := pRo_lt (by omega) (by omega)
    have eh : σ 89 (86 + pRo nl c i) = nI (hp (pRo nl c i)) := by
      rw [hσ, gFn_ne (by decide), hN]
      exact (hW.2.2.2.2.2.2.2.2.1 _ hr).2.1
    rw [wM_ring_l50]
    simp (disch := first | assumption | omega | decide) only [er]
    simp (disch := first | assumption | omega | decide) only [li0, li1, li2, li3, li4, li5, li6, li7, li8, li9, li10, li11, li12, li13, li14, li16, li17, li20, li21, li22, li23, li24, li30, li32, li40, li48, li57, li59, li63, li86, li97, li99, li100, li102, li115, li122, li200, li255, li289, li320, li400, li720, li999, li1000, nI_add, pk_mul, nI_sub, nI_clamp, vinT, Nat.le_refl, Nat.reduceLeDiff, Nat.reduceLT, Nat.reduceEqDiff, Nat.reduceAdd, Nat.reduceMul, Nat.reduceSub, forall_eq, true_and, and_true, not_true_eq_false, not_false_eq_true, false_implies, true_implies, implies_true, if_true, if_false, ite_self, nI_eqI, nI_leI2, nI_ltI2, h1, h0, eM_heap, eh]
    refine ih (i + 1) _ (by omega) ?_
    rw [hσ]
    have e := gFn_succ σ0 94 0 i (fun t => nI (hp (pRo nl c t)))
    rw [Nat.zero_add] at e
    exact e
theorem s_ring (hW : pWF k N nb nw nl hp) (ha : a < nb) (hb : b < nb) (hg : ∀ c, c < nl → gain c < 2147483648 ∧ (pG (fun i => pVT N a (hp (pRo nl c i)) (nI 0)) (fun i => pVT N b (hp (pRo nl c i)) (nI 0)) (fun len => pTurn (N 1) (nl - len + 0)) nl 0).1 = nI (gain c)) : ∀ (m c : Nat) (o : Option (Nat × Nat)) (σ : gM), c + m = nl → (∀ g cc, o = some (g, cc) → g < 2147483648 ∧ cc < 2147483648) → σ 89 = N → (∀ d, d ≠ 94 → d ≠ 95 → d ≠ 96 → σ d = σ0 d) → (∀ σ', (∀ d, d ≠ 94 → d ≠ 95 → d ≠ 96 → σ' d = σ0 d) → Q (if x3 = nI 0 then encG (pRg gain m c o) else encC (pRg gain m c o)) σ') → wM_ring_l40 Q (m + 1) (nI a) (nI b) x3 (nI nl) (encG o) (encC o) (nI c) σ := by
  have hn : nw ≤ 16 := hW.2.2.2.2.1
  have hl : nl ≤ nw := hW.2.2.2.2.2.1
  intro m
  induction m with
  | zero =>
    intro c o σ hc ho hN hF hQ
    have : c = nl := by omega
    subst this
    rw [wM_ring_l40]
    simp (disch := first | assumption | omega | decide) only [Nat.le_refl, Nat.reduceLeDiff, Nat.reduceLT, Nat.reduceEqDiff, Nat.reduceAdd, Nat.reduceMul, Nat.reduceSub, forall_eq, true_and, and_true, not_true_eq_false, not_false_eq_true, false_implies, true_implies, implies_true, if_true, if_false, ite_self, nI_leI2]
    exact hQ σ hF
  | succ m ih =>
    intro c o σ hc ho hN hF hQ
    have h1 : ¬ nl ≤ c := by omega
    rw [wM_ring_l40]
    simp (disch := first | assumption | omega | decide) only [Nat.le_refl, Nat.reduceLeDiff, Nat.reduceLT, Nat.reduceEqDiff, Nat.reduceAdd, Nat.reduceMul, Nat.reduceSub, forall_eq, true_and, and_true, not_true_eq_false, not_false_eq_true, false_implies, true_implies, implies_true, if_true, if_false, ite_self, nI_leI2, h1]
    refine ⟨nl + 1, s_ring_in hN hW ha hb (by omega) (fun σ' f1 f2 => ?_) nl 0 σ (by omega) (gFn_0 _ _ _ _).symm⟩
    obtain ⟨hgc, hge⟩ := hg c (by omega)
    rw [f2, hge]
    have hN' : σ' 89 = N := by rw [f1 89 (by omega) (by omega) (by omega)]; exact hN
    have hF' : ∀ d, d ≠ 94 → d ≠ 95 → d ≠ 96 → σ' d = σ0 d := fun d d1 d2 d3 => by rw [f1 d d1 d2 d3]; exact hF d d1 d2 d3
    have n01 : ¬ nI 1 = nI 0 := by decide
    cases o with
    | none =>
      simp only [encC, encG, Nat.le_refl, Nat.reduceLeDiff, Nat.reduceLT, Nat.reduceEqDiff, Nat.reduceAdd, Nat.reduceMul, Nat.reduceSub, forall_eq, true_and, and_true, not_true_eq_false, not_false_eq_true, false_implies, true_implies, implies_true, if_true, if_false, ite_self, n01]
      exact ih (c + 1) (some (gain c, c)) σ' (by omega) (fun g cc e => by cases e; exact ⟨hgc, by omega⟩) hN' hF' hQ
    | some gc =>
      obtain ⟨g, cc⟩ := gc
      obtain ⟨o1, o2⟩ := ho g cc rfl
      have q0 := nI_none cc o2
      rw [pRg] at hQ
      by_cases q : gain c ≤ g
      · have q2 : nI (gain c) ≤ nI g := by rw [nI_leI2 hgc o1]; exact q
        simp only [encC, encG, q0, q2, Nat.le_refl, Nat.reduceLeDiff, Nat.reduceLT, Nat.reduceEqDiff, Nat.reduceAdd, Nat.reduceMul, Nat.reduceSub, forall_eq, true_and, and_true, not_true_eq_false, not_false_eq_true, false_implies, true_implies, implies_true, if_true, if_false, ite_self, n01]
        simp only [q, if_true] at hQ
        exact ih (c + 1) (some (g, cc)) σ' (by omega) ho hN' hF' hQ
      · have q2 : ¬ nI (gain c) ≤ nI g := by rw [nI_leI2 hgc o1]; exact q
        simp only [encC, encG, q0, q2, Nat.le_refl, Nat.reduceLeDiff, Nat.reduceLT, Nat.reduceEqDiff, Nat.reduceAdd, Nat.reduceMul, Nat.reduceSub, forall_eq, true_and, and_true, not_true_eq_false, not_false_eq_true, false_implies, true_implies, implies_true, if_true, if_false, ite_self, n01]
        simp only [q, if_false] at hQ
        exact ih (c + 1) (some (gain c, c)) σ' (by omega) (fun g' cc' e => by cases e; exact ⟨hgc, by omega⟩) hN' hF' hQ
theorem pRg_some : ∀ (m c : Nat) (o : Option (Nat × Nat)), (0 < m ∨ o ≠ none) → pRg gain m c o ≠ none
  | 0, _, o, h => by rcases h with h | h; exact absurd h (by omega); exact h
  | m + 1, c, none, _ => by rw [pRg]; exact pRg_some m (c + 1) _ (Or.inr (by simp))
  | m + 1, c, some (g, cc), _ => by
    rw [pRg]
    split
    · exact pRg_some m (c + 1) _ (Or.inr (by simp))
    · exact pRg_some m (c + 1) _ (Or.inr (by simp))
end RingM
