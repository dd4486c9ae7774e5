/-! LAID, the reference: all codes -/
def fnd (n : Nat) (srt : Nat → Nat) (x : Int32) (o : Option (Nat × List Nat)) : Int32 := match o with
  | none => -1000000
  | some (_, q) => if pB x n = nI 0 then -1000000 else nI (srt (q.getD x.toNatClampNeg 0))
/-! a sorted row there is -/
theorem ex_in {n i : Nat} {hp : Nat → Nat} (hi : i < n) : ∀ (j : Nat) (h : Nat → Nat), j ≤ i → pIm n hp h → (∀ a b, a < b → b ≤ i → b ≠ j → h a < h b) → ∃ h', pIm n hp h' ∧ ∀ a b, a < b → b ≤ i → h' a < h' b
  | 0, h, _, I, S => ⟨h, I, fun a b h1 h2 => S a b h1 h2 (by omega)⟩
  | j + 1, h, hj, I, S => by
    by_cases q : h j ≤ h (j + 1)
    · have hlt2 : h j < h (j + 1) := by
        rcases Nat.lt_or_eq_of_le q with z | z
        · exact z
        · have := I.2.2 j (j + 1) (by omega) (by omega) z
          omega
      refine ⟨h, I, fun a b h1 h2 => ?_⟩
      by_cases e : b = j + 1
      · subst e
        by_cases e3 : a = j
        · rw [e3]; exact hlt2
        · have := S a j (by omega) (by omega) (by omega)
          omega
      · exact S a b h1 h2 e
    · refine ex_in hi j (swF h j (j + 1)) (by omega) (pIm_sw (by omega) (by omega) (by omega) I) (fun a b h1 h2 h3 => ?_)
      unfold swF
      by_cases c1 : b = j + 1
      · rw [if_pos c1]
        by_cases c2 : a = j
        · rw [if_neg (by omega), if_pos c2]; omega
        · rw [if_neg (by omega), if_neg c2]
          exact S a j (by omega) (by omega) (by omega)
      · rw [if_neg c1, if_neg (c := b = j) (by omega)]
        by_cases c2 : a = j + 1
        · rw [if_pos c2]
          exact S j b (by omega) (by omega) (by omega)
        · rw [if_neg c2]
          by_cases c3 : a = j
          · rw [if_pos c3]
            exact S (j + 1) b (by omega) (by omega) (by omega)
          · rw [if_neg c3]
            exact S a b h1 h2 (by omega)
theorem ex_out {n : Nat} {hp : Nat → Nat} : ∀ (m i : Nat) (h : Nat → Nat), n ≤ i + m → pIm n hp h → (∀ a b, a < b → b < i → b < n → h a < h b) → ∃ h', pIm n hp h' ∧ ∀ a b, a < b → b < n → h' a < h' b
  | 0, i, h, hi, I, S => ⟨h, I, fun a b h1 h2 => S a b h1 (by omega) h2⟩
  | m + 1, i, h, hi, I, S => by
    by_cases q : n ≤ i
    · exact ⟨h, I, fun a b h1 h2 => S a b h1 (by omega) h2⟩
    · obtain ⟨h', I', S'⟩ := ex_in (by omega : i < n) i h (Nat.le_refl _) I (fun a b h1 h2 h3 => S a b h1 (by omega) (by omega))
      exact ex_out m (i + 1) h' (by omega) I' (fun a b h1 h2 _ => S' a b h1 (by omega))
theorem ex_sort {n : Nat} {hp : Nat → Nat} (hinj : ∀ i j, i < n → j < n → hp i = hp j → i = j) : ∃ h', pIm n hp h' ∧ ∀ a b, a < b → b < n → h' a < h' b := ex_out n 0 hp (by omega) ⟨fun i hi => ⟨i, hi, rfl⟩, fun j hj => ⟨j, hj, rfl⟩, hinj⟩ (fun a b h1 h2 _ => absurd h2 (by omega))
section LaidM
variable {k nb nw n a b : Nat} {hp srt : Nat → Nat} {N : Nat → Int32} {gain : List Nat → Nat} {σ0 : gM} {Q : Int32 → gM → Prop} {x3 : Int32}
def pFl (σ0 σ : gM) : Prop := ∀ c, c ≠ 94 → c ≠ 95 → c ≠ 96 → σ c = σ0 c
theorem s_ml114 {K : Int32 → Int32 → Int32 → Int32 → Int32 → Int32 → Int32 → Int32 → gM → Prop} (hn : n ≤ 6) (ha : a < nb) (hb : b < nb) (hnb : nb ≤ 4) (hN : σ0 89 = N) (hlt : ∀ j, j < n → srt j < 16) (h99 : ∀ j, j < n → σ0 99 j = nI (srt j))
    (hg : ∀ l, pOr n l → gain l < 2147483648 ∧ (pG (fun i => pVT N a (srt (l.getD i 0)) (nI 0)) (fun i => pVT N b (srt (l.getD i 0)) (nI 0)) (fun len => pTurn (N 1) (n - len + 0)) n 0).1 = nI (gain l)) {o : Option (Nat × List Nat)} (ho : ∀ g q, o = some (g, q) → g < 2147483648) {code : Nat} {x5 : Int32} : ∀ (m left met : Nat) (l : List Nat) (σ : gM), l.length + m = n → (∀ x ∈ l, x < n) → left ≤ 46656 → met < 65536 → pFl σ0 σ → (∀ j, m ≤ j → j < n → σ 94 j = nI (srt (l.getD (j - m) 0))) →
    (∀ σ', pFl σ0 σ' → K (nI a) (nI b) x3 (nI n) x5 (encL (if (dgL n m left met l).2 = 2 ^ n - 1 then ldU gain o (dgL n m left met l).1 else o)) (fnd n srt x3 (if (dgL n m left met l).2 = 2 ^ n - 1 then ldU gain o (dgL n m left met l).1 else o)) (nI (code + 1)) σ') → wM_mostLaid_l114 Q K (m + 1) (nI a) (nI b) x3 (nI n) x5 (encL o) (fnd n srt x3 o) (nI code) (nI left) (nI met) (nI m - nI 1) σ := by
  intro m
  induction m with
  | zero =>
    intro left met l σ hl hx hleft hmet hF h94 hK
    have e : nI 0 - nI 1 < nI 0 := by rw [lt_sub (by omega) (by omega) (by omega)]; omega
    have hp2 : (2 : Nat) ^ n ≤ 2 ^ 6 := Nat.pow_le_pow_right (by omega) hn
    have hp1 : 1 ≤ (2 : Nat) ^ n := Nat.one_le_two_pow
    have efl : (nI 1 <<< (nI n &&& 31)) - nI 1 = nI (2 ^ n - 1) := by
      rw [sh_l (by omega) (by omega), Nat.one_mul, nI_sub hp1]
    have hor : pOr n l := by
      refine ⟨by omega, fun j hj => hx _ ?_⟩
      rw [List.getD_eq_getElem?_getD, List.getElem?_eq_getElem (by omega)]
      exact List.getElem_mem _
    rw [wM_mostLaid_l114]
    rw [dgL] at hK
    simp only [e, efl, Nat.le_refl, Nat.reduceLeDiff, Nat.reduceLT, Nat.reduceEqDiff, Nat.reduceAdd, Nat.reduceMul, Nat.reduceSub, forall_eq, true_and, and_true, not_true_eq_false, not_false_eq_true, false_implies, true_implies, implies_true, if_true, if_false, ite_self]
    by_cases q : met = 2 ^ n - 1
    · simp only [q, if_true] at hK
      simp only [q, Nat.le_refl, Nat.reduceLeDiff, Nat.reduceLT, Nat.reduceEqDiff, Nat.reduceAdd, Nat.reduceMul, Nat.reduceSub, forall_eq, true_and, and_true, not_true_eq_false, not_false_eq_true, false_implies, true_implies, implies_true, if_true, if_false, ite_self]
      obtain ⟨hgc, hge⟩ := hg l hor
      refine s_layBest (N := N) (ln := fun i => srt (l.getD i 0)) (by omega) (by omega) (by omega) (by omega) (by rw [hF 89 (by omega) (by omega) (by omega)]; exact hN) (fun i hi => ⟨hlt _ (hor.2 i hi), by rw [h94 i (by omega) hi, Nat.sub_zero]⟩) (fun σ5 g1 g2 => ?_)
      have h00 : (σ5 95 0, σ5 96 0) = pG (fun i => pVT N a (srt (l.getD i 0)) (nI 0)) (fun i => pVT N b (srt (l.getD i 0)) (nI 0)) (fun len => pTurn (N 1) (n - len + 0)) n 0 := g2 0 (by omega) (by omega) 0 (by omega)
      have e95 : σ5 95 0 = nI (gain l) := (congrArg Prod.fst h00).trans hge
      have hF5 : pFl σ0 σ5 := fun c c1 c2 c3 => by rw [g1 c c2 c3]; exact hF c c1 c2 c3
      have e94 : ∀ j, j < n → σ5 94 j = nI (srt (l.getD j 0)) := fun j hj => by rw [g1 94 (by omega) (by omega), h94 j (by omega) hj, Nat.sub_zero]
      have hK5 := hK σ5 hF5
      have hin : ∀ P : Int32 → gM → Prop, wM_in x3 (nI 0) (nI n - nI 1) σ5 P = P (pB x3 n) σ5 := fun P => by
        rw [eM_in, e_inRange (by omega)]
      have found : K (nI a) (nI b) x3 (nI n) x5 (encL (some (gain l, l))) (fnd n srt x3 (some (gain l, l))) (nI (code + 1)) σ5 → ((pB x3 n = nI 0 → True) ∧ (¬ pB x3 n = nI 0 → vp_in x3 16 ∧ True)) ∧ ∀ v23 : Int32, v23 = (if pB x3 n = nI 0 then (-1000000 : Int32) else σ5 94 x3.toNatClampNeg) → ∀ x10_24 : Int32, x10_24 = nI code + nI 1 → K (nI a) (nI b) x3 (nI n) x5 (nI (gain l)) v23 x10_24 σ5 := fun hk => by
        refine ⟨⟨fun _ => trivial, fun z => ⟨?_, trivial⟩⟩, ?_⟩
        · rcases i_in x3 n (by omega) with ⟨i, hi, rfl⟩ | ⟨e1, -⟩
          · rw [vinT (by omega) (by omega)]; trivial
          · exact absurd e1 z
        · intro v hv x hx10
          subst hv
          subst hx10
          rw [nI_add]
          have : fnd n srt x3 (some (gain l, l)) = (if pB x3 n = nI 0 then (-1000000 : Int32) else σ5 94 x3.toNatClampNeg) := by
            unfold fnd
            simp only
            by_cases z : pB x3 n = nI 0
            · rw [if_pos z, if_pos z]
            · rw [if_neg z, if_neg z]
              rcases i_in x3 n (by omega) with ⟨i, hi, rfl⟩ | ⟨e1, -⟩
              · rw [nI_clamp (by omega), e94 i hi]
              · exact absurd e1 z
          rw [← this]
          exact hk
      simp only [e95, forall_eq, hin]
      cases o with
      | none =>
        have q2 : ¬ nI (gain l) ≤ encL none := nI_m1 _ hgc
        simp only [q2, not_false_eq_true, false_implies, true_implies, true_and]
        have h := found hK5
        simp only [forall_eq] at h
        exact ⟨fun z => (h.1.2 z).1, h.2⟩
      | some gc =>
        obtain ⟨g, cc⟩ := gc
        have o2 := ho g cc rfl
        have el : ldU gain (some (g, cc)) l = (if gain l ≤ g then some (g, cc) else some (gain l, l)) := rfl
        rw [el] at hK5
        by_cases q2 : gain l ≤ g
        · have q3 : nI (gain l) ≤ encL (some (g, cc)) := by
            show nI (gain l) ≤ nI g
            rw [nI_leI2 hgc o2]; exact q2
          rw [if_pos q2] at hK5
          simp only [q3, nI_add, Nat.le_refl, Nat.reduceLeDiff, Nat.reduceLT, Nat.reduceEqDiff, Nat.reduceAdd, Nat.reduceMul, Nat.reduceSub, forall_eq, true_and, and_true, not_true_eq_false, not_false_eq_true, false_implies, true_implies, implies_true, if_true, if_false, ite_self]
          exact hK5
        · have q3 : ¬ nI (gain l) ≤ encL (some (g, cc)) := by
            show ¬ nI (gain l) ≤ nI g
            rw [nI_leI2 hgc o2]; exact q2
          rw [if_neg q2] at hK5
          simp only [q3, not_false_eq_true, false_implies, true_implies, true_and]
          have h := found hK5
          simp only [forall_eq] at h
          exact ⟨fun z => (h.1.2 z).1, h.2⟩
    · simp only [q, if_false] at hK
      have q2 : ¬ nI met = nI (2 ^ n - 1) := by rw [nI_eqI (by omega) (by omega)]; exact q
      simp only [q2, nI_add, Nat.le_refl, Nat.reduceLeDiff, Nat.reduceLT, Nat.reduceEqDiff, Nat.reduceAdd, Nat.reduceMul, Nat.reduceSub, forall_eq, true_and, and_true, not_true_eq_false, not_false_eq_true, false_implies, true_implies, implies_true, if_true, if_false, ite_self]
      exact hK σ hF
  | succ m ih =>
    intro left met l σ hl hx hleft hmet hF h94 hK
    have hn0 : 0 < n := by omega
    have hd : left % n < n := Nat.mod_lt _ hn0
    have qn : ¬ n = 0 := by omega
    have er : nI left - nI left / nI n * nI n = nI (left % n) := pk_rem (by omega) hn0 (by omega)
    have ed : nI left / nI n = nI (left / n) := pk_div (by omega) hn0 (by omega)
    have hs : (2 : Nat) ^ (left % n) < 2 ^ 16 := Nat.pow_lt_pow_right (by omega) (by omega)
    have esh : nI 1 <<< (nI (left % n) &&& 31) = nI (1 * 2 ^ (left % n)) := sh_l (by omega) (by omega)
    have e99 : σ 99 (left % n) = nI (srt (left % n)) := by rw [hF 99 (by omega) (by omega) (by omega)]; exact h99 _ hd
    have hdl := Nat.div_le_self left n
    rw [wM_mostLaid_l114]
    rw [dgL] at hK
    simp only [er, esh]
    simp (disch := first | assumption | omega | decide) only [nI_sub, Nat.add_sub_cancel, nI_ltI2, Nat.not_lt_zero, nI_eqI, qn, Nat.le_refl, Nat.reduceLeDiff, Nat.reduceLT, Nat.reduceEqDiff, Nat.reduceAdd, Nat.reduceMul, Nat.reduceSub, forall_eq, true_and, and_true, not_true_eq_false, not_false_eq_true, false_implies, true_implies, implies_true, if_true, if_false, ite_self, vinT, nI_clamp, e99, nI_or, ed, add_m1]
    refine ih (left / n) (met ||| 1 * 2 ^ (left % n)) (left % n :: l) _ (by rw [List.length_cons]; omega) (fun x hx2 => ?_) (by omega) (or_lt 16 hmet (by omega)) (fun c c1 c2 c3 => by rw [gU_ne c1]; exact hF c c1 c2 c3) (fun j hj hj2 => ?_) hK
    · rcases List.mem_cons.mp hx2 with e | e
      · rw [e]; exact hd
      · exact hx x e
    · by_cases e : j = m
      · subst e
        rw [gU_eq, Nat.sub_self]
        rfl
      · rw [gU_off e, h94 j (by omega) hj2, show j - m = (j - (m + 1)) + 1 by omega]
        rfl
theorem s_ml94 (hn : n ≤ 6) (ha : a < nb) (hb : b < nb) (hnb : nb ≤ 4) (hN : σ0 89 = N) (hlt : ∀ j, j < n → srt j < 16) (h99 : ∀ j, j < n → σ0 99 j = nI (srt j))
    (hg : ∀ l, pOr n l → gain l < 2147483648 ∧ (pG (fun i => pVT N a (srt (l.getD i 0)) (nI 0)) (fun i => pVT N b (srt (l.getD i 0)) (nI 0)) (fun len => pTurn (N 1) (n - len + 0)) n 0).1 = nI (gain l)) : ∀ (m c : Nat) (o : Option (Nat × List Nat)) (σ : gM), c + m = n ^ n → (∀ g q, o = some (g, q) → g < 2147483648) → pFl σ0 σ → (∀ σ', pFl σ0 σ' → Q (if x3 = (-1 : Int32) then encL ((pmM n m c).foldl (ldU gain) o) else fnd n srt x3 ((pmM n m c).foldl (ldU gain) o)) σ') → wM_mostLaid_l94 Q (m + 1) (nI a) (nI b) x3 (nI n) (nI (n ^ n)) (encL o) (fnd n srt x3 o) (nI c) σ := by
  have hpn : n ^ n ≤ 46656 := by
    have : n = 0 ∨ n = 1 ∨ n = 2 ∨ n = 3 ∨ n = 4 ∨ n = 5 ∨ n = 6 := by omega
    rcases this with rfl | rfl | rfl | rfl | rfl | rfl | rfl <;> decide
  intro m
  induction m with
  | zero =>
    intro c o σ hc ho hF hQ
    have q : n ^ n ≤ c := by omega
    rw [wM_mostLaid_l94]
    simp (disch := first | assumption | omega | decide) only [nI_leI2, q, Nat.le_refl, Nat.reduceLeDiff, Nat.reduceLT, Nat.reduceEqDiff, Nat.reduceAdd, Nat.reduceMul, Nat.reduceSub, forall_eq, true_and, and_true, not_true_eq_false, not_false_eq_true, false_implies, true_implies, implies_true, if_true, if_false, ite_self]
    exact hQ σ hF
  | succ m ih =>
    intro c o σ hc ho hF hQ
    have q : ¬ n ^ n ≤ c := by omega
    rw [wM_mostLaid_l94]
    simp (disch := first | assumption | omega | decide) only [nI_leI2, q, Nat.le_refl, Nat.reduceLeDiff, Nat.reduceLT, Nat.reduceEqDiff, Nat.reduceAdd, Nat.reduceMul, Nat.reduceSub, forall_eq, true_and, and_true, not_true_eq_false, not_false_eq_true, false_implies, true_implies, implies_true, if_true, if_false, ite_self]
    refine ⟨n + 1, s_ml114 hn ha hb hnb hN hlt h99 hg ho n c 0 [] σ (by simp) (fun x hx => absurd hx (by simp)) (by omega) (by omega) hF (fun j h1 h2 => absurd h1 (by omega)) (fun σ' hF' => ?_)⟩
    refine ih (c + 1) _ σ' (by omega) (fun g q2 e => ?_) hF' (fun σ2 hF2 => ?_)
    · by_cases z : (dgL n n c 0 []).2 = 2 ^ n - 1
      · rw [if_pos z] at e
        have hor : pOr n (dgL n n c 0 []).1 := by
          by_cases hz : n = 0
          · subst hz
            exact ⟨rfl, fun j hj => absurd hj (by omega)⟩
          · obtain ⟨d1, d2⟩ := dgL_ok (n := n) (by omega) n c 0 [] (fun x hx => absurd hx (by simp))
            refine ⟨by rw [d1]; simp, fun j hj => d2 _ ?_⟩
            rw [List.getD_eq_getElem?_getD, List.getElem?_eq_getElem (by rw [d1]; simpa using hj)]
            exact List.getElem_mem _
        have hgc := (hg _ hor).1
        cases o with
        | none =>
          have e : some (gain (dgL n n c 0 []).1, (dgL n n c 0 []).1) = some (g, q2) := e
          cases e
          exact hgc
        | some gc =>
          obtain ⟨g0, cc⟩ := gc
          have e : (if gain (dgL n n c 0 []).1 ≤ g0 then some (g0, cc) else some (gain (dgL n n c 0 []).1, (dgL n n c 0 []).1)) = some (g, q2) := e
          by_cases w : gain (dgL n n c 0 []).1 ≤ g0
          · rw [if_pos w] at e
            cases e
            exact ho _ _ rfl
          · rw [if_neg w] at e
            cases e
            exact hgc
      · rw [if_neg z] at e
        exact ho g q2 e
    · have h2 := hQ σ2 hF2
      rw [pmM] at h2
      by_cases z : (dgL n n c 0 []).2 = 2 ^ n - 1
      · rw [if_pos z, List.foldl_cons] at h2
        rw [if_pos z]
        exact h2
      · rw [if_neg z] at h2
        rw [if_neg z]
        exact h2
theorem s_ml46 (hW : pWF k N nb nw n hp) (hn : n ≤ 6) (hm : ∀ a b, a < b → b < n → srt a < srt b) (hI : pIm n hp srt) {x1 x2 x5 : Int32} (hN : σ0 89 = N) (hQ : ∀ σ', (∀ c, c ≠ 99 → σ' c = σ0 c) → (∀ j, j < n → σ' 99 j = nI (srt j)) → ∃ n36 : Nat, wM_mostLaid_l94 Q n36 x1 x2 x3 (nI n) x5 (-1 : Int32) (-1000000 : Int32) (nI 0) σ') : ∀ (m w c : Nat) (σ : gM), w + m = nw → c ≤ n → (∀ q, q ≠ 99 → σ q = σ0 q) → (∀ j, j < c → σ 99 j = nI (srt j) ∧ srt j < w) → (∀ j, c ≤ j → j < n → w ≤ srt j) → wM_mostLaid_l46 Q (m + 1) x1 x2 x3 (nI n) x5 (nI c) (nI w) σ := by
  have hnw : nw ≤ 16 := hW.2.2.2.2.1
  have hpl : ∀ j, j < n → hp j < nw := fun j hj => (hW.2.2.2.2.2.2.2.2.1 j hj).1
  have hinj := hW.2.2.2.2.2.2.2.2.2.1
  have h3 : N 3 = nI nw := hW.2.1
  intro m
  induction m with
  | zero =>
    intro w c σ hw hc hF h1 h2
    have e3 : σ 89 3 = nI nw := by rw [hF 89 (by omega), hN]; exact h3
    have q : nw ≤ w := by omega
    have ec : c = n := by
      by_cases z : c = n
      · exact z
      · exfalso
        have a1 := h2 c (Nat.le_refl _) (by omega)
        obtain ⟨j, hj, e⟩ := hI.1 c (by omega)
        have := hpl j hj
        omega
    rw [wM_mostLaid_l46]
    simp (disch := first | assumption | omega | decide) only [e3, nI_leI2, q, Nat.le_refl, Nat.reduceLeDiff, Nat.reduceLT, Nat.reduceEqDiff, Nat.reduceAdd, Nat.reduceMul, Nat.reduceSub, forall_eq, true_and, and_true, not_true_eq_false, not_false_eq_true, false_implies, true_implies, implies_true, if_true, if_false, ite_self]
    exact hQ σ hF (fun j hj => (h1 j (by omega)).1)
  | succ m ih =>
    intro w c σ hw hc hF h1 h2
    have e3 : σ 89 3 = nI nw := by rw [hF 89 (by omega), hN]; exact h3
    have q : ¬ nw ≤ w := by omega
    rw [wM_mostLaid_l46]
    simp (disch := first | assumption | omega | decide) only [e3, nI_leI2, q, Nat.le_refl, Nat.reduceLeDiff, Nat.reduceLT, Nat.reduceEqDiff, Nat.reduceAdd, Nat.reduceMul, Nat.reduceSub, forall_eq, true_and, and_true, not_true_eq_false, not_false_eq_true, false_implies, true_implies, implies_true, if_true, if_false, ite_self]
    refine s_placeM (nl := n) (hp := hp) (k := k) (nb := nb) (nw := nw) (by rw [hF 89 (by omega), hN]; exact hW) (by omega) ?_
    by_cases hx : ∃ j, j < n ∧ hp j = w
    · obtain ⟨j, hj, e⟩ := hx
      have hpl2 : pPlI n hp w = nI j := by
        unfold pPlI
        rw [pPl_some hinj hj e]
      have hne : ¬ nI j = (-1000000 : Int32) := nI_none j (by omega)
      obtain ⟨i, hi, ei⟩ := hI.2.1 j hj
      rw [e] at ei
      have hci : c ≤ i := by
        rcases Nat.lt_or_ge i c with z | z
        · have := (h1 i z).2; omega
        · exact z
      have hcw : srt c = w := by
        have a1 := h2 c (Nat.le_refl _) (by omega)
        have a2 := (srt_le hm (a := c) (b := i) (by omega) hi).mpr hci
        omega
      rw [hpl2]
      simp (disch := first | assumption | omega | decide) only [hne, Nat.le_refl, Nat.reduceLeDiff, Nat.reduceLT, Nat.reduceEqDiff, Nat.reduceAdd, Nat.reduceMul, Nat.reduceSub, forall_eq, true_and, and_true, not_true_eq_false, not_false_eq_true, false_implies, true_implies, implies_true, if_true, if_false, ite_self, vinT, nI_clamp, nI_add]
      refine ih (w + 1) (c + 1) _ (by omega) (by omega) (fun q hq => by rw [gU_ne hq]; exact hF q hq) (fun j hj => ?_) (fun j hj hj2 => ?_)
      · by_cases z : j = c
        · subst z
          rw [gU_eq, hcw]
          exact ⟨rfl, by omega⟩
        · rw [gU_off z]
          have := h1 j (by omega)
          exact ⟨this.1, by omega⟩
      · have := hm c j (by omega) hj2
        omega
    · have hpl2 : pPlI n hp w = (-1000000 : Int32) := by
        unfold pPlI
        rw [pPl_none (fun j hj e => hx ⟨j, hj, e⟩)]
      rw [hpl2]
      simp (disch := first | assumption | omega | decide) only [Nat.le_refl, Nat.reduceLeDiff, Nat.reduceLT, Nat.reduceEqDiff, Nat.reduceAdd, Nat.reduceMul, Nat.reduceSub, forall_eq, true_and, and_true, not_true_eq_false, not_false_eq_true, false_implies, true_implies, implies_true, if_true, if_false, ite_self, nI_add]
      refine ih (w + 1) c σ (by omega) hc hF (fun j hj => ?_) (fun j hj hj2 => ?_)
      · have := h1 j hj
        exact ⟨this.1, by omega⟩
      · have a1 := h2 j hj hj2
        have : srt j ≠ w := fun e => by
          obtain ⟨i, hi, ei⟩ := hI.1 j hj2
          exact hx ⟨i, hi, by rw [← ei]; exact e⟩
        omega
theorem s_ml14 {x1 x2 : Int32} {σ : gM} (hn : n ≤ 6) (hQ : ∃ n44 : Nat, wM_mostLaid_l46 Q n44 x1 x2 x3 (nI n) (nI (n ^ n)) (nI 0) (nI 0) σ) : ∀ (m i : Nat), i + m = n → wM_mostLaid_l14 Q (m + 1) x1 x2 x3 (nI n) (nI (n ^ i)) (nI i) σ := by
  intro m
  induction m with
  | zero =>
    intro i hi
    have : i = n := by omega
    subst this
    rw [wM_mostLaid_l14]
    simp (disch := first | assumption | omega | decide) only [nI_leI2, Nat.le_refl, Nat.reduceLeDiff, Nat.reduceLT, Nat.reduceEqDiff, Nat.reduceAdd, Nat.reduceMul, Nat.reduceSub, forall_eq, true_and, and_true, not_true_eq_false, not_false_eq_true, false_implies, true_implies, implies_true, if_true, if_false, ite_self]
    exact hQ
  | succ m ih =>
    intro i hi
    have q : ¬ n ≤ i := by omega
    rw [wM_mostLaid_l14]
    simp (disch := first | assumption | omega | decide) only [nI_leI2, q, Nat.le_refl, Nat.reduceLeDiff, Nat.reduceLT, Nat.reduceEqDiff, Nat.reduceAdd, Nat.reduceMul, Nat.reduceSub, forall_eq, true_and, and_true, not_true_eq_false, not_false_eq_true, false_implies, true_implies, implies_true, if_true, if_false, ite_self, pk_mul, nI_add]
    rw [← Nat.pow_succ]
    exact ih (i + 1) (by omega)
end LaidM
theorem op_laid {k : Nat} {x1 x2 x3 : Int32} {σ : gM} (hk : k ≤ 100) (h : pInv k σ) : pBoth (wH_laid x1 x2 x3) (wM_laid x1 x2 x3) σ (pInv k) := by
  obtain ⟨nb, nw, nl, hp, hM, hW⟩ := h.2.2.2.2.2.2.1
  have hn : nw ≤ 16 := hW.2.2.2.2.1
  have hl : nl ≤ nw := hW.2.2.2.2.2.1
  have hnb : nb ≤ 4 := hW.2.2.2.1
  have e5 : σ 42 5 = nI nl := hM.2.2.2.2.1
  have e5' : σ 89 5 = nI nl := hW.2.2.1
  have n01 : ¬ nI 1 = nI 0 := by decide
  unfold pBoth wH_laid
  rcases e_two hnb x1 x2 hM.2.2.1 hW.1 with ⟨⟨a, b, ha, hb, hab, rfl, rfl⟩, eH, eM⟩ | ⟨eH, eM⟩
  · rw [eH]
    by_cases hx : (-1 : Int32) ≤ x3
    · by_cases h6 : nl ≤ 6
      · have hpl : ∀ j, j < nl → hp j < 16 := fun j hj => by have := (hW.2.2.2.2.2.2.2.2.1 j hj).1; omega
        have hinj := hW.2.2.2.2.2.2.2.2.2.1
        -- what the reference does from a sorted row on
        have hMod : ∀ (τ : gM) (P : Int32 → gM → Prop) (srt : Nat → Nat) (gain : List Nat → Nat), τ 89 = σ 89 → (∀ a b, a < b → b < nl → srt a < srt b) → pIm nl hp srt → (∀ l, pOr nl l → gain l < 2147483648 ∧ (pG (fun i => pVT (σ 89) a (srt (l.getD i 0)) (nI 0)) (fun i => pVT (σ 89) b (srt (l.getD i 0)) (nI 0)) (fun len => pTurn (σ 89 1) (nl - len + 0)) nl 0).1 = nI (gain l)) → (∀ τ', (∀ c, c ≠ 94 → c ≠ 95 → c ≠ 96 → c ≠ 99 → τ' c = τ c) → P (if x3 = (-1 : Int32) then encL ((prC nl 720 (List.range nl)).foldl (ldU gain) none) else fnd nl srt x3 ((prC nl 720 (List.range nl)).foldl (ldU gain) none)) τ') → wM_laid (nI a) (nI b) x3 τ P := by
          intro τ P srt gain ht hm hI hg hP
          have hlt : ∀ j, j < nl → srt j < 16 := fun j hj => by
            obtain ⟨i, hi, e⟩ := hI.1 j hj
            rw [e]; exact hpl i hi
          unfold wM_laid
          rw [eM τ _ (by rw [ht]; exact hW.1)]
          simp (disch := first | assumption | omega | decide) only [Nat.le_refl, Nat.reduceLeDiff, Nat.reduceLT, Nat.reduceEqDiff, Nat.reduceAdd, Nat.reduceMul, Nat.reduceSub, forall_eq, true_and, and_true, not_true_eq_false, not_false_eq_true, false_implies, true_implies, implies_true, if_true, if_false, ite_self, n01, hx, ht, e5', nI_leI2, h6, wM_mostLaid]
          refine ⟨nl + 1, s_ml14 (n := nl) h6 ?_ nl 0 (by omega)⟩
          refine ⟨nw + 1, s_ml46 (σ0 := τ) (N := σ 89) hW h6 hm hI ht (fun τ1 f1 f2 => ?_) nw 0 0 τ (by omega) (by omega) (fun _ _ => rfl) (fun j hj => absurd hj (by omega)) (fun j _ _ => Nat.zero_le _)⟩
          refine ⟨nl ^ nl + 1, s_ml94 (σ0 := τ1) (N := σ 89) (o := none) h6 ha hb hnb (by rw [f1 89 (by omega)]; exact ht) hlt f2 hg (nl ^ nl) 0 τ1 (by omega) (fun g q e => by cases e) (fun _ _ _ _ => rfl) (fun τ2 g1 => ?_)⟩
          rw [orders h6]
          exact hP τ2 (fun c c1 c2 c3 c4 => by rw [g1 c c1 c2 c3]; exact f1 c c4)
        by_cases hlt : x3 < nI nl
        · simp (disch := first | assumption | omega | decide) only [Nat.le_refl, Nat.reduceLeDiff, Nat.reduceLT, Nat.reduceEqDiff, Nat.reduceAdd, Nat.reduceMul, Nat.reduceSub, forall_eq, true_and, and_true, not_true_eq_false, not_false_eq_true, false_implies, true_implies, implies_true, if_true, if_false, ite_self, hx, hlt, e5, nI_leI2, h6]
          refine s_seat hM hW ha hb (fun σ1 hS => ?_)
          unfold wD_findLaid
          refine s_sort (n := nl) (hp := hp) (by omega) hS.2.2.1 hpl hinj (fun j hj => (hS.2.2.2 j hj).1) (fun srt σ2 hH hI hm => ?_)
          have hlt16 : ∀ j, j < nl → srt j < 16 := fun j hj => by
            obtain ⟨i, hi, e⟩ := hI.1 j hj
            rw [e]; exact hpl i hi
          have hsw : ∀ j, j < nl → srt j < nw := fun j hj => by
            obtain ⟨i, hi, e⟩ := hI.1 j hj
            rw [e]; exact (hW.2.2.2.2.2.2.2.2.1 i hi).1
          obtain ⟨gain, hg⟩ : ∃ gain : List Nat → Nat, ∀ l, pOr nl l → gain l < 2147483648 ∧ (pG (fun i => pVT (σ 89) a (srt (l.getD i 0)) (nI 0)) (fun i => pVT (σ 89) b (srt (l.getD i 0)) (nI 0)) (fun len => pTurn (σ 89 1) (nl - len + 0)) nl 0).1 = nI (gain l) := by
            refine ⟨fun l => (pG (fun i => pVT (σ 89) a (srt (l.getD i 0)) (nI 0)) (fun i => pVT (σ 89) b (srt (l.getD i 0)) (nI 0)) (fun len => pTurn (σ 89 1) (nl - len + 0)) nl 0).1.toNatClampNeg, fun l hl => ?_⟩
            obtain ⟨u, v, u1, v1, e⟩ := pG_nI (tf := fun len => pTurn (σ 89 1) (nl - len + 0)) (la := fun i => pVT (σ 89) a (srt (l.getD i 0)) (nI 0)) (lb := fun i => pVT (σ 89) b (srt (l.getD i 0)) (nI 0)) nl 0 (by omega) (fun j _ hj => by
              have hw := hsw _ (hl.2 j (by omega))
              exact ⟨pVT_nI (by omega) hW a hw (by omega), pVT_nI (by omega) hW b hw (by omega)⟩)
            have hbd := pBd_16 (len := nl) (by omega)
            simp only [e]
            rw [nI_clamp (by omega)]
            exact ⟨by omega, rfl⟩
          have hor0 : pOr nl (List.range nl) := by
            refine ⟨List.length_range, fun j hj => ?_⟩
            rw [List.getD_eq_getElem?_getD, List.getElem?_range hj]
            exact hj
          have h9 : List.range nl ≠ [9] := fun z => by
            have h1 := congrArg List.length z
            have h2 := hor0.2 0 (by rw [List.length_range] at h1; have : nl = 1 := h1; omega)
            rw [z] at h2
            have h2 : (9 : Nat) < nl := h2
            omega
          have e24 : σ2 24 = σ1 24 := hH.1 24 (by omega)
          refine ⟨721, s_FL (n := nl) (srt := srt) (va := fun w => pVT (σ 89) a w (nI 0)) (vb := fun w => pVT (σ 89) b w (nI 0)) (tf := fun len => pTurn (σ 89 1) (nl - len + 0)) (gain := gain) (σ0 := σ2) h6 hm hlt16 (fun j hj => ?_) (fun c hc => by rw [e24, hS.2.1]; rfl) hg 720 0 (List.range nl) none σ2 (by omega) hor0 h9 ⟨fun _ _ _ _ _ _ _ _ => rfl, rfl, by rw [e24]; exact hS.2.2.1, fun j hj => ?_⟩ (fun g q e => by cases e) (fun σ3 l' hD hL => ?_)⟩
          · obtain ⟨i, hi, e⟩ := hI.1 j hj
            have h2 := (hS.2.2.2 i hi).2
            rw [hH.1 27 (by omega), hH.1 28 (by omega), e]
            exact h2
          · rw [hH.2 j hj, List.getD_eq_getElem?_getD, List.getElem?_range hj]
            rfl
          · have hF : ∀ c, (c < 24 ∨ 34 < c) → σ3 c = σ c := fun c hc => by
              rw [hD.1 c (by omega) (by omega) (by omega) (by omega) (by omega) (by omega) (by omega), hH.1 c (by omega), hS.1 c (by omega) (by omega) (by omega) (by omega)]
            have hne := ld_some (gain := gain) (prC nl 720 (List.range nl)) none (Or.inr (by rw [prC, if_neg h9]; simp))
            obtain ⟨O, hO⟩ : ∃ O, O = (prC nl 720 (List.range nl)).foldl (ldU gain) none := ⟨_, rfl⟩
            rw [← hO] at hne hL ⊢
            have fin : ∀ v : Int32, v = (if x3 = (-1 : Int32) then encL O else fnd nl srt x3 O) → wM_laid (nI a) (nI b) x3 σ3 (fun r2 σ2 => v = r2 ∧ pInv k σ2) := fun v hv => by
              refine hMod σ3 _ srt gain (hF 89 (by omega)) hm hI hg (fun τ' g1 => ⟨by rw [hv, hO], ?_⟩)
              exact pInv_same (fun c hc => by rw [g1 c (by omega) (by omega) (by omega) (by omega), hF c (by omega)]) (fun c c1 c2 => by rw [g1 c (by omega) (by omega) (by omega) (by omega), hF c (by omega)]) (fun c c1 c2 => by rw [g1 c (by omega) (by omega) (by omega) (by omega), hF c (by omega)]) h
            cases O with
            | none => exact absurd rfl hne
            | some gc =>
              obtain ⟨g, q⟩ := gc
              obtain ⟨l1, l2, l3⟩ := hL g q rfl
              rcases i_nat x3 with hng | ⟨y, hy, rfl⟩
              · have hm1 : x3 = -1 := by
                  rw [i_lt] at hng
                  rw [i_le] at hx
                  have hx : -1 ≤ x3.toInt := hx
                  have hng : x3.toInt < 0 := hng
                  exact i_eq.mpr (show x3.toInt = -1 by omega)
                subst hm1
                have q0 : ¬ nI 0 ≤ (-1 : Int32) := by decide
                simp only [q0, Nat.le_refl, Nat.reduceLeDiff, Nat.reduceLT, Nat.reduceEqDiff, Nat.reduceAdd, Nat.reduceMul, Nat.reduceSub, forall_eq, true_and, and_true, not_true_eq_false, not_false_eq_true, false_implies, true_implies, implies_true, if_true, if_false, ite_self]
                exact fin _ (by rw [if_pos rfl])
              · rw [nI_ltI2 hy (by omega)] at hlt
                have q1 := nI_nm1 y hy
                simp (disch := first | assumption | omega | decide) only [nI_leI2, Nat.zero_le, Nat.le_refl, Nat.reduceLeDiff, Nat.reduceLT, Nat.reduceEqDiff, Nat.reduceAdd, Nat.reduceMul, Nat.reduceSub, forall_eq, true_and, and_true, not_true_eq_false, not_false_eq_true, false_implies, true_implies, implies_true, if_true, if_false, ite_self, vinT, nI_clamp, l1]
                refine fin _ ?_
                rw [if_neg q1]
                unfold fnd
                simp only
                rw [pB_in hlt (by omega), if_neg n01, nI_clamp hy]
        · have hxn : ¬ x3 = (-1 : Int32) := fun z => hlt (by rw [z]; exact m1_lt nl (by omega))
          have hpB : pB x3 nl = nI 0 := by
            rcases i_in x3 nl (by omega) with ⟨i, hi, rfl⟩ | ⟨e, -⟩
            · exact absurd (by rw [nI_ltI2 (by omega) (by omega)]; exact hi) hlt
            · exact e
          simp (disch := first | assumption | omega | decide) only [Nat.le_refl, Nat.reduceLeDiff, Nat.reduceLT, Nat.reduceEqDiff, Nat.reduceAdd, Nat.reduceMul, Nat.reduceSub, forall_eq, true_and, and_true, not_true_eq_false, not_false_eq_true, false_implies, true_implies, implies_true, if_true, if_false, ite_self, hx, hlt, e5, nI_leI2, h6]
          obtain ⟨srt, hI, hm⟩ := ex_sort hinj
          have hsw : ∀ j, j < nl → srt j < nw := fun j hj => by
            obtain ⟨i, hi, e⟩ := hI.1 j hj
            rw [e]; exact (hW.2.2.2.2.2.2.2.2.1 i hi).1
          refine hMod σ _ srt (fun l => (pG (fun i => pVT (σ 89) a (srt (l.getD i 0)) (nI 0)) (fun i => pVT (σ 89) b (srt (l.getD i 0)) (nI 0)) (fun len => pTurn (σ 89 1) (nl - len + 0)) nl 0).1.toNatClampNeg) rfl hm hI (fun l hl => ?_) (fun τ' g1 => ⟨?_, ?_⟩)
          · obtain ⟨u, v, u1, v1, e⟩ := pG_nI (tf := fun len => pTurn (σ 89 1) (nl - len + 0)) (la := fun i => pVT (σ 89) a (srt (l.getD i 0)) (nI 0)) (lb := fun i => pVT (σ 89) b (srt (l.getD i 0)) (nI 0)) nl 0 (by omega) (fun j _ hj => by
              have hw := hsw _ (hl.2 j (by omega))
              exact ⟨pVT_nI (by omega) hW a hw (by omega), pVT_nI (by omega) hW b hw (by omega)⟩)
            have hbd := pBd_16 (len := nl) (by omega)
            simp only [e]
            rw [nI_clamp (by omega)]
            exact ⟨by omega, rfl⟩
          · rw [if_neg hxn]
            unfold fnd
            split
            · rfl
            · rw [if_pos hpB]
          · exact pInv_same (fun c hc => g1 c (by omega) (by omega) (by omega) (by omega)) (fun c c1 c2 => g1 c (by omega) (by omega) (by omega) (by omega)) (fun c c1 c2 => g1 c (by omega) (by omega) (by omega) (by omega)) h
      · have hm : wM_laid (nI a) (nI b) x3 σ (fun r2 σ2 => (-1000003 : Int32) = r2 ∧ pInv k σ2) := by
          unfold wM_laid
          rw [eM σ _ hW.1]
          simp (disch := first | assumption | omega | decide) only [Nat.le_refl, Nat.reduceLeDiff, Nat.reduceLT, Nat.reduceEqDiff, Nat.reduceAdd, Nat.reduceMul, Nat.reduceSub, forall_eq, true_and, and_true, not_true_eq_false, not_false_eq_true, false_implies, true_implies, implies_true, if_true, if_false, ite_self, n01, hx, e5', nI_leI2, h6]
          exact h
        simp (disch := first | assumption | omega | decide) only [Nat.le_refl, Nat.reduceLeDiff, Nat.reduceLT, Nat.reduceEqDiff, Nat.reduceAdd, Nat.reduceMul, Nat.reduceSub, forall_eq, true_and, and_true, not_true_eq_false, not_false_eq_true, false_implies, true_implies, implies_true, if_true, if_false, ite_self, hx, e5, nI_leI2, h6]
        exact hm
    · have hm : wM_laid (nI a) (nI b) x3 σ (fun r2 σ2 => (-1000001 : Int32) = r2 ∧ pInv k σ2) := by
        unfold wM_laid
        rw [eM σ _ hW.1]
        simp only [Nat.le_refl, Nat.reduceLeDiff, Nat.reduceLT, Nat.reduceEqDiff, Nat.reduceAdd, Nat.reduceMul, Nat.reduceSub, forall_eq, true_and, and_true, not_true_eq_false, not_false_eq_true, false_implies, true_implies, implies_true, if_true, if_false, ite_self, n01, hx]
        exact h
      simp only [Nat.le_refl, Nat.reduceLeDiff, Nat.reduceLT, Nat.reduceEqDiff, Nat.reduceAdd, Nat.reduceMul, Nat.reduceSub, forall_eq, true_and, and_true, not_true_eq_false, not_false_eq_true, false_implies, true_implies, implies_true, if_true, if_false, ite_self, hx]
      exact hm
  · rw [eH]
    simp only [n01, Nat.le_refl, Nat.reduceLeDiff, Nat.reduceLT, Nat.reduceEqDiff, Nat.reduceAdd, Nat.reduceMul, Nat.reduceSub, forall_eq, true_and, and_true, not_true_eq_false, not_false_eq_true, false_implies, true_implies, implies_true, if_true, if_false, ite_self]
    unfold wM_laid
    rw [eM σ _ hW.1]
    simp only [Nat.le_refl, Nat.reduceLeDiff, Nat.reduceLT, Nat.reduceEqDiff, Nat.reduceAdd, Nat.reduceMul, Nat.reduceSub, forall_eq, true_and, and_true, not_true_eq_false, not_false_eq_true, false_implies, true_implies, implies_true, if_true, if_false, ite_self]
    exact h
