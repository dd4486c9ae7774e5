/-! APART -/
def pS (v : Nat → Nat) : Nat → Nat
  | 0 => 0
  | i + 1 => pS v i + v i
theorem pS_mono {v : Nat → Nat} {a : Nat} : ∀ d, pS v a ≤ pS v (a + d)
  | 0 => Nat.le_refl _
  | d + 1 => Nat.le_trans (pS_mono d) (Nat.le_add_right _ _)
theorem pS_le {v : Nat → Nat} {a b : Nat} (h : a ≤ b) : pS v a ≤ pS v b := by
  have := pS_mono (v := v) (a := a) (b - a)
  rw [show a + (b - a) = b by omega] at this
  exact this
theorem pS_bd {v : Nat → Nat} : ∀ n, (∀ j, j < n → v j ≤ 6000) → pS v n ≤ pBd n
  | 0, _ => Nat.zero_le _
  | n + 1, h => by
    have h1 := pS_bd n (fun j hj => h j (by omega))
    have h2 := h n (by omega)
    rw [pBd_s, pS]
    omega
def mnN (d : Nat → Nat) : Nat → Nat → Nat → Nat
  | 0, _, a => a
  | m + 1, t, a => mnN d m (t + 1) (if d t < a then d t else a)
def mxN (d : Nat → Nat) : Nat → Nat → Nat → Nat
  | 0, _, a => a
  | m + 1, t, a => mxN d m (t + 1) (if d t ≤ a then a else d t)
theorem mn_mx {d e : Nat → Nat} {T : Nat} : ∀ (m t a : Nat), a ≤ T → (∀ j, t ≤ j → j < t + m → d j ≤ T ∧ e j = T - d j) → T - mnN d m t a = mxN e m t (T - a) ∧ mnN d m t a ≤ T
  | 0, _, _, h, _ => ⟨rfl, h⟩
  | m + 1, t, a, h, hd => by
    obtain ⟨h1, h2⟩ := hd t (by omega) (by omega)
    rw [mnN, mxN]
    by_cases q : d t < a
    · rw [if_pos q, if_neg (by omega), h2]
      exact mn_mx m (t + 1) _ h1 (fun j a b => hd j (by omega) (by omega))
    · rw [if_neg q, if_pos (by omega)]
      exact mn_mx m (t + 1) _ h (fun j a b => hd j (by omega) (by omega))
theorem mxN_le {e : Nat → Nat} {T : Nat} : ∀ (m t a : Nat), a ≤ T → (∀ j, t ≤ j → j < t + m → e j ≤ T) → mxN e m t a ≤ T
  | 0, _, _, h, _ => h
  | m + 1, t, a, h, he => by
    rw [mxN]
    refine mxN_le m (t + 1) _ ?_ (fun j a b => he j (by omega) (by omega))
    split
    · exact h
    · exact he t (by omega) (by omega)
theorem mxN_s (d : Nat → Nat) (m t a : Nat) : mxN d (m + 1) t a = mxN d m (t + 1) (if d t ≤ a then a else d t) := rfl
theorem mxN_congr {d e : Nat → Nat} : ∀ (m t a : Nat), (∀ j, t ≤ j → j < t + m → d j = e j) → mxN d m t a = mxN e m t a
  | 0, _, _, _ => rfl
  | m + 1, t, a, h => by
    rw [mxN, mxN, h t (by omega) (by omega), mxN_congr m (t + 1) _ (fun j a b => h j (by omega) (by omega))]
def mxP (F : Nat → Nat) (lo hi : Nat) : Nat → Nat → Nat → Nat
  | 0, _, a => a
  | m + 1, t, a => mxP F lo hi m (t + 1) (if lo ≤ t ∧ t ≤ hi then (if F t ≤ a then a else F t) else a)
theorem mxP_add {F : Nat → Nat} {lo hi : Nat} : ∀ (m m2 t a : Nat), mxP F lo hi (m + m2) t a = mxP F lo hi m2 (t + m) (mxP F lo hi m t a)
  | 0, m2, t, a => by rw [Nat.zero_add]; rfl
  | m + 1, m2, t, a => by
    rw [show m + 1 + m2 = (m + m2) + 1 by omega, mxP, mxP_add m m2, mxP, show t + 1 + m = t + (m + 1) by omega]
theorem mxP_out {F : Nat → Nat} {lo hi : Nat} : ∀ (m t a : Nat), (∀ j, t ≤ j → j < t + m → ¬ (lo ≤ j ∧ j ≤ hi)) → mxP F lo hi m t a = a
  | 0, _, _, _ => rfl
  | m + 1, t, a, h => by
    rw [mxP, if_neg (h t (by omega) (by omega)), mxP_out m (t + 1) _ (fun j a b => h j (by omega) (by omega))]
theorem mxP_in {F : Nat → Nat} {lo hi : Nat} : ∀ (m t a : Nat), (∀ j, t ≤ j → j < t + m → (lo ≤ j ∧ j ≤ hi)) → mxP F lo hi m t a = mxN F m t a
  | 0, _, _, _ => rfl
  | m + 1, t, a, h => by
    rw [mxP, mxN, if_pos (h t (by omega) (by omega)), mxP_in m (t + 1) _ (fun j a b => h j (by omega) (by omega))]
theorem mxP_mxN {F : Nat → Nat} {lo hi x : Nat} (h1 : lo ≤ hi) (h2 : hi ≤ x) : mxP F lo hi (x + 1) 0 0 = mxN F (hi + 1 - lo) lo 0 := by
  have e : x + 1 = (lo + (hi + 1 - lo)) + (x - hi) := by omega
  rw [e, mxP_add (lo + (hi + 1 - lo)) (x - hi), mxP_add lo (hi + 1 - lo), mxP_out lo 0 0 (fun j a b => by omega), mxP_in (hi + 1 - lo) (0 + lo) _ (fun j a b => by omega), mxP_out (x - hi) _ _ (fun j a b => by omega), Nat.zero_add]
/-- of a stall from lo on, of sz wares, n taken, l of them from its left: what they are worth -/
def stE (v : Nat → Nat) (lo sz n l : Nat) : Nat := (pS v (lo + l) - pS v lo) + (pS v (lo + sz) - pS v (lo + l + (sz - n)))
def stM (v : Nat → Nat) (lo sz n : Nat) : Nat := mxN (stE v lo sz n) (n + 1) 0 0
theorem stE_le {v : Nat → Nat} {lo sz n l : Nat} (hn : n ≤ sz) (hl : l ≤ n) : stE v lo sz n l ≤ pS v (lo + sz) - pS v lo := by
  have a1 := pS_le (v := v) (a := lo) (b := lo + l) (by omega)
  have a2 := pS_le (v := v) (a := lo + l) (b := lo + l + (sz - n)) (by omega)
  have a3 := pS_le (v := v) (a := lo + l + (sz - n)) (b := lo + sz) (by omega)
  unfold stE
  omega
theorem stM_le {v : Nat → Nat} {lo sz n : Nat} (hn : n ≤ sz) : stM v lo sz n ≤ pS v (lo + sz) - pS v lo := mxN_le _ _ _ (Nat.zero_le _) (fun j _ hj => stE_le hn (by omega))
theorem stM_mn {v : Nat → Nat} {lo sz n : Nat} (hn : n ≤ sz) : pS v (lo + sz) - pS v lo - mnN (fun l => pS v (lo + l + (sz - n)) - pS v (lo + l)) (n + 1) 0 (pS v (lo + (sz - n)) - pS v lo) = stM v lo sz n ∧ mnN (fun l => pS v (lo + l + (sz - n)) - pS v (lo + l)) (n + 1) 0 (pS v (lo + (sz - n)) - pS v lo) ≤ pS v (lo + sz) - pS v lo := by
  have hd : ∀ j, 0 ≤ j → j < 0 + (n + 1) → (pS v (lo + j + (sz - n)) - pS v (lo + j)) ≤ pS v (lo + sz) - pS v lo ∧ stE v lo sz n j = pS v (lo + sz) - pS v lo - (pS v (lo + j + (sz - n)) - pS v (lo + j)) := fun j _ hj => by
    have a1 := pS_le (v := v) (a := lo) (b := lo + j) (by omega)
    have a2 := pS_le (v := v) (a := lo + j) (b := lo + j + (sz - n)) (by omega)
    have a3 := pS_le (v := v) (a := lo + j + (sz - n)) (b := lo + sz) (by omega)
    unfold stE
    omega
  have h0 := hd 0 (by omega) (by omega)
  simp only [Nat.add_zero] at h0
  have key := mn_mx (d := fun l => pS v (lo + l + (sz - n)) - pS v (lo + l)) (e := stE v lo sz n) (n + 1) 0 (pS v (lo + (sz - n)) - pS v lo) h0.1 hd
  refine ⟨?_, key.2⟩
  rw [key.1, ← h0.2]
  unfold stM
  rw [mxN_s _ n 0 0, mxN_s _ n 0 (stE v lo sz n 0), ite_self]
  by_cases q : stE v lo sz n 0 ≤ 0
  · rw [if_pos q]
    congr 1
    omega
  · rw [if_neg q]
section Apart
variable {k nb nw nl b : Nat} {N : Nat → Int32} {hp v : Nat → Nat} {σ σ0 : gM}
def pF39 (σ0 σ : gM) : Prop := ∀ c, c ≠ 39 → σ c = σ0 c
theorem s_addUp_l (hM : pMk σ0 42 N nb nw nl) (hW : pWF k N nb nw nl hp) (hb : b < nb) (hv : ∀ j, j < nl → pVT N b (hp j) (nI 0) = nI (v j)) {Q : gM → Prop} (hQ : ∀ σ', pF39 σ0 σ' → (∀ j, j ≤ nl → σ' 39 j = nI (pS v j)) → Q σ') : ∀ (m i : Nat) (σ : gM), i + m = nl → pF39 σ0 σ → (∀ j, j ≤ i → σ 39 j = nI (pS v j)) → wS_addUp_l9 Q (m + 1) (nI b) (nI i) σ := by
  have hn : nw ≤ 16 := hW.2.2.2.2.1
  have hl : nl ≤ nw := hW.2.2.2.2.2.1
  intro m
  induction m with
  | zero =>
    intro i σ hi hF h
    have : i = nl := by omega
    subst this
    have e5 : σ 42 5 = nI i := by rw [hF 42 (by omega)]; exact hM.2.2.2.2.1
    rw [wS_addUp_l9]
    simp (disch := first | assumption | omega | decide) only [nI_leI2, nI_ltI2, nI_eqI, nI_add, nI_sub, pk_mul, nI_clamp, vinT, Nat.add_sub_cancel, Nat.le_refl, Nat.reduceLeDiff, Nat.reduceLT, Nat.reduceEqDiff, Nat.reduceAdd, Nat.reduceMul, Nat.reduceSub, forall_eq, true_and, and_true, not_true_eq_false, not_false_eq_true, false_implies, true_implies, implies_true, if_true, if_false, ite_self, e5]
    exact hQ σ hF h
  | succ m ih =>
    intro i σ hi hF h
    have q : ¬ nl ≤ i := by omega
    have hMf : pMk σ 42 N nb nw nl := pMk_fr (fun i _ _ => by rw [hF 42 (by omega)]) (fun c c1 c2 => hF c (by omega)) hM
    have e5 : σ 42 5 = nI nl := hMf.2.2.2.2.1
    have hh := hW.2.2.2.2.2.2.2.2.1 i (by omega)
    have eh : σ 51 i = nI (hp i) := (hMf.2.2.2.2.2.2.2 i (by omega)).trans hh.2.1
    have es := h i (Nat.le_refl _)
    have ev := hv i (by omega)
    rw [wS_addUp_l9]
    simp (disch := first | assumption | omega | decide) only [nI_leI2, nI_ltI2, nI_eqI, nI_add, nI_sub, pk_mul, nI_clamp, vinT, Nat.add_sub_cancel, Nat.le_refl, Nat.reduceLeDiff, Nat.reduceLT, Nat.reduceEqDiff, Nat.reduceAdd, Nat.reduceMul, Nat.reduceSub, forall_eq, true_and, and_true, not_true_eq_false, not_false_eq_true, false_implies, true_implies, implies_true, if_true, if_false, ite_self, e5, q, eh, eK_valueTo hMf hW hb hh.1, es, ev]
    refine ih (i + 1) _ (by omega) (fun c hc => by rw [gU_ne hc]; exact hF c hc) (fun j hj => ?_)
    by_cases e : j = i + 1
    · subst e
      rw [gU_eq]
      rfl
    · rw [gU_off e]
      exact h j (by omega)
theorem s_stall_l {Q : Int32 → gM → Prop} (hn : nl ≤ 16) (hv : ∀ j, j < nl → v j ≤ 6000) (hs : ∀ j, j ≤ nl → σ 39 j = nI (pS v j)) {lo sz n : Nat} (hls : lo + sz ≤ nl) (hns : n ≤ sz) {T : Nat} (hT : T = pS v (lo + sz) - pS v lo) : ∀ (m t a : Nat), t + m = n + 1 → mnN (fun l => pS v (lo + l + (sz - n)) - pS v (lo + l)) m t a ≤ T → a ≤ 96000 → Q (nI (T - mnN (fun l => pS v (lo + l + (sz - n)) - pS v (lo + l)) m t a)) σ → wS_mostOfStall_l26 Q (m + 1) (nI lo) (nI sz) (nI n) (nI (sz - n)) (nI a) (nI (lo + t)) σ := by
  intro m
  induction m with
  | zero =>
    intro t a ht ha hab h
    have q : lo + n < lo + t := by omega
    have e1 := hs (lo + sz) hls
    have e2 := hs lo (by omega)
    have e3 := pS_le (v := v) (a := lo) (b := lo + sz) (by omega)
    rw [mnN] at ha h
    rw [wS_mostOfStall_l26]
    rw [hT] at ha h
    simp (disch := first | assumption | omega | decide) only [nI_leI2, nI_ltI2, nI_eqI, nI_add, nI_sub, pk_mul, nI_clamp, vinT, Nat.add_sub_cancel, Nat.le_refl, Nat.reduceLeDiff, Nat.reduceLT, Nat.reduceEqDiff, Nat.reduceAdd, Nat.reduceMul, Nat.reduceSub, forall_eq, true_and, and_true, not_true_eq_false, not_false_eq_true, false_implies, true_implies, implies_true, if_true, if_false, ite_self, q, e1, e2]
    exact h
  | succ m ih =>
    intro t a ht ha hab h
    have q : ¬ lo + n < lo + t := by omega
    have e1 := hs (lo + t + (sz - n)) (by omega)
    have e2 := hs (lo + t) (by omega)
    have e3 := pS_le (v := v) (a := lo + t) (b := lo + t + (sz - n)) (by omega)
    have e4 := pS_le (v := v) (a := lo + t + (sz - n)) (b := nl) (by omega)
    have e5 := pS_bd nl hv
    have e6 := pBd_16 hn
    rw [mnN] at ha h
    rw [wS_mostOfStall_l26]
    simp (disch := first | assumption | omega | decide) only [nI_leI2, nI_ltI2, nI_eqI, nI_add, nI_sub, pk_mul, nI_clamp, vinT, Nat.add_sub_cancel, Nat.le_refl, Nat.reduceLeDiff, Nat.reduceLT, Nat.reduceEqDiff, Nat.reduceAdd, Nat.reduceMul, Nat.reduceSub, forall_eq, true_and, and_true, not_true_eq_false, not_false_eq_true, false_implies, true_implies, implies_true, if_true, if_false, ite_self, q, e1, e2]
    by_cases q2 : pS v (lo + t + (sz - n)) - pS v (lo + t) < a
    · rw [if_pos q2] at ha h
      rw [if_pos q2]
      exact ih (t + 1) _ (by omega) ha (by omega) h
    · rw [if_neg q2] at ha h
      rw [if_neg q2]
      exact ih (t + 1) _ (by omega) ha hab h
theorem s_stall {Q : Int32 → gM → Prop} (hn : nl ≤ 16) (hv : ∀ j, j < nl → v j ≤ 6000) (hs : ∀ j, j ≤ nl → σ 39 j = nI (pS v j)) {lo sz n : Nat} (hls : lo + sz ≤ nl) (hns : n ≤ sz) (h : Q (nI (stM v lo sz n)) σ) : wS_mostOfStall (nI lo) (nI sz) (nI n) σ Q := by
  obtain ⟨k1, k2⟩ := stM_mn (v := v) (lo := lo) hns
  have e1 := hs (lo + (sz - n)) (by omega)
  have e2 := hs lo (by omega)
  have e3 := pS_le (v := v) (a := lo) (b := lo + (sz - n)) (by omega)
  have e4 := pS_le (v := v) (a := lo + (sz - n)) (b := nl) (by omega)
  have e5 := pS_bd nl hv
  have e6 := pBd_16 hn
  unfold wS_mostOfStall
  simp (disch := first | assumption | omega | decide) only [nI_leI2, nI_ltI2, nI_eqI, nI_add, nI_sub, pk_mul, nI_clamp, vinT, Nat.add_sub_cancel, Nat.le_refl, Nat.reduceLeDiff, Nat.reduceLT, Nat.reduceEqDiff, Nat.reduceAdd, Nat.reduceMul, Nat.reduceSub, forall_eq, true_and, and_true, not_true_eq_false, not_false_eq_true, false_implies, true_implies, implies_true, if_true, if_false, ite_self, e1, e2]
  refine ⟨n + 1 + 1, ?_⟩
  have key := s_stall_l (Q := Q) (T := pS v (lo + sz) - pS v lo) hn hv hs hls hns rfl (n + 1) 0 (pS v (lo + (sz - n)) - pS v lo) (by omega) k2 (by omega) (by rw [k1]; exact h)
  exact key
theorem lt_sub2 {a b c : Nat} (ha : a < 2147483648) (hb : b < 2147483648) (hc : c < 2147483648) : (nI c < nI a - nI b) = (b + c < a) := propext (by rw [i_lt, sub_I ha hb, nI_I hc]; omega)
theorem s_mostApart_l {Q : Int32 → gM → Prop} (hn : nl ≤ 16) (hv : ∀ j, j < nl → v j ≤ 6000) (hs : ∀ j, j ≤ nl → σ 39 j = nI (pS v j)) {p x hi : Nat} (hp' : p ≤ nl) (hx : x ≤ nl) (hhi : hi = if x < p then x else p) : ∀ (m t a : Nat), t + m = hi + 1 → x - (nl - p) ≤ t → a ≤ 192000 → Q (nI (mxN (fun t => stM v 0 p t + stM v p (nl - p) (x - t)) m t a)) σ → wS_mostApart_l28 Q (m + 1) (nI p) (nI x) (nI (nl - p)) (nI a) (nI t) σ := by
  have hh : hi ≤ x ∧ hi ≤ p := by rw [hhi]; split <;> omega
  have hmin : (if nI x < nI p then nI x else nI p) = nI hi := by
    rw [hhi]
    simp (disch := first | assumption | omega | decide) only [nI_ltI2]
    split <;> rfl
  have e5 := pS_bd nl hv
  have e6 := pBd_16 hn
  intro m
  induction m with
  | zero =>
    intro t a ht hlo ha h
    have q : hi < t := by omega
    rw [wS_mostApart_l28, hmin]
    simp (disch := first | assumption | omega | decide) only [nI_leI2, nI_ltI2, nI_eqI, nI_add, nI_sub, pk_mul, nI_clamp, vinT, Nat.add_sub_cancel, Nat.le_refl, Nat.reduceLeDiff, Nat.reduceLT, Nat.reduceEqDiff, Nat.reduceAdd, Nat.reduceMul, Nat.reduceSub, forall_eq, true_and, and_true, not_true_eq_false, not_false_eq_true, false_implies, true_implies, implies_true, if_true, if_false, ite_self, q]
    exact h
  | succ m ih =>
    intro t a ht hlo ha h
    have q : ¬ hi < t := by omega
    have s1 := stM_le (v := v) (lo := 0) (sz := p) (n := t) (by omega)
    have s2 := stM_le (v := v) (lo := p) (sz := nl - p) (n := x - t) (by omega)
    have s3 := pS_le (v := v) (a := 0 + p) (b := nl) (by omega)
    rw [show p + (nl - p) = nl by omega] at s2
    rw [mxN] at h
    rw [wS_mostApart_l28, hmin]
    simp (disch := first | assumption | omega | decide) only [nI_leI2, nI_ltI2, nI_eqI, nI_add, nI_sub, pk_mul, nI_clamp, vinT, Nat.add_sub_cancel, Nat.le_refl, Nat.reduceLeDiff, Nat.reduceLT, Nat.reduceEqDiff, Nat.reduceAdd, Nat.reduceMul, Nat.reduceSub, forall_eq, true_and, and_true, not_true_eq_false, not_false_eq_true, false_implies, true_implies, implies_true, if_true, if_false, ite_self, q]
    refine s_stall hn hv hs (by omega) (by omega) ?_
    refine s_stall hn hv hs (by omega) (by omega) ?_
    simp (disch := first | assumption | omega | decide) only [nI_add, nI_ltI2, forall_eq]
    by_cases q2 : stM v 0 p t + stM v p (nl - p) (x - t) ≤ a
    · rw [if_pos q2] at h
      rw [if_neg (by omega)]
      exact ih (t + 1) _ (by omega) (by omega) ha h
    · rw [if_neg q2] at h
      rw [if_pos (by omega)]
      exact ih (t + 1) _ (by omega) (by omega) (by omega) h
/-- the reference's sum of a stall -/
theorem s_mo_in {K6 : Int32 → Int32 → Int32 → Int32 → Int32 → Int32 → gM → Prop} {Q : Int32 → gM → Prop} (hW : pWF k (σ 89) nb nw nl hp) (hb : b < nb) (hv : ∀ j, j < nl → pVT (σ 89) b (hp j) (nI 0) = nI (v j)) {lo sz n l a : Nat} (hls : lo + sz ≤ nl) (hns : n ≤ sz) (hln : l ≤ n)
    (hK : K6 (nI b) (nI lo) (nI (lo + sz)) (nI n) (if nI (stE v lo sz n l) ≤ nI a then nI a else nI (stE v lo sz n l)) (nI (l + 1)) σ) : ∀ (m j c : Nat), j + m = lo + sz → lo ≤ j → c = (if j < lo + l then pS v j - pS v lo else pS v (lo + l) - pS v lo) + (if lo + l + (sz - n) < j then pS v j - pS v (lo + l + (sz - n)) else 0) → wM_mostOf_l19 Q K6 (m + 1) (nI b) (nI lo) (nI (lo + sz)) (nI n) (nI a) (nI l) (nI c) (nI j) σ := by
  have hn : nw ≤ 16 := hW.2.2.2.2.1
  have hl : nl ≤ nw := hW.2.2.2.2.2.1
  have hnb : nb ≤ 4 := hW.2.2.2.1
  have eB : lo + sz - n + l = lo + l + (sz - n) := by omega
  intro m
  induction m with
  | zero =>
    intro j c hj hlo hc
    have : j = lo + sz := by omega
    subst this
    have ec : c = stE v lo sz n l := by
      rw [hc]
      unfold stE
      rw [if_neg (by omega)]
      by_cases q : lo + l + (sz - n) < lo + sz
      · rw [if_pos q]
      · rw [if_neg q, show lo + l + (sz - n) = lo + sz by omega, Nat.sub_self]
    rw [wM_mostOf_l19, ec]
    simp (disch := first | assumption | omega | decide) only [nI_leI2, nI_add, Nat.le_refl, forall_eq, true_implies, not_true_eq_false, false_implies, and_true]
    exact hK
  | succ m ih =>
    intro j c hj hlo hc
    have q : ¬ lo + sz ≤ j := by omega
    have hh := hW.2.2.2.2.2.2.2.2.1 j (by omega)
    have eh : σ 89 (86 + j) = nI (hp j) := hh.2.1
    have ev := hv j (by omega)
    have e1 := pS_le (v := v) (a := lo) (b := j) hlo
    rw [wM_mostOf_l19]
    by_cases q1 : j < lo + l
    · simp (disch := first | assumption | omega | decide) only [nI_leI2, nI_ltI2, nI_eqI, nI_add, nI_sub, pk_mul, nI_clamp, vinT, Nat.add_sub_cancel, Nat.le_refl, Nat.reduceLeDiff, Nat.reduceLT, Nat.reduceEqDiff, Nat.reduceAdd, Nat.reduceMul, Nat.reduceSub, forall_eq, true_and, and_true, not_true_eq_false, not_false_eq_true, false_implies, true_implies, implies_true, if_true, if_false, ite_self, q, q1, eM_heap, eh, eM_worthOf, ev]
      refine ih (j + 1) _ (by omega) (by omega) ?_
      rw [hc, if_pos q1, if_neg (c := lo + l + (sz - n) < j) (by omega), if_neg (c := lo + l + (sz - n) < j + 1) (by omega)]
      by_cases q2 : j + 1 < lo + l
      · rw [if_pos q2, pS]; omega
      · rw [if_neg q2, show lo + l = j + 1 by omega, pS]; omega
    · by_cases q2 : j < lo + l + (sz - n)
      · simp (disch := first | assumption | omega | decide) only [nI_leI2, nI_ltI2, nI_add, nI_sub, eB, forall_eq, Nat.le_refl, Nat.reduceLeDiff, Nat.reduceLT, Nat.reduceEqDiff, Nat.reduceAdd, Nat.reduceMul, Nat.reduceSub, forall_eq, true_and, and_true, not_true_eq_false, not_false_eq_true, false_implies, true_implies, implies_true, if_true, if_false, ite_self, q, q1, q2, Nat.add_zero]
        refine ih (j + 1) _ (by omega) (by omega) ?_
        rw [hc, if_neg q1, if_neg (c := j + 1 < lo + l) (by omega), if_neg (c := lo + l + (sz - n) < j) (by omega), if_neg (c := lo + l + (sz - n) < j + 1) (by omega)]
      · simp (disch := first | assumption | omega | decide) only [nI_leI2, nI_ltI2, nI_add, nI_sub, eB, forall_eq, Nat.le_refl, Nat.reduceLeDiff, Nat.reduceLT, Nat.reduceEqDiff, Nat.reduceAdd, Nat.reduceMul, Nat.reduceSub, forall_eq, true_and, and_true, not_true_eq_false, not_false_eq_true, false_implies, true_implies, implies_true, if_true, if_false, ite_self, q, q1, q2, eM_heap, eh, eM_worthOf, ev]
        refine ih (j + 1) _ (by omega) (by omega) ?_
        have e2 := pS_le (v := v) (a := lo + l + (sz - n)) (b := j) (by omega)
        rw [hc, if_neg q1, if_neg (c := j + 1 < lo + l) (by omega), if_pos (c := lo + l + (sz - n) < j + 1) (by omega), pS]
        by_cases q3 : lo + l + (sz - n) < j
        · rw [if_pos q3]; omega
        · rw [if_neg q3, show lo + l + (sz - n) = j by omega]; omega
theorem s_mo {Q : Int32 → gM → Prop} (hW : pWF k (σ 89) nb nw nl hp) (hb : b < nb) (hv : ∀ j, j < nl → v j ≤ 6000 ∧ pVT (σ 89) b (hp j) (nI 0) = nI (v j)) {lo sz n : Nat} (hls : lo + sz ≤ nl) (hns : n ≤ sz) : ∀ (m t a : Nat), t + m = n + 1 → a ≤ 96000 → Q (nI (mxN (stE v lo sz n) m t a)) σ → wM_mostOf_l6 Q (m + 1) (nI b) (nI lo) (nI (lo + sz)) (nI n) (nI a) (nI t) σ := by
  have hn : nw ≤ 16 := hW.2.2.2.2.1
  have hl : nl ≤ nw := hW.2.2.2.2.2.1
  have e5 := pS_bd nl (fun j hj => (hv j hj).1)
  have e6 := pBd_16 (len := nl) (by omega)
  intro m
  induction m with
  | zero =>
    intro t a ht ha h
    have q : n < t := by omega
    rw [wM_mostOf_l6]
    simp (disch := first | assumption | omega | decide) only [nI_leI2, nI_ltI2, nI_eqI, nI_add, nI_sub, pk_mul, nI_clamp, vinT, Nat.add_sub_cancel, Nat.le_refl, Nat.reduceLeDiff, Nat.reduceLT, Nat.reduceEqDiff, Nat.reduceAdd, Nat.reduceMul, Nat.reduceSub, forall_eq, true_and, and_true, not_true_eq_false, not_false_eq_true, false_implies, true_implies, implies_true, if_true, if_false, ite_self, q]
    exact h
  | succ m ih =>
    intro t a ht ha h
    have q : ¬ n < t := by omega
    have s1 := stE_le (v := v) (lo := lo) (sz := sz) (n := n) (l := t) hns (by omega)
    have s3 := pS_le (v := v) (a := lo + sz) (b := nl) (by omega)
    rw [mxN] at h
    rw [wM_mostOf_l6]
    simp (disch := first | assumption | omega | decide) only [nI_ltI2, q, Nat.le_refl, Nat.reduceLeDiff, Nat.reduceLT, Nat.reduceEqDiff, Nat.reduceAdd, Nat.reduceMul, Nat.reduceSub, forall_eq, true_and, and_true, not_true_eq_false, not_false_eq_true, false_implies, true_implies, implies_true, if_true, if_false, ite_self]
    refine ⟨sz + 1, s_mo_in (v := v) hW hb (fun j hj => (hv j hj).2) hls hns (by omega) ?_ sz lo 0 (by omega) (Nat.le_refl _) ?_⟩
    · simp (disch := first | assumption | omega | decide) only [nI_leI2]
      by_cases q2 : stE v lo sz n t ≤ a
      · rw [if_pos q2] at h
        rw [if_pos q2]
        exact ih (t + 1) _ (by omega) ha h
      · rw [if_neg q2] at h
        rw [if_neg q2]
        exact ih (t + 1) _ (by omega) (by omega) h
    · rw [if_neg (c := lo + t + (sz - n) < lo) (by omega)]
      by_cases q2 : lo < lo + t
      · rw [if_pos q2]; omega
      · rw [if_neg q2, show lo + t = lo by omega]; omega
theorem s_apart_M {Q : Int32 → gM → Prop} (hW : pWF k (σ 89) nb nw nl hp) (hb : b < nb) (hv : ∀ j, j < nl → v j ≤ 6000 ∧ pVT (σ 89) b (hp j) (nI 0) = nI (v j)) {p x : Nat} (hp' : p ≤ nl) (hx : x ≤ nl) : ∀ (m t a : Nat), t + m = x + 1 → a ≤ 192000 → Q (nI (mxP (fun t => stM v 0 p t + stM v p (nl - p) (x - t)) (x - (nl - p)) (if x < p then x else p) m t a)) σ → wM_apart_l45 Q (m + 1) (nI b) (nI p) (nI x) (nI nl) (nI a) (nI t) σ := by
  have hn : nw ≤ 16 := hW.2.2.2.2.1
  have hl : nl ≤ nw := hW.2.2.2.2.2.1
  have e5 := pS_bd nl (fun j hj => (hv j hj).1)
  have e6 := pBd_16 (len := nl) (by omega)
  intro m
  induction m with
  | zero =>
    intro t a ht ha h
    have q : x < t := by omega
    rw [wM_apart_l45]
    simp (disch := first | assumption | omega | decide) only [nI_leI2, nI_ltI2, nI_eqI, nI_add, nI_sub, pk_mul, nI_clamp, vinT, Nat.add_sub_cancel, Nat.le_refl, Nat.reduceLeDiff, Nat.reduceLT, Nat.reduceEqDiff, Nat.reduceAdd, Nat.reduceMul, Nat.reduceSub, forall_eq, true_and, and_true, not_true_eq_false, not_false_eq_true, false_implies, true_implies, implies_true, if_true, if_false, ite_self, q]
    exact h
  | succ m ih =>
    intro t a ht ha h
    have q : ¬ x < t := by omega
    rw [mxP] at h
    rw [wM_apart_l45]
    by_cases q1 : p < t
    · rw [if_neg (c := _ ∧ _) (by split <;> omega)] at h
      simp (disch := first | assumption | omega | decide) only [nI_ltI2, q, q1, Nat.le_refl, Nat.reduceLeDiff, Nat.reduceLT, Nat.reduceEqDiff, Nat.reduceAdd, Nat.reduceMul, Nat.reduceSub, forall_eq, true_and, and_true, not_true_eq_false, not_false_eq_true, false_implies, true_implies, implies_true, if_true, if_false, ite_self, nI_add]
      exact ih (t + 1) _ (by omega) ha h
    · by_cases q2 : nl - p < x - t
      · rw [if_neg (c := _ ∧ _) (by omega)] at h
        simp (disch := first | assumption | omega | decide) only [nI_ltI2, q, q1, Nat.le_refl, Nat.reduceLeDiff, Nat.reduceLT, Nat.reduceEqDiff, Nat.reduceAdd, Nat.reduceMul, Nat.reduceSub, forall_eq, true_and, and_true, not_true_eq_false, not_false_eq_true, false_implies, true_implies, implies_true, if_true, if_false, ite_self, nI_add, nI_sub, q2]
        exact ih (t + 1) _ (by omega) ha h
      · rw [if_pos (c := _ ∧ _) (by split <;> omega)] at h
        have s1 := stM_le (v := v) (lo := 0) (sz := p) (n := t) (by omega)
        have s2 := stM_le (v := v) (lo := p) (sz := nl - p) (n := x - t) (by omega)
        have s3 := pS_le (v := v) (a := 0 + p) (b := nl) (by omega)
        rw [show p + (nl - p) = nl by omega] at s2
        simp (disch := first | assumption | omega | decide) only [nI_ltI2, q, q1, Nat.le_refl, Nat.reduceLeDiff, Nat.reduceLT, Nat.reduceEqDiff, Nat.reduceAdd, Nat.reduceMul, Nat.reduceSub, forall_eq, true_and, and_true, not_true_eq_false, not_false_eq_true, false_implies, true_implies, implies_true, if_true, if_false, ite_self, nI_add, nI_sub, q2, wM_mostOf]
        have k1 := fun (P : Int32 → gM → Prop) => s_mo (Q := P) (v := v) hW hb hv (lo := 0) (sz := p) (n := t) (by omega) (by omega) (t + 1) 0 0 (by omega) (by omega)
        have k2 := fun (P : Int32 → gM → Prop) => s_mo (Q := P) (v := v) hW hb hv (lo := p) (sz := nl - p) (n := x - t) (by omega) (by omega) (x - t + 1) 0 0 (by omega) (by omega)
        rw [show p + (nl - p) = nl by omega] at k2
        rw [Nat.zero_add] at k1
        refine ⟨t + 1 + 1, k1 _ ⟨x - t + 1 + 1, k2 _ ?_⟩⟩
        have f1 : mxN (stE v 0 p t) (t + 1) 0 0 = stM v 0 p t := rfl
        have f2 : mxN (stE v p (nl - p) (x - t)) (x - t + 1) 0 0 = stM v p (nl - p) (x - t) := rfl
        rw [f1, f2]
        simp (disch := first | assumption | omega | decide) only [nI_add, nI_leI2, forall_eq]
        by_cases q3 : stM v 0 p t + stM v p (nl - p) (x - t) ≤ a
        · rw [if_pos q3] at h
          rw [if_pos q3]
          exact ih (t + 1) _ (by omega) ha h
        · rw [if_neg q3] at h
          rw [if_neg q3]
          exact ih (t + 1) _ (by omega) (by omega) h
end Apart
theorem op_apart {k : Nat} {x1 x2 x3 : Int32} {σ : gM} (hk : k ≤ 100) (h : pInv k σ) : pBoth (wH_apart x1 x2 x3) (wM_apart x1 x2 x3) σ (pInv k) := by
  obtain ⟨nb, nw, nl, hp, hM, hW⟩ := h.2.2.2.2.2.2.1
  have hn : nw ≤ 16 := hW.2.2.2.2.1
  have hl : nl ≤ nw := hW.2.2.2.2.2.1
  have hnb : nb ≤ 4 := hW.2.2.2.1
  have e5 : σ 42 5 = nI nl := hM.2.2.2.2.1
  have e5' : σ 89 5 = nI nl := hW.2.2.1
  have n01 : ¬ nI 1 = nI 0 := by decide
  unfold pBoth wH_apart
  rw [eH_isNoBuyer hM.2.2.1]
  rcases i_in x1 nb (by omega) with ⟨b, hb, rfl⟩ | ⟨e1, e2⟩
  · rw [pNB_in hb (by omega)]
    have emb := fun τ (ht : τ 89 = σ 89) Q => (@eM_isBuyerAt (nI b) τ Q nb (by rw [ht]; exact hW.1) hnb).trans (by rw [pB_in hb (by omega)])
    rcases i_nat x2 with h2 | ⟨p, hp2, rfl⟩
    · simp (disch := first | assumption | omega | decide) only [nI_leI2, nI_ltI2, nI_eqI, nI_add, nI_sub, pk_mul, nI_clamp, vinT, Nat.add_sub_cancel, Nat.le_refl, Nat.reduceLeDiff, Nat.reduceLT, Nat.reduceEqDiff, Nat.reduceAdd, Nat.reduceMul, Nat.reduceSub, forall_eq, true_and, and_true, not_true_eq_false, not_false_eq_true, false_implies, true_implies, implies_true, if_true, if_false, ite_self, ng_lt, ng_le, ng_gt, ng_ge, ng_eq, ng_qe, wM_apart, emb σ rfl, n01, eM_in]
      exact h
    by_cases hpn : p ≤ nl
    · have hp3 : ¬ nl < p := by omega
      rcases i_nat x3 with h3 | ⟨x, hx2, rfl⟩
      · simp (disch := first | assumption | omega | decide) only [nI_leI2, nI_ltI2, nI_eqI, nI_add, nI_sub, pk_mul, nI_clamp, vinT, Nat.add_sub_cancel, Nat.le_refl, Nat.reduceLeDiff, Nat.reduceLT, Nat.reduceEqDiff, Nat.reduceAdd, Nat.reduceMul, Nat.reduceSub, forall_eq, true_and, and_true, not_true_eq_false, not_false_eq_true, false_implies, true_implies, implies_true, if_true, if_false, ite_self, ng_lt, ng_le, ng_gt, ng_ge, ng_eq, ng_qe, wM_apart, emb σ rfl, n01, eM_in, e5, e5', hp3, Nat.not_lt_zero]
        exact h
      by_cases hxn : x ≤ nl
      · have hx3 : ¬ nl < x := by omega
        obtain ⟨v, hv⟩ : ∃ v : Nat → Nat, ∀ j, j < nl → v j ≤ 6000 ∧ pVT (σ 89) b (hp j) (nI 0) = nI (v j) := by
          refine ⟨fun j => (pVT (σ 89) b (hp j) (nI 0)).toNatClampNeg, fun j hj => ?_⟩
          obtain ⟨m, m1, m2⟩ := pVT_nI (d := 0) (by omega) hW b (hW.2.2.2.2.2.2.2.2.1 j hj).1 (by omega)
          simp only [m2]
          rw [nI_clamp (by omega)]
          exact ⟨m1, rfl⟩
        simp (disch := first | assumption | omega | decide) only [nI_leI2, nI_ltI2, nI_eqI, nI_add, nI_sub, pk_mul, nI_clamp, vinT, Nat.add_sub_cancel, Nat.le_refl, Nat.reduceLeDiff, Nat.reduceLT, Nat.reduceEqDiff, Nat.reduceAdd, Nat.reduceMul, Nat.reduceSub, forall_eq, true_and, and_true, not_true_eq_false, not_false_eq_true, false_implies, true_implies, implies_true, if_true, if_false, ite_self, e5, hp3, Nat.not_lt_zero, hxn, wS_mostApart, wS_addUp]
        refine ⟨nl + 1, s_addUp_l (σ0 := σ) (v := v) hM hW hb (fun j hj => (hv j hj).2) (fun σ1 f1 f2 => ?_) nl 0 _ (by omega) (fun c hc => by rw [gU_ne hc]) (fun j hj => ?_)⟩
        · have elo : (if nI 0 < nI x - nI (nl - p) then nI x - nI (nl - p) else nI 0) = nI (x - (nl - p)) := by
            by_cases q : nl - p + 0 < x
            · rw [if_pos (by rw [lt_sub2 (by omega) (by omega) (by omega)]; exact q), nI_sub (by omega)]
            · rw [if_neg (by rw [lt_sub2 (by omega) (by omega) (by omega)]; exact q), show x - (nl - p) = 0 by omega]
          have hlohi : x - (nl - p) ≤ (if x < p then x else p) := by split <;> omega
          have hhix : (if x < p then x else p) ≤ x := by split <;> omega
          simp only [elo, forall_eq]
          refine ⟨(if x < p then x else p) + 1 - (x - (nl - p)) + 1, s_mostApart_l (v := v) (by omega) (fun j hj => (hv j hj).1) f2 hpn hxn rfl ((if x < p then x else p) + 1 - (x - (nl - p))) (x - (nl - p)) 0 (by omega) (Nat.le_refl _) (by omega) ?_⟩
          rw [← mxP_mxN hlohi hhix]
          have h89 : σ1 89 = σ 89 := f1 89 (by omega)
          unfold wM_apart
          simp (disch := first | assumption | omega | decide) only [nI_leI2, nI_ltI2, nI_eqI, nI_add, nI_sub, pk_mul, nI_clamp, vinT, Nat.add_sub_cancel, Nat.le_refl, Nat.reduceLeDiff, Nat.reduceLT, Nat.reduceEqDiff, Nat.reduceAdd, Nat.reduceMul, Nat.reduceSub, forall_eq, true_and, and_true, not_true_eq_false, not_false_eq_true, false_implies, true_implies, implies_true, if_true, if_false, ite_self, h89, e5', emb σ1 h89, n01, eM_in, hp3, hx3, Nat.not_lt_zero]
          refine ⟨x + 1 + 1, s_apart_M (v := v) (by rw [h89]; exact hW) hb (by rw [h89]; exact hv) hpn hxn (x + 1) 0 0 (by omega) (by omega) ⟨rfl, ?_⟩⟩
          exact pInv_same (fun c hc => f1 c (by omega)) (fun c c1 c2 => f1 c (by omega)) (fun c c1 c2 => f1 c (by omega)) h
        · have : j = 0 := by omega
          subst this
          rw [gU_eq]
          rfl
      · have hx3 : nl < x := by omega
        simp (disch := first | assumption | omega | decide) only [nI_leI2, nI_ltI2, nI_eqI, nI_add, nI_sub, pk_mul, nI_clamp, vinT, Nat.add_sub_cancel, Nat.le_refl, Nat.reduceLeDiff, Nat.reduceLT, Nat.reduceEqDiff, Nat.reduceAdd, Nat.reduceMul, Nat.reduceSub, forall_eq, true_and, and_true, not_true_eq_false, not_false_eq_true, false_implies, true_implies, implies_true, if_true, if_false, ite_self, wM_apart, emb σ rfl, n01, eM_in, e5, e5', hp3, hx3, hxn, Nat.not_lt_zero]
        exact h
    · have hp3 : nl < p := by omega
      simp (disch := first | assumption | omega | decide) only [nI_leI2, nI_ltI2, nI_eqI, nI_add, nI_sub, pk_mul, nI_clamp, vinT, Nat.add_sub_cancel, Nat.le_refl, Nat.reduceLeDiff, Nat.reduceLT, Nat.reduceEqDiff, Nat.reduceAdd, Nat.reduceMul, Nat.reduceSub, forall_eq, true_and, and_true, not_true_eq_false, not_false_eq_true, false_implies, true_implies, implies_true, if_true, if_false, ite_self, wM_apart, emb σ rfl, n01, eM_in, e5, e5', hp3, Nat.not_lt_zero]
      exact h
  · rw [e2]
    simp only [n01, Nat.le_refl, Nat.reduceLeDiff, Nat.reduceLT, Nat.reduceEqDiff, Nat.reduceAdd, Nat.reduceMul, Nat.reduceSub, forall_eq, true_and, and_true, not_true_eq_false, not_false_eq_true, false_implies, true_implies, implies_true, if_true, if_false, ite_self]
    unfold wM_apart
    simp only [forall_eq]
    rw [eM_isBuyerAt hW.1 hnb, e1]
    simp only [Nat.le_refl, Nat.reduceLeDiff, Nat.reduceLT, Nat.reduceEqDiff, Nat.reduceAdd, Nat.reduceMul, Nat.reduceSub, forall_eq, true_and, and_true, not_true_eq_false, not_false_eq_true, false_implies, true_implies, implies_true, if_true, if_false, ite_self]
    exact h
