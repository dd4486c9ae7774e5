/-! ASK -/
theorem pInv_mk {k : Nat} {σ σ' : gM} (h : pInv k σ) (hr : ∀ a, 2 ≤ a → a < 18 → σ' a = σ a) (h83 : σ' 83 = σ 83) (h84 : σ' 84 = σ 84) (h85 : σ' 85 = σ 85) (h1 : σ' 0 11 = σ 0 11) (h2 : σ' 82 3 = σ 82 3) (h3 : σ' 0 10 = σ' 82 11) (h4 : pTape σ') (h5 : pTrace σ') (h6 : pStands σ') (h7 : pMkt k σ') (h8 : ∀ a, 62 ≤ a → a ≤ 81 → σ' a = σ a) (h9 : σ' 90 = σ 90) (h10 : σ' 91 = σ 91) (h11 : pActs k σ') : pInv k σ' := by
  obtain ⟨a1, a2, a3, a4, a5, a6, a7, a8, a9, a10⟩ := h
  exact ⟨pRows_fr a1 (fun r hr' => hr _ (by omega) (by omega)) (fun r hr' => hr _ (by omega) (by omega)) h83 h84 h85, by rw [h1, h2]; exact a2, h3, h4, h5, h6, h7, pImg_fr (fun a b1 b2 => h8 a (by omega) (by omega)) h9 h10 a8, pImg_fr (fun a b1 b2 => h8 a (by omega) (by omega)) h9 h10 a9, h11⟩
/-- the trace, the latest first -/
def trAt : List Int32 → Nat → Int32
  | [], _ => 0
  | x :: r, i => if i = r.length then x else trAt r i
def pTrH (σ0 : gM) (bs : List Int32) (σ : gM) : Prop := (∀ c, c ≠ 0 → c ≠ 40 → σ c = σ0 c) ∧ (∀ j, j ≠ 9 → σ 0 j = σ0 0 j) ∧ σ 0 9 = nI bs.length ∧ ∀ i, i < bs.length → σ 40 i = trAt bs i
def pTrM (σ0 : gM) (bs : List Int32) (σ : gM) : Prop := (∀ c, c ≠ 82 → c ≠ 93 → σ c = σ0 c) ∧ (∀ j, j ≠ 22 → σ 82 j = σ0 82 j) ∧ σ 82 22 = nI bs.length ∧ ∀ i, i < bs.length → σ 93 i = trAt bs i
section Ask
variable {σ0 σ : gM} {bs : List Int32} {Q : Int32 → gM → Prop} {w kd : Nat} {wo ag : Int32}
theorem s_leaveH {x : Int32} {Q : gM → Prop} (h : pTrH σ0 bs σ) (hl : bs.length < 16) (hQ : ∀ σ', pTrH σ0 (x :: bs) σ' → Q σ') : wH_leave x σ Q := by
  obtain ⟨h1, h2, h3, h4⟩ := h
  have q : ¬ 16 ≤ bs.length := by omega
  unfold wH_leave
  simp (disch := first | assumption | omega | decide) only [h3, nI_leI2, nI_ltI2, nI_eqI, nI_add, nI_sub, pk_mul, nI_clamp, vinT, Nat.add_sub_cancel, Nat.le_refl, Nat.reduceLeDiff, Nat.reduceLT, Nat.reduceEqDiff, Nat.reduceAdd, Nat.reduceMul, Nat.reduceSub, forall_eq, true_and, and_true, not_true_eq_false, not_false_eq_true, false_implies, true_implies, implies_true, if_true, if_false, ite_self, q, gU_ne]
  refine hQ _ ⟨fun c c1 c2 => by rw [gU_ne c1, gU_ne c2]; exact h1 c c1 c2, fun j hj => by rw [gU_off hj, gU_ne (by omega)]; exact h2 j hj, gU_eq, fun i hi => ?_⟩
  rw [gU_ne (by omega), trAt]
  have hi : i < bs.length + 1 := hi
  by_cases e : i = bs.length
  · rw [if_pos e, e, gU_eq]
  · rw [if_neg e, gU_off e]
    exact h4 i (by omega)
theorem s_leaveM {x : Int32} {Q : gM → Prop} (h : pTrM σ0 bs σ) (hl : bs.length < 16) (hQ : ∀ σ', pTrM σ0 (x :: bs) σ' → Q σ') : wM_leave x σ Q := by
  obtain ⟨h1, h2, h3, h4⟩ := h
  have q : ¬ 16 ≤ bs.length := by omega
  unfold wM_leave
  simp (disch := first | assumption | omega | decide) only [h3, nI_leI2, nI_ltI2, nI_eqI, nI_add, nI_sub, pk_mul, nI_clamp, vinT, Nat.add_sub_cancel, Nat.le_refl, Nat.reduceLeDiff, Nat.reduceLT, Nat.reduceEqDiff, Nat.reduceAdd, Nat.reduceMul, Nat.reduceSub, forall_eq, true_and, and_true, not_true_eq_false, not_false_eq_true, false_implies, true_implies, implies_true, if_true, if_false, ite_self, q, gU_ne]
  refine hQ _ ⟨fun c c1 c2 => by rw [gU_ne c1, gU_ne c2]; exact h1 c c1 c2, fun j hj => by rw [gU_off hj, gU_ne (by omega)]; exact h2 j hj, gU_eq, fun i hi => ?_⟩
  rw [gU_ne (by omega), trAt]
  have hi : i < bs.length + 1 := hi
  by_cases e : i = bs.length
  · rw [if_pos e, e, gU_eq]
  · rw [if_neg e, gU_off e]
    exact h4 i (by omega)
def fmV (kd w : Nat) (ag : Int32) : Int32 := if kd = 2 then nI 2 * (nI w + ag) else if kd = 3 then nI w + ag - nI 1000 else nI w + ag
def fmT (kd : Nat) (bs : List Int32) : List Int32 := nI 20 :: nI 21 :: (if kd = 2 then nI 24 :: bs else if kd = 3 then nI 22 :: bs else bs)
theorem s_fmH_b (hw : w < 16) (hkd : kd ≤ 5) (e49 : σ0 49 w = ag) (h : pTrH σ0 bs σ) (hl : bs.length ≤ 10) (hQ : ∀ σ', pTrH σ0 (nI 20 :: nI 21 :: bs) σ' → Q (fmV kd w ag) σ') : wH_markOfFruit_b35 Q (nI w) (nI kd) σ := by
  unfold wH_markOfFruit_b35
  refine s_leaveH h (by omega) (fun σ1 h1 => ?_)
  unfold wH_markLent
  refine s_leaveH h1 (by simp; omega) (fun σ2 h2 => ?_)
  have e : σ2 49 w = ag := by rw [h2.1 49 (by omega) (by omega)]; exact e49
  have hq := hQ σ2 h2
  unfold fmV at hq
  simp (disch := first | assumption | omega | decide) only [forall_eq, nI_clamp, vinT, nI_eqI, e, true_and]
  refine ⟨fun q => ?_, fun q => ?_⟩
  · rw [if_pos q] at hq; exact hq
  · rw [if_neg q] at hq; exact hq
theorem s_fmH (hw : w < 16) (hkd : kd ≤ 5) (e47 : σ0 47 w = nI kd) (e49 : σ0 49 w = ag) (h : pTrH σ0 bs σ) (hl : bs.length ≤ 9) (hQ : ∀ σ', pTrH σ0 (fmT kd bs) σ' → Q (fmV kd w ag) σ') : wH_markOfFruit (nI w) σ Q := by
  have e : σ 47 w = nI kd := by rw [h.1 47 (by omega) (by omega)]; exact e47
  unfold wH_markOfFruit
  unfold fmT at hQ
  simp (disch := first | assumption | omega | decide) only [forall_eq, nI_clamp, vinT, nI_eqI, e, true_and]
  refine ⟨fun q => ?_, fun q => ⟨fun q2 => ?_, fun q2 => ?_⟩⟩
  · rw [if_pos q] at hQ
    exact s_leaveH h (by omega) (fun σ1 h1 => s_fmH_b hw hkd e49 h1 (by simp; omega) hQ)
  · rw [if_neg q, if_pos q2] at hQ
    exact s_leaveH h (by omega) (fun σ1 h1 => s_fmH_b hw hkd e49 h1 (by simp; omega) hQ)
  · rw [if_neg q, if_neg q2] at hQ
    exact s_fmH_b hw hkd e49 h (by omega) hQ
def szF (kd w : Nat) (wo ag : Int32) : Int32 := if kd = 2 then -(wo + fmV kd w ag) else wo + fmV kd w ag
def szFT (kd : Nat) (bs : List Int32) : List Int32 := fmT kd (nI 10 :: nI 11 :: (if kd = 2 then nI 12 :: bs else bs))
def szC (kd : Nat) (wo : Int32) : Int32 := if kd = 5 then nI 2 * (wo - nI 100) else wo - nI 100
def szCT (kd : Nat) (bs : List Int32) : List Int32 := nI 10 :: nI 13 :: (if kd = 5 then nI 14 :: bs else bs)
theorem s_szFH (hw : w < 16) (hkd : kd ≤ 5) (e47 : σ0 47 w = nI kd) (e48 : σ0 48 w = wo) (e49 : σ0 49 w = ag) (h : pTrH σ0 bs σ) (hl : bs.length ≤ 4) (hQ : ∀ σ', pTrH σ0 (szFT kd bs) σ' → Q (szF kd w wo ag) σ') : wH_sizeOfFruit (nI w) σ Q := by
  have n01 : ¬ nI 1 = nI 0 := by decide
  have e : σ 47 w = nI kd := by rw [h.1 47 (by omega) (by omega)]; exact e47
  unfold wH_sizeOfFruit
  simp (disch := first | assumption | omega | decide) only [forall_eq, nI_clamp, vinT, nI_eqI, e, true_and]
  unfold szFT szF at hQ
  have go : ∀ (y : Int32) (bs' : List Int32) (σ1 : gM), bs'.length ≤ 5 → pTrH σ0 bs' σ1 → (∀ σ', pTrH σ0 (fmT kd (nI 10 :: nI 11 :: bs')) σ' → Q (if y = nI 0 then wo + fmV kd w ag else -(wo + fmV kd w ag)) σ') → wH_sizeOfFruit_b29 Q (nI w) y σ1 := fun y bs' σ1 hb hp hq => by
    unfold wH_sizeOfFruit_b29
    refine s_leaveH hp (by omega) (fun σ2 h2 => ?_)
    unfold wH_sizeLent
    refine s_leaveH h2 (by simp; omega) (fun σ3 h3 => ?_)
    have e8 : σ3 48 w = wo := by rw [h3.1 48 (by omega) (by omega)]; exact e48
    simp (disch := first | assumption | omega | decide) only [nI_clamp, vinT, true_and, e8]
    refine s_fmH hw hkd e47 e49 h3 (by simp; omega) (fun σ4 h4 => ?_)
    simp only [forall_eq]
    exact hq σ4 h4
  by_cases q : kd = 2
  · simp only [q, if_true] at hQ go ⊢
    simp only [n01, Nat.le_refl, Nat.reduceLeDiff, Nat.reduceLT, Nat.reduceEqDiff, Nat.reduceAdd, Nat.reduceMul, Nat.reduceSub, forall_eq, true_and, and_true, not_true_eq_false, not_false_eq_true, false_implies, true_implies, implies_true, if_true, if_false, ite_self]
    refine s_leaveH h (by omega) (fun σ1 h1 => go _ _ σ1 (by simp; omega) h1 (fun σ2 h2 => ?_))
    rw [if_neg n01]
    exact hQ σ2 h2
  · simp only [q, if_false] at hQ ⊢
    simp only [Nat.le_refl, Nat.reduceLeDiff, Nat.reduceLT, Nat.reduceEqDiff, Nat.reduceAdd, Nat.reduceMul, Nat.reduceSub, forall_eq, true_and, and_true, not_true_eq_false, not_false_eq_true, false_implies, true_implies, implies_true, if_true, if_false, ite_self]
    refine go _ _ σ (by omega) h (fun σ2 h2 => ?_)
    rw [if_pos rfl]
    exact hQ σ2 h2
theorem s_szCH (hw : w < 16) (hkd : kd ≤ 5) (e47 : σ0 47 w = nI kd) (e48 : σ0 48 w = wo) (h : pTrH σ0 bs σ) (hl : bs.length ≤ 4) (hQ : ∀ σ', pTrH σ0 (szCT kd bs) σ' → Q (szC kd wo) σ') : wH_sizeOfCloth (nI w) σ Q := by
  have n01 : ¬ nI 1 = nI 0 := by decide
  have e : σ 47 w = nI kd := by rw [h.1 47 (by omega) (by omega)]; exact e47
  unfold wH_sizeOfCloth
  simp (disch := first | assumption | omega | decide) only [forall_eq, nI_clamp, vinT, nI_eqI, e, true_and]
  unfold szCT szC at hQ
  have go : ∀ (y : Int32) (bs' : List Int32) (σ1 : gM), bs'.length ≤ 5 → pTrH σ0 bs' σ1 → (∀ σ', pTrH σ0 (nI 10 :: nI 13 :: bs') σ' → Q (if y = nI 0 then wo - nI 100 else nI 2 * (wo - nI 100)) σ') → wH_sizeOfCloth_b29 Q (nI w) y σ1 := fun y bs' σ1 hb hp hq => by
    unfold wH_sizeOfCloth_b29
    refine s_leaveH hp (by omega) (fun σ2 h2 => ?_)
    unfold wH_sizeLent
    refine s_leaveH h2 (by simp; omega) (fun σ3 h3 => ?_)
    have e8 : σ3 48 w = wo := by rw [h3.1 48 (by omega) (by omega)]; exact e48
    simp (disch := first | assumption | omega | decide) only [nI_clamp, vinT, true_and, e8, forall_eq]
    exact hq σ3 h3
  by_cases q : kd = 5
  · simp only [q, if_true] at hQ go ⊢
    simp only [n01, Nat.le_refl, Nat.reduceLeDiff, Nat.reduceLT, Nat.reduceEqDiff, Nat.reduceAdd, Nat.reduceMul, Nat.reduceSub, forall_eq, true_and, and_true, not_true_eq_false, not_false_eq_true, false_implies, true_implies, implies_true, if_true, if_false, ite_self]
    refine s_leaveH h (by omega) (fun σ1 h1 => go _ _ σ1 (by simp; omega) h1 (fun σ2 h2 => ?_))
    rw [if_neg n01]
    exact hQ σ2 h2
  · simp only [q, if_false] at hQ ⊢
    simp only [Nat.le_refl, Nat.reduceLeDiff, Nat.reduceLT, Nat.reduceEqDiff, Nat.reduceAdd, Nat.reduceMul, Nat.reduceSub, forall_eq, true_and, and_true, not_true_eq_false, not_false_eq_true, false_implies, true_implies, implies_true, if_true, if_false, ite_self]
    refine go _ _ σ (by omega) h (fun σ2 h2 => ?_)
    rw [if_pos rfl]
    exact hQ σ2 h2
theorem s_fmM (hw : w < 16) (hkd : kd ≤ 5) (h1k : 1 ≤ kd) (h3k : kd ≤ 3) (e47 : σ0 89 (22 + 4 * w) = nI kd) (e49 : σ0 89 (22 + 4 * w + 2) = ag) (h : pTrM σ0 bs σ) (hl : bs.length ≤ 9) (hQ : ∀ σ', pTrM σ0 (fmT kd bs) σ' → Q (fmV kd w ag) σ') : wM_fruitMark (nI w) σ Q := by
  have h89 : σ 89 = σ0 89 := h.1 89 (by omega) (by omega)
  have go : ∀ (bs' : List Int32) (σ1 : gM), bs'.length ≤ 10 → pTrM σ0 bs' σ1 → (∀ σ', pTrM σ0 (nI 20 :: nI 21 :: bs') σ' → Q (fmV kd w ag) σ') → wM_fruitMark_b27 Q (nI w) (nI kd) σ1 := fun bs' σ1 hb hp hq => by
    unfold wM_fruitMark_b27
    refine s_leaveM hp (by omega) (fun σ2 h2 => ?_)
    refine s_leaveM h2 (by simp; omega) (fun σ3 h3 => ?_)
    have e : σ3 89 (22 + 4 * w + 2) = ag := by rw [h3.1 89 (by omega) (by omega)]; exact e49
    have hq := hq σ3 h3
    unfold fmV at hq
    simp (disch := first | assumption | omega | decide) only [nI_add, pk_mul, nI_clamp, vinT, nI_eqI, e, true_and, forall_eq]
    by_cases q : kd = 2
    · simp only [q, if_true] at hq ⊢
      exact hq
    · by_cases q2 : kd = 3
      · simp only [q, q2, if_true, if_false] at hq ⊢
        exact hq
      · simp only [q, q2, if_false] at hq ⊢
        exact hq
  unfold wM_fruitMark
  rw [eM_kindOf hw, h89, e47]
  unfold fmT at hQ
  simp (disch := first | assumption | omega | decide) only [nI_eqI, forall_eq]
  refine ⟨fun q => ?_, fun q => ?_⟩
  · rw [if_neg (by omega), if_neg (by omega)] at hQ
    exact go bs σ (by omega) h hQ
  · by_cases q2 : kd = 2
    · rw [if_pos q2] at hQ
      rw [if_pos q2]
      exact s_leaveM h (by omega) (fun σ1 h1 => go _ σ1 (by simp; omega) h1 hQ)
    · rw [if_neg q2, if_pos (by omega)] at hQ
      rw [if_neg q2]
      exact s_leaveM h (by omega) (fun σ1 h1 => go _ σ1 (by simp; omega) h1 hQ)
theorem s_szFM (hw : w < 16) (h1k : 1 ≤ kd) (h3k : kd ≤ 3) (e47 : σ0 89 (22 + 4 * w) = nI kd) (e48 : σ0 89 (22 + 4 * w + 1) = wo) (e49 : σ0 89 (22 + 4 * w + 2) = ag) (h : pTrM σ0 bs σ) (hl : bs.length ≤ 4) (hQ : ∀ σ', pTrM σ0 (szFT kd bs) σ' → Q (szF kd w wo ag) σ') : wM_sizeOf (nI w) σ Q := by
  have h89 : σ 89 = σ0 89 := h.1 89 (by omega) (by omega)
  have go : ∀ (y : Nat) (bs' : List Int32) (σ1 : gM), y < 100 → bs'.length ≤ 6 → pTrM σ0 bs' σ1 → (∀ σ', pTrM σ0 (fmT kd (nI 10 :: bs')) σ' → Q (if y = 12 then -(wo + fmV kd w ag) else wo + fmV kd w ag) σ') → wM_sizeBy_b103 Q (nI w) (nI y) σ1 := fun y bs' σ1 hy hb hp hq => by
    unfold wM_sizeBy_b103
    refine s_leaveM hp (by omega) (fun σ2 h2 => ?_)
    have e : σ2 89 (22 + 4 * w + 1) = wo := by rw [h2.1 89 (by omega) (by omega)]; exact e48
    simp (disch := first | assumption | omega | decide) only [nI_add, pk_mul, nI_clamp, vinT, nI_eqI, e, true_and, forall_eq]
    exact s_fmM hw (by omega) h1k h3k e47 e49 h2 (by simp; omega) (fun σ3 h3 => hq σ3 h3)
  unfold wM_sizeOf
  rw [eM_kindOf hw, h89, e47]
  unfold szFT szF at hQ
  by_cases q : kd = 2
  · simp only [q, if_true] at hQ go
    subst q
    simp (disch := first | assumption | omega | decide) only [nI_leI2, nI_ltI2, nI_eqI, nI_add, nI_sub, pk_mul, nI_clamp, vinT, Nat.add_sub_cancel, Nat.le_refl, Nat.reduceLeDiff, Nat.reduceLT, Nat.reduceEqDiff, Nat.reduceAdd, Nat.reduceMul, Nat.reduceSub, forall_eq, true_and, and_true, not_true_eq_false, not_false_eq_true, false_implies, true_implies, implies_true, if_true, if_false, ite_self, wM_sizeBy]
    refine s_leaveM h (by omega) (fun σ1 h1 => ?_)
    try simp (disch := first | assumption | omega | decide) only [nI_leI2, nI_ltI2, nI_eqI, nI_add, nI_sub, pk_mul, nI_clamp, vinT, Nat.add_sub_cancel, Nat.le_refl, Nat.reduceLeDiff, Nat.reduceLT, Nat.reduceEqDiff, Nat.reduceAdd, Nat.reduceMul, Nat.reduceSub, forall_eq, true_and, and_true, not_true_eq_false, not_false_eq_true, false_implies, true_implies, implies_true, if_true, if_false, ite_self]
    refine s_leaveM h1 (by simp; omega) (fun σ2 h2 => ?_)
    exact go 12 _ σ2 (by omega) (by simp; omega) h2 (fun σ3 h3 => hQ σ3 h3)
  · simp only [q, if_false] at hQ
    have q4 : ¬ kd = 4 := by omega
    have q5 : ¬ kd = 5 := by omega
    simp (disch := first | assumption | omega | decide) only [nI_leI2, nI_ltI2, nI_eqI, nI_add, nI_sub, pk_mul, nI_clamp, vinT, Nat.add_sub_cancel, Nat.le_refl, Nat.reduceLeDiff, Nat.reduceLT, Nat.reduceEqDiff, Nat.reduceAdd, Nat.reduceMul, Nat.reduceSub, forall_eq, true_and, and_true, not_true_eq_false, not_false_eq_true, false_implies, true_implies, implies_true, if_true, if_false, ite_self, wM_sizeBy, q, q4, q5]
    refine s_leaveM h (by omega) (fun σ1 h1 => ?_)
    try simp (disch := first | assumption | omega | decide) only [nI_leI2, nI_ltI2, nI_eqI, nI_add, nI_sub, pk_mul, nI_clamp, vinT, Nat.add_sub_cancel, Nat.le_refl, Nat.reduceLeDiff, Nat.reduceLT, Nat.reduceEqDiff, Nat.reduceAdd, Nat.reduceMul, Nat.reduceSub, forall_eq, true_and, and_true, not_true_eq_false, not_false_eq_true, false_implies, true_implies, implies_true, if_true, if_false, ite_self]
    exact go 11 _ σ1 (by omega) (by simp; omega) h1 (fun σ3 h3 => hQ σ3 h3)
theorem s_szCM (hw : w < 16) (h4k : 4 ≤ kd) (h5k : kd ≤ 5) (e47 : σ0 89 (22 + 4 * w) = nI kd) (e48 : σ0 89 (22 + 4 * w + 1) = wo) (h : pTrM σ0 bs σ) (hl : bs.length ≤ 4) (hQ : ∀ σ', pTrM σ0 (szCT kd bs) σ' → Q (szC kd wo) σ') : wM_sizeOf (nI w) σ Q := by
  have h89 : σ 89 = σ0 89 := h.1 89 (by omega) (by omega)
  unfold wM_sizeOf
  rw [eM_kindOf hw, h89, e47]
  unfold szCT szC at hQ
  have q2 : ¬ kd = 2 := by omega
  by_cases q : kd = 5
  · simp only [q, if_true] at hQ
    subst q
    simp (disch := first | assumption | omega | decide) only [nI_leI2, nI_ltI2, nI_eqI, nI_add, nI_sub, pk_mul, nI_clamp, vinT, Nat.add_sub_cancel, Nat.le_refl, Nat.reduceLeDiff, Nat.reduceLT, Nat.reduceEqDiff, Nat.reduceAdd, Nat.reduceMul, Nat.reduceSub, forall_eq, true_and, and_true, not_true_eq_false, not_false_eq_true, false_implies, true_implies, implies_true, if_true, if_false, ite_self, wM_sizeBy]
    refine s_leaveM h (by omega) (fun σ1 h1 => ?_)
    try simp (disch := first | assumption | omega | decide) only [nI_leI2, nI_ltI2, nI_eqI, nI_add, nI_sub, pk_mul, nI_clamp, vinT, Nat.add_sub_cancel, Nat.le_refl, Nat.reduceLeDiff, Nat.reduceLT, Nat.reduceEqDiff, Nat.reduceAdd, Nat.reduceMul, Nat.reduceSub, forall_eq, true_and, and_true, not_true_eq_false, not_false_eq_true, false_implies, true_implies, implies_true, if_true, if_false, ite_self]
    refine s_leaveM h1 (by simp; omega) (fun σ2 h2 => ?_)
    refine s_leaveM h2 (by simp; omega) (fun σ3 h3 => ?_)
    have e : σ3 89 (22 + 4 * w + 1) = wo := by rw [h3.1 89 (by omega) (by omega)]; exact e48
    simp (disch := first | assumption | omega | decide) only [nI_leI2, nI_ltI2, nI_eqI, nI_add, nI_sub, pk_mul, nI_clamp, vinT, Nat.add_sub_cancel, Nat.le_refl, Nat.reduceLeDiff, Nat.reduceLT, Nat.reduceEqDiff, Nat.reduceAdd, Nat.reduceMul, Nat.reduceSub, forall_eq, true_and, and_true, not_true_eq_false, not_false_eq_true, false_implies, true_implies, implies_true, if_true, if_false, ite_self, e]
    exact hQ σ3 h3
  · simp only [q, if_false] at hQ
    have q4 : kd = 4 := by omega
    subst q4
    simp (disch := first | assumption | omega | decide) only [nI_leI2, nI_ltI2, nI_eqI, nI_add, nI_sub, pk_mul, nI_clamp, vinT, Nat.add_sub_cancel, Nat.le_refl, Nat.reduceLeDiff, Nat.reduceLT, Nat.reduceEqDiff, Nat.reduceAdd, Nat.reduceMul, Nat.reduceSub, forall_eq, true_and, and_true, not_true_eq_false, not_false_eq_true, false_implies, true_implies, implies_true, if_true, if_false, ite_self, wM_sizeBy]
    refine s_leaveM h (by omega) (fun σ1 h1 => ?_)
    try simp (disch := first | assumption | omega | decide) only [nI_leI2, nI_ltI2, nI_eqI, nI_add, nI_sub, pk_mul, nI_clamp, vinT, Nat.add_sub_cancel, Nat.le_refl, Nat.reduceLeDiff, Nat.reduceLT, Nat.reduceEqDiff, Nat.reduceAdd, Nat.reduceMul, Nat.reduceSub, forall_eq, true_and, and_true, not_true_eq_false, not_false_eq_true, false_implies, true_implies, implies_true, if_true, if_false, ite_self]
    refine s_leaveM h1 (by simp; omega) (fun σ3 h3 => ?_)
    have e : σ3 89 (22 + 4 * w + 1) = wo := by rw [h3.1 89 (by omega) (by omega)]; exact e48
    simp (disch := first | assumption | omega | decide) only [nI_leI2, nI_ltI2, nI_eqI, nI_add, nI_sub, pk_mul, nI_clamp, vinT, Nat.add_sub_cancel, Nat.le_refl, Nat.reduceLeDiff, Nat.reduceLT, Nat.reduceEqDiff, Nat.reduceAdd, Nat.reduceMul, Nat.reduceSub, forall_eq, true_and, and_true, not_true_eq_false, not_false_eq_true, false_implies, true_implies, implies_true, if_true, if_false, ite_self, e]
    exact hQ σ3 h3
end Ask
theorem op_ask {k : Nat} {x1 x2 : Int32} {σ : gM} (h : pInv k σ) : pBoth (wH_ask x1 x2) (wM_ask x1 x2) σ (pInv k) := by
  obtain ⟨nb, nw, nl, hp, hM, hW⟩ := h.2.2.2.2.2.2.1
  have hn : nw ≤ 16 := hW.2.2.2.2.1
  have n01 : ¬ nI 1 = nI 0 := by decide
  unfold pBoth wH_ask
  rw [eH_isNoWare hM.2.2.2.1]
  rcases i_in x1 nw (by omega) with ⟨w, hw, rfl⟩ | ⟨e1, e2⟩
  · rw [pNB_in hw (by omega)]
    have em := fun τ (ht : τ 89 = σ 89) Q => (@eM_isWareAt (nI w) τ Q nw (by rw [ht]; exact hW.2.1) hn).trans (by rw [pB_in hw (by omega)])
    rcases i_nat x2 with hx | ⟨y, hy, rfl⟩
    · simp (disch := first | assumption | omega | decide) only [nI_leI2, nI_ltI2, nI_eqI, nI_add, nI_sub, pk_mul, nI_clamp, vinT, Nat.add_sub_cancel, Nat.le_refl, Nat.reduceLeDiff, Nat.reduceLT, Nat.reduceEqDiff, Nat.reduceAdd, Nat.reduceMul, Nat.reduceSub, forall_eq, true_and, and_true, not_true_eq_false, not_false_eq_true, false_implies, true_implies, implies_true, if_true, if_false, ite_self, ng_lt, ng_le, ng_gt, ng_ge, ng_eq, ng_qe, wM_ask, em σ rfl, eM_in, n01]
      exact h
    by_cases hy1 : y ≤ 1
    · have hy2 : ¬ 1 < y := by omega
      obtain ⟨kd, wo, ag, a1, a2, -, -, a5, -⟩ := hW.2.2.2.2.2.2.2.2.2.2.2 w hw
      obtain ⟨b1, b2, b3, -⟩ := hM.2.2.2.2.2.2.1 w hw
      have b1 : σ 47 w = nI kd := (show σ 47 w = σ 89 (22 + 4 * w) from b1).trans a5
      have b2 : σ 48 w = σ 89 (22 + 4 * w + 1) := b2
      have b3 : σ 49 w = σ 89 (22 + 4 * w + 2) := b3
      have hs0 : pTrH σ [] (gU σ 0 9 (nI 0)) := ⟨fun c c1 _ => gU_ne c1, fun j hj => gU_off hj, gU_eq, fun i hi => absurd hi (by simp)⟩
      have fin : ∀ (bs : List Int32) (σ1 σ2 : gM), bs.length ≤ 16 → pTrH σ bs σ1 → pTrM σ1 bs σ2 → pInv k σ2 := by
        intro bs σ1 σ2 hb f g
        have e : ∀ c, c ≠ 0 → c ≠ 40 → c ≠ 82 → c ≠ 93 → σ2 c = σ c := fun c c1 c2 c3 c4 => by rw [g.1 c c3 c4, f.1 c c1 c2]
        have e0 : ∀ j, j ≠ 9 → σ2 0 j = σ 0 j := fun j hj => by rw [g.1 0 (by omega) (by omega), f.2.1 j hj]
        have e82 : ∀ j, j ≠ 22 → σ2 82 j = σ 82 j := fun j hj => by rw [g.2.1 j hj, f.1 82 (by omega) (by omega)]
        refine pInv_mk h (fun a h1 h2 => e a (by omega) (by omega) (by omega) (by omega)) (e 83 (by omega) (by omega) (by omega) (by omega)) (e 84 (by omega) (by omega) (by omega) (by omega)) (e 85 (by omega) (by omega) (by omega) (by omega)) (e0 11 (by omega)) (e82 3 (by omega)) (by rw [e0 10 (by omega), e82 11 (by omega)]; exact h.2.2.1)
          (pTape_fr (by rw [e 18 (by omega) (by omega) (by omega) (by omega)]) (e82 4 (by omega)) (e 19 (by omega) (by omega) (by omega) (by omega)) (e 86 (by omega) (by omega) (by omega) (by omega)) h.2.2.2.1)
          ⟨bs.length, hb, by rw [g.1 0 (by omega) (by omega)]; exact f.2.2.1, g.2.2.1, fun i hi => by rw [g.1 40 (by omega) (by omega), f.2.2.2 i hi, g.2.2.2 i hi]⟩
          (pStands_fr (by rw [e 42 (by omega) (by omega) (by omega) (by omega)]) (e 89 (by omega) (by omega) (by omega) (by omega)) h.2.2.2.2.2.1)
          (pMkt_fr (fun a h1 h2 => e a (by omega) (by omega) (by omega) (by omega)) (e 89 (by omega) (by omega) (by omega) (by omega)) h.2.2.2.2.2.2.1)
          (fun a h1 h2 => by by_cases q : a = 82; omega; exact e a (by omega) (by omega) (by omega) (by omega)) (e 90 (by omega) (by omega) (by omega) (by omega)) (e 91 (by omega) (by omega) (by omega) (by omega))
          (pActs_fr (e82 20 (by omega)) (e _ (by omega) (by omega) (by omega) (by omega)) (e _ (by omega) (by omega) (by omega) (by omega)) (e _ (by omega) (by omega) (by omega) (by omega)) (e _ (by omega) (by omega) (by omega) (by omega)) (e _ (by omega) (by omega) (by omega) (by omega)) (e _ (by omega) (by omega) (by omega) (by omega)) h.2.2.2.2.2.2.2.2.2)
      have hMod : ∀ (τ : gM) (P : Int32 → gM → Prop), τ 89 = σ 89 → (y = 0 → ∀ τ', pTrM τ [] τ' → wM_sizeOf (nI w) τ' P) → (y = 1 → 4 ≤ kd → ∀ τ', pTrM τ [nI 20, nI 23] τ' → wM_sizeOf (nI w) τ' (fun r19 σ19 => P (nI w - r19) σ19)) → (y = 1 → kd ≤ 3 → ∀ τ', pTrM τ [] τ' → wM_fruitMark (nI w) τ' P) → wM_ask (nI w) (nI y) τ P := by
        intro τ P ht h1 h2 h3
        have s0 : pTrM τ [] (gU τ 82 22 (nI 0)) := ⟨fun c c1 _ => gU_ne c1, fun j hj => gU_off hj, gU_eq, fun i hi => absurd hi (by simp)⟩
        unfold wM_ask
        simp (disch := first | assumption | omega | decide) only [nI_leI2, nI_ltI2, nI_eqI, nI_add, nI_sub, pk_mul, nI_clamp, vinT, Nat.add_sub_cancel, Nat.le_refl, Nat.reduceLeDiff, Nat.reduceLT, Nat.reduceEqDiff, Nat.reduceAdd, Nat.reduceMul, Nat.reduceSub, forall_eq, true_and, and_true, not_true_eq_false, not_false_eq_true, false_implies, true_implies, implies_true, if_true, if_false, ite_self, em τ ht, eM_in, n01, hy2, Nat.not_lt_zero]
        refine ⟨fun q => h1 q _ s0, fun q => ?_⟩
        have hk : gU τ 82 22 (nI 0) 89 (22 + 4 * w) = nI kd := by rw [gU_ne (by decide), ht]; exact a5
        rw [eM_kindOf (by omega), hk]
        simp (disch := first | assumption | omega | decide) only [nI_leI2]
        refine ⟨fun q2 => ?_, fun q2 => h3 (by omega) (by omega) _ s0⟩
        exact s_leaveM s0 (by simp) (fun τ1 t1 => s_leaveM t1 (by simp) (fun τ2 t2 => h2 (by omega) q2 _ t2))
      simp (disch := first | assumption | omega | decide) only [nI_leI2, nI_ltI2, nI_eqI, nI_add, nI_sub, pk_mul, nI_clamp, vinT, Nat.add_sub_cancel, Nat.le_refl, Nat.reduceLeDiff, Nat.reduceLT, Nat.reduceEqDiff, Nat.reduceAdd, Nat.reduceMul, Nat.reduceSub, forall_eq, true_and, and_true, not_true_eq_false, not_false_eq_true, false_implies, true_implies, implies_true, if_true, if_false, ite_self, hy1, Nat.not_lt_zero, gU_ne, b1]
      rw [eH_isSuch a1 a2 (by omega)]
      have hsu : pSuch (nI kd) (nI 1) = decide (kd ≤ 3) := by
        have : kd = 1 ∨ kd = 2 ∨ kd = 3 ∨ kd = 4 ∨ kd = 5 := by omega
        rcases this with rfl | rfl | rfl | rfl | rfl <;> decide
      rw [hsu]
      have hlT : ∀ bs : List Int32, bs.length ≤ 4 → (szFT kd bs).length ≤ 16 ∧ (szCT kd bs).length ≤ 16 ∧ (fmT kd bs).length ≤ 16 := fun bs hb => by
        unfold szFT szCT fmT
        refine ⟨?_, ?_, ?_⟩ <;> simp only [List.length_cons] <;> repeat' split
        all_goals first | omega | (simp only [List.length_cons]; omega)
      by_cases q3 : kd ≤ 3
      · have q4 : ¬ 4 ≤ kd := by omega
        simp (disch := first | assumption | omega | decide) only [q3, decide_true, Nat.le_refl, Nat.reduceLeDiff, Nat.reduceLT, Nat.reduceEqDiff, Nat.reduceAdd, Nat.reduceMul, Nat.reduceSub, forall_eq, true_and, and_true, not_true_eq_false, not_false_eq_true, false_implies, true_implies, implies_true, if_true, if_false, ite_self, n01]
        refine ⟨fun q => ?_, fun q => ?_⟩
        · refine s_szFH (by omega) a2 b1 b2 b3 hs0 (by simp) (fun σ1 f1 => ?_)
          have e89 : σ1 89 = σ 89 := f1.1 89 (by omega) (by omega)
          refine hMod σ1 _ e89 (fun _ τ' t => ?_) (fun z => absurd z (by omega)) (fun z => absurd z (by omega))
          exact s_szFM (by omega) a1 q3 (by rw [e89]; exact a5) (by rw [e89]) (by rw [e89]) t (by simp) (fun σ2 g => ⟨rfl, fin _ σ1 σ2 (hlT [] (by simp)).1 f1 g⟩)
        · refine s_fmH (by omega) a2 b1 b3 hs0 (by simp) (fun σ1 f1 => ?_)
          have e89 : σ1 89 = σ 89 := f1.1 89 (by omega) (by omega)
          refine hMod σ1 _ e89 (fun z => absurd z (by omega)) (fun _ z => absurd z q4) (fun _ _ τ' t => ?_)
          exact s_fmM (by omega) a2 a1 q3 (by rw [e89]; exact a5) (by rw [e89]) t (by simp) (fun σ2 g => ⟨rfl, fin _ σ1 σ2 (hlT [] (by simp)).2.2 f1 g⟩)
      · have q4 : 4 ≤ kd := by omega
        simp (disch := first | assumption | omega | decide) only [q3, decide_false, Nat.le_refl, Nat.reduceLeDiff, Nat.reduceLT, Nat.reduceEqDiff, Nat.reduceAdd, Nat.reduceMul, Nat.reduceSub, forall_eq, true_and, and_true, not_true_eq_false, not_false_eq_true, false_implies, true_implies, implies_true, if_true, if_false, ite_self, n01, Bool.false_eq_true]
        refine ⟨fun q => ?_, fun q => ?_⟩
        · refine s_szCH (by omega) a2 b1 b2 hs0 (by simp) (fun σ1 f1 => ?_)
          have e89 : σ1 89 = σ 89 := f1.1 89 (by omega) (by omega)
          refine hMod σ1 _ e89 (fun _ τ' t => ?_) (fun z => absurd z (by omega)) (fun z => absurd z (by omega))
          exact s_szCM (by omega) q4 a2 (by rw [e89]; exact a5) (by rw [e89]) t (by simp) (fun σ2 g => ⟨rfl, fin _ σ1 σ2 (hlT [] (by simp)).2.1 f1 g⟩)
        · unfold wH_markOfCloth wH_markLent
          refine s_leaveH hs0 (by simp) (fun σ1 f1 => s_leaveH f1 (by simp) (fun σ2 f2 => s_szCH (by omega) a2 b1 b2 f2 (by simp) (fun σ3 f3 => ?_)))
          have e89 : σ3 89 = σ 89 := f3.1 89 (by omega) (by omega)
          refine hMod σ3 _ e89 (fun z => absurd z (by omega)) (fun _ _ τ' t => ?_) (fun _ z => absurd z q3)
          exact s_szCM (by omega) q4 a2 (by rw [e89]; exact a5) (by rw [e89]) t (by simp) (fun σ4 g => ⟨rfl, fin _ σ3 σ4 (hlT _ (by simp)).2.1 f3 g⟩)
    · have hy2 : 1 < y := by omega
      simp (disch := first | assumption | omega | decide) only [nI_leI2, nI_ltI2, nI_eqI, nI_add, nI_sub, pk_mul, nI_clamp, vinT, Nat.add_sub_cancel, Nat.le_refl, Nat.reduceLeDiff, Nat.reduceLT, Nat.reduceEqDiff, Nat.reduceAdd, Nat.reduceMul, Nat.reduceSub, forall_eq, true_and, and_true, not_true_eq_false, not_false_eq_true, false_implies, true_implies, implies_true, if_true, if_false, ite_self, wM_ask, em σ rfl, eM_in, n01, hy1, hy2, Nat.not_lt_zero]
      exact h
  · rw [e2]
    simp only [n01, Nat.le_refl, Nat.reduceLeDiff, Nat.reduceLT, Nat.reduceEqDiff, Nat.reduceAdd, Nat.reduceMul, Nat.reduceSub, forall_eq, true_and, and_true, not_true_eq_false, not_false_eq_true, false_implies, true_implies, implies_true, if_true, if_false, ite_self]
    unfold wM_ask
    rw [@eM_isWareAt x1 σ _ nw hW.2.1 hn, e1]
    simp only [Nat.le_refl, Nat.reduceLeDiff, Nat.reduceLT, Nat.reduceEqDiff, Nat.reduceAdd, Nat.reduceMul, Nat.reduceSub, forall_eq, true_and, and_true, not_true_eq_false, not_false_eq_true, false_implies, true_implies, implies_true, if_true, if_false, ite_self]
    exact h
