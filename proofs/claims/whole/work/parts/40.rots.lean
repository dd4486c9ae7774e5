theorem allB_ok : ∀ (k lo : Nat), allB k lo = true → ∀ v, lo ≤ v → v < lo + 2 ^ k → okB v = true
  | 0, lo, h, v, h1, h2 => by
    have : v = lo := by simp at h2; omega
    subst this
    exact h
  | k + 1, lo, h, v, h1, h2 => by
    rw [allB, fo_eq, Bool.and_eq_true] at h
    have e : 2 ^ (k + 1) = 2 ^ k + 2 ^ k := by rw [Nat.pow_succ]; omega
    by_cases q : v < lo + 2 ^ k
    · exact allB_ok k lo h.1 v h1 q
    · exact allB_ok k (lo + 2 ^ k) h.2 v (by omega) (by omega)
theorem okB_all {v : Nat} (h : v < 65536) : okB v = true := by
  have key : ∀ c, c * 4096 ≤ v → v < (c + 1) * 4096 → allB 12 (4096 * c) = true → okB v = true := fun c h1 h2 h3 => allB_ok 12 _ h3 v (by omega) (by simp; omega)
  have : v / 4096 < 16 := by omega
  have hc : ∀ c, v / 4096 = c → c * 4096 ≤ v ∧ v < (c + 1) * 4096 := fun c e => by omega
  generalize hcc : v / 4096 = c at this
  obtain ⟨a, b⟩ := hc c hcc
  have : c = 0 ∨ c = 1 ∨ c = 2 ∨ c = 3 ∨ c = 4 ∨ c = 5 ∨ c = 6 ∨ c = 7 ∨ c = 8 ∨ c = 9 ∨ c = 10 ∨ c = 11 ∨ c = 12 ∨ c = 13 ∨ c = 14 ∨ c = 15 := by omega
  rcases this with rfl | rfl | rfl | rfl | rfl | rfl | rfl | rfl | rfl | rfl | rfl | rfl | rfl | rfl | rfl | rfl
  · exact key 0 a b allB_0
  · exact key 1 a b allB_1
  · exact key 2 a b allB_2
  · exact key 3 a b allB_3
  · exact key 4 a b allB_4
  · exact key 5 a b allB_5
  · exact key 6 a b allB_6
  · exact key 7 a b allB_7
  · exact key 8 a b allB_8
  · exact key 9 a b allB_9
  · exact key 10 a b allB_10
  · exact key 11 a b allB_11
  · exact key 12 a b allB_12
  · exact key 13 a b allB_13
  · exact key 14 a b allB_14
  · exact key 15 a b allB_15
def popN (v : Nat) : Nat → Nat → Nat → Nat
  | 0, _, a => a
  | m + 1, t, a => popN v m (t + 1) (a + v / 2 ^ t % 2)
theorem popB_ok {v r : Nat} : ∀ (m t a : Nat), popB (v / 2 ^ t) m a r = true → popN v m t a = r
  | 0, t, a, h => Nat.eq_of_beq_eq_true h
  | m + 1, t, a, h => by
    rw [popB, fo_eq, fo_eq] at h
    have e1 : Nat.land (v / 2 ^ t) 1 = v / 2 ^ t % 2 := Nat.and_one_is_mod _
    have e2 : Nat.shiftRight (v / 2 ^ t) 1 = v / 2 ^ (t + 1) := by
      show (v / 2 ^ t) >>> 1 = _
      rw [Nat.shiftRight_eq_div_pow, Nat.div_div_eq_div_mul, ← Nat.pow_add]
    rw [e1, e2] at h
    exact popB_ok m (t + 1) _ h
def bc1 (v : Nat) : Nat := v - ((v >>> 1) &&& 1431655765)
def bc2 (a : Nat) : Nat := (a &&& 858993459) + ((a >>> 2) &&& 858993459)
def bc3 (b : Nat) : Nat := (b + (b >>> 4)) &&& 252645135
def bc4 (c : Nat) : Nat := c + (c >>> 8)
def bc5 (d : Nat) : Nat := (d + (d >>> 16)) &&& 63
theorem bc_pop {v : Nat} (h : v < 65536) : bc5 (bc4 (bc3 (bc2 (bc1 v)))) = popN v 16 0 0 := by
  have h2 := okB_all h
  unfold okB at h2
  simp only [fo_eq] at h2
  have h3 : popB (v / 2 ^ 0) 16 0 (bc5 (bc4 (bc3 (bc2 (bc1 v))))) = true := by
    rw [Nat.pow_zero, Nat.div_one]
    exact h2
  exact (popB_ok 16 0 0 h3).symm
theorem sh_u : ∀ k : Fin 32, (((nI k.val).toUInt32 &&& Int32.toUInt32 31).toBitVec % 32).toNat = k.val := by decide +kernel
theorem ush {x k : Nat} (hk : k < 32) (h : x < 4294967296) : ((nI x).toUInt32 >>> ((nI k).toUInt32 &&& Int32.toUInt32 31)).toInt32 = nI (x >>> k) := by
  rw [Nat.shiftRight_eq_div_pow]
  exact pk_ushrN h (nI k) k (sh_u ⟨k, hk⟩)
theorem sh_le (x k : Nat) : x >>> k ≤ x := by
  rw [Nat.shiftRight_eq_div_pow]
  exact Nat.div_le_self _ _
theorem e_bitCount {v : Nat} {σ : gM} {Q : Int32 → gM → Prop} (hv : v < 65536) : wJI_bitCount (nI v) σ Q = Q (nI (popN v 16 0 0)) σ := by
  have b1 : bc1 v ≤ v := Nat.sub_le _ _
  have k2 : (bc1 v &&& 858993459) ≤ bc1 v := Nat.and_le_left
  have k3 : ((bc1 v >>> 2) &&& 858993459) ≤ bc1 v >>> 2 := Nat.and_le_left
  have k4 := sh_le (bc1 v) 2
  have b2 : bc2 (bc1 v) ≤ 200000 := by unfold bc2; omega
  have k5 := sh_le (bc2 (bc1 v)) 4
  have k6 : bc3 (bc2 (bc1 v)) ≤ bc2 (bc1 v) + (bc2 (bc1 v) >>> 4) := Nat.and_le_left
  have b3 : bc3 (bc2 (bc1 v)) ≤ 400000 := by omega
  have k7 := sh_le (bc3 (bc2 (bc1 v))) 8
  have b4 : bc4 (bc3 (bc2 (bc1 v))) ≤ 800000 := by unfold bc4; omega
  unfold wJI_bitCount
  have s1 : nI v - (((nI v).toUInt32 >>> ((nI 1).toUInt32 &&& Int32.toUInt32 31)).toInt32 &&& nI 1431655765) = nI (bc1 v) := by
    rw [ush (by omega) (by omega), nI_and, nI_sub (Nat.le_trans Nat.and_le_left (sh_le v 1))]
    rfl
  have s2 : (nI (bc1 v) &&& nI 858993459) + (((nI (bc1 v)).toUInt32 >>> ((nI 2).toUInt32 &&& Int32.toUInt32 31)).toInt32 &&& nI 858993459) = nI (bc2 (bc1 v)) := by
    rw [ush (by omega) (by omega), nI_and, nI_and, nI_add]
    rfl
  have s3 : (nI (bc2 (bc1 v)) + ((nI (bc2 (bc1 v))).toUInt32 >>> ((nI 4).toUInt32 &&& Int32.toUInt32 31)).toInt32) &&& nI 252645135 = nI (bc3 (bc2 (bc1 v))) := by
    rw [ush (by omega) (by omega), nI_add, nI_and]
    rfl
  have s4 : nI (bc3 (bc2 (bc1 v))) + ((nI (bc3 (bc2 (bc1 v)))).toUInt32 >>> ((nI 8).toUInt32 &&& Int32.toUInt32 31)).toInt32 = nI (bc4 (bc3 (bc2 (bc1 v)))) := by
    rw [ush (by omega) (by omega), nI_add]
    rfl
  have s5 : (nI (bc4 (bc3 (bc2 (bc1 v)))) + ((nI (bc4 (bc3 (bc2 (bc1 v))))).toUInt32 >>> ((nI 16).toUInt32 &&& Int32.toUInt32 31)).toInt32) &&& nI 63 = nI (bc5 (bc4 (bc3 (bc2 (bc1 v))))) := by
    rw [ush (by omega) (by omega), nI_add, nI_and]
    rfl
  simp only [forall_eq, s1, s2, s3, s4]
  rw [s5, bc_pop hv]
theorem s_bits {v : Nat} {σ : gM} {Q : Int32 → gM → Prop} (hv : v < 65536) : ∀ (m t a : Nat), t + m = 16 → Q (nI (popN v m t a)) σ → wM_bits_l4 Q (m + 1) (nI v) (nI a) (nI t) σ := by
  intro m
  induction m with
  | zero =>
    intro t a ht h
    have : t = 16 := by omega
    subst this
    rw [wM_bits_l4]
    simp (disch := first | assumption | omega | decide) only [li0, li1, li2, li3, li4, li5, li6, li7, li8, li9, li10, li11, li12, li13, li14, li16, li17, li20, li21, li22, li23, li24, li30, li32, li40, li48, li57, li59, li63, li86, li97, li99, li100, li102, li115, li122, li200, li255, li289, li320, li400, li720, li999, li1000, nI_add, pk_mul, nI_sub, nI_clamp, vinT, Nat.le_refl, Nat.reduceLeDiff, Nat.reduceLT, Nat.reduceEqDiff, Nat.reduceAdd, Nat.reduceMul, Nat.reduceSub, forall_eq, true_and, and_true, not_true_eq_false, not_false_eq_true, false_implies, true_implies, implies_true, if_true, if_false, ite_self, nI_eqI, nI_leI2, nI_ltI2]
    exact h
  | succ m ih =>
    intro t a ht h
    have h1 : ¬ 16 ≤ t := by omega
    have hd : v / 2 ^ t < 4294967296 := Nat.lt_of_le_of_lt (Nat.div_le_self _ _) (by omega)
    rw [wM_bits_l4]
    rw [sh_r (k := t) (by omega) (by omega), and_1 hd]
    simp (disch := first | assumption | omega | decide) only [li0, li1, li2, li3, li4, li5, li6, li7, li8, li9, li10, li11, li12, li13, li14, li16, li17, li20, li21, li22, li23, li24, li30, li32, li40, li48, li57, li59, li63, li86, li97, li99, li100, li102, li115, li122, li200, li255, li289, li320, li400, li720, li999, li1000, nI_add, pk_mul, nI_sub, nI_clamp, vinT, Nat.le_refl, Nat.reduceLeDiff, Nat.reduceLT, Nat.reduceEqDiff, Nat.reduceAdd, Nat.reduceMul, Nat.reduceSub, forall_eq, true_and, and_true, not_true_eq_false, not_false_eq_true, false_implies, true_implies, implies_true, if_true, if_false, ite_self, nI_eqI, nI_leI2, nI_ltI2, h1]
    exact ih (t + 1) _ (by omega) h
/-! ROTS: the wares that lie, worth nothing in d days -/
section Rot
variable {k nb nw nl : Nat} {N : Nat → Int32} {hp : Nat → Nat} {σ : gM} {Q : Int32 → gM → Prop}
def pRot (N : Nat → Int32) (hp : Nat → Nat) (d : Int32) : Nat → Nat → Int32 → Int32
  | 0, _, a => a
  | m + 1, i, a => pRot N hp d m (i + 1) (if pV N (hp i) d = nI 0 then a ||| (nI 1 <<< (nI (hp i) &&& 31)) else a)
theorem s_rot_H {d : Int32} (hM : pMk σ 42 N nb nw nl) (hW : pWF k N nb nw nl hp) : ∀ (m i : Nat) (a : Int32), i + m = nl → Q (pRot N hp d m i a) σ → wK42_rottenIn_l4 Q (m + 1) d a (nI i) σ := by
  have hn : nw ≤ 16 := hW.2.2.2.2.1
  have hl : nl ≤ nw := hW.2.2.2.2.2.1
  have eh : ∀ j, j < nl → σ 51 j = nI (hp j) := fun j hj => (hM.2.2.2.2.2.2.2 j hj).trans (hW.2.2.2.2.2.2.2.2.1 j hj).2.1
  have e5 : σ 42 5 = nI nl := hM.2.2.2.2.1
  intro m
  induction m with
  | zero =>
    intro i a hi h
    have : i = nl := by omega
    subst this
    rw [wK42_rottenIn_l4]
    simp (disch := first | assumption | omega | decide) only [li0, li1, li2, li3, li4, li5, li6, li7, li8, li9, li10, li11, li12, li13, li14, li16, li17, li20, li21, li22, li23, li24, li30, li32, li40, li48, li57, li59, li63, li86, li97, li99, li100, li102, li115, li122, li200, li255, li289, li320, li400, li720, li999, li1000, nI_add, pk_mul, nI_sub, nI_clamp, vinT, Nat.le_refl, Nat.reduceLeDiff, Nat.reduceLT, Nat.reduceEqDiff, Nat.reduceAdd, Nat.reduceMul, Nat.reduceSub, forall_eq, true_and, and_true, not_true_eq_false, not_false_eq_true, false_implies, true_implies, implies_true, if_true, if_false, ite_self, nI_eqI, nI_leI2, nI_ltI2, e5]
    exact h
  | succ m ih =>
    intro i a hi h
    have h1 : ¬ nl ≤ i := by omega
    have w1 : hp i < nw := (hW.2.2.2.2.2.2.2.2.1 i (by omega)).1
    rw [wK42_rottenIn_l4]
    simp (disch := first | assumption | omega | decide) only [li0, li1, li2, li3, li4, li5, li6, li7, li8, li9, li10, li11, li12, li13, li14, li16, li17, li20, li21, li22, li23, li24, li30, li32, li40, li48, li57, li59, li63, li86, li97, li99, li100, li102, li115, li122, li200, li255, li289, li320, li400, li720, li999, li1000, nI_add, pk_mul, nI_sub, nI_clamp, vinT, Nat.le_refl, Nat.reduceLeDiff, Nat.reduceLT, Nat.reduceEqDiff, Nat.reduceAdd, Nat.reduceMul, Nat.reduceSub, forall_eq, true_and, and_true, not_true_eq_false, not_false_eq_true, false_implies, true_implies, implies_true, if_true, if_false, ite_self, nI_eqI, nI_leI2, nI_ltI2, e5, h1, eh, eK_valueIn hM hW w1]
    exact ih (i + 1) _ (by omega) h
theorem s_rot_M {d : Int32} (hW : pWF k (σ 89) nb nw nl hp) : ∀ (m i : Nat) (a : Int32), i + m = nl → Q (pRot (σ 89) hp d m i a) σ → wM_rotten_l4 Q (m + 1) d a (nI i) σ := by
  have hn : nw ≤ 16 := hW.2.2.2.2.1
  have hl : nl ≤ nw := hW.2.2.2.2.2.1
  have eh : ∀ j, j < nl → σ 89 (86 + j) = nI (hp j) := fun j hj => (hW.2.2.2.2.2.2.2.2.1 j hj).2.1
  have e5 : σ 89 5 = nI nl := hW.2.2.1
  intro m
  induction m with
  | zero =>
    intro i a hi h
    have : i = nl := by omega
    subst this
    rw [wM_rotten_l4]
    simp (disch := first | assumption | omega | decide) only [li0, li1, li2, li3, li4, li5, li6, li7, li8, li9, li10, li11, li12, li13, li14, li16, li17, li20, li21, li22, li23, li24, li30, li32, li40, li48, li57, li59, li63, li86, li97, li99, li100, li102, li115, li122, li200, li255, li289, li320, li400, li720, li999, li1000, nI_add, pk_mul, nI_sub, nI_clamp, vinT, Nat.le_refl, Nat.reduceLeDiff, Nat.reduceLT, Nat.reduceEqDiff, Nat.reduceAdd, Nat.reduceMul, Nat.reduceSub, forall_eq, true_and, and_true, not_true_eq_false, not_false_eq_true, false_implies, true_implies, implies_true, if_true, if_false, ite_self, nI_eqI, nI_leI2, nI_ltI2, e5]
    exact h
  | succ m ih =>
    intro i a hi h
    have h1 : ¬ nl ≤ i := by omega
    have w1 : hp i < nw := (hW.2.2.2.2.2.2.2.2.1 i (by omega)).1
    rw [wM_rotten_l4]
    rw [pRot] at h
    simp (disch := first | assumption | omega | decide) only [li0, li1, li2, li3, li4, li5, li6, li7, li8, li9, li10, li11, li12, li13, li14, li16, li17, li20, li21, li22, li23, li24, li30, li32, li40, li48, li57, li59, li63, li86, li97, li99, li100, li102, li115, li122, li200, li255, li289, li320, li400, li720, li999, li1000, nI_add, pk_mul, nI_sub, nI_clamp, vinT, Nat.le_refl, Nat.reduceLeDiff, Nat.reduceLT, Nat.reduceEqDiff, Nat.reduceAdd, Nat.reduceMul, Nat.reduceSub, forall_eq, true_and, and_true, not_true_eq_false, not_false_eq_true, false_implies, true_implies, implies_true, if_true, if_false, ite_self, nI_eqI, nI_leI2, nI_ltI2, e5, h1, eh, eM_heap, eM_valueOf]
    refine ⟨fun q => ?_, fun q => ?_⟩
    · rw [if_pos q] at h
      exact ih (i + 1) _ (by omega) h
    · rw [if_neg q] at h
      rw [or_0]
      exact ih (i + 1) _ (by omega) h
theorem pRot_nI {d : Int32} (hh : ∀ i, i < nl → hp i < 16) : ∀ (m i a : Nat), i + m = nl → a < 65536 → ∃ v, v < 65536 ∧ pRot N hp d m i (nI a) = nI v := by
  intro m
  induction m with
  | zero => intro i a _ ha; exact ⟨a, ha, rfl⟩
  | succ m ih =>
    intro i a hi ha
    rw [pRot]
    by_cases q : pV N (hp i) d = nI 0
    · have h16 := hh i (by omega)
      have hs : (2 : Nat) ^ hp i < 2 ^ 16 := Nat.pow_lt_pow_right (by omega) h16
      rw [if_pos q, sh_l (by omega) (by omega), nI_or]
      exact ih (i + 1) _ (by omega) (or_lt 16 (by omega) (by omega))
    · rw [if_neg q]
      exact ih (i + 1) a (by omega) ha
end Rot
theorem op_rots {k : Nat} {x1 x2 : Int32} {σ : gM} (h : pInv k σ) : pBoth (wH_rots x1 x2) (wM_rots x1 x2) σ (pInv k) := by
  obtain ⟨nb, nw, nl, hp, hM, hW⟩ := h.2.2.2.2.2.2.1
  have hn : nw ≤ 16 := hW.2.2.2.2.1
  have hl : nl ≤ nw := hW.2.2.2.2.2.1
  have e5 : σ 42 5 = nI nl := hM.2.2.2.2.1
  have e5' : σ 89 5 = nI nl := hW.2.2.1
  have hhp : ∀ i, i < nl → hp i < 16 := fun i hi => by have := (hW.2.2.2.2.2.2.2.2.1 i hi).1; omega
  obtain ⟨es, h01⟩ := e_stands h
  have n01 : ¬ nI 1 = nI 0 := by decide
  unfold pBoth wH_rots
  rcases h01 with z | z
  · simp only [es, z, Nat.le_refl, Nat.reduceLeDiff, Nat.reduceLT, Nat.reduceEqDiff, Nat.reduceAdd, Nat.reduceMul, Nat.reduceSub, forall_eq, true_and, and_true, not_true_eq_false, not_false_eq_true, false_implies, true_implies, implies_true, if_true, if_false, ite_self, wM_rots]
    exact h
  simp only [es, z, n01, Nat.le_refl, Nat.reduceLeDiff, Nat.reduceLT, Nat.reduceEqDiff, Nat.reduceAdd, Nat.reduceMul, Nat.reduceSub, forall_eq, true_and, and_true, not_true_eq_false, not_false_eq_true, false_implies, true_implies, implies_true, if_true, if_false, ite_self]
  rcases i_nat x1 with h1 | ⟨d, hd, rfl⟩
  · simp (disch := first | assumption | omega | decide) only [li0, li1, li2, li3, li4, li5, li6, li7, li8, li9, li10, li11, li12, li13, li14, li16, li17, li20, li21, li22, li23, li24, li30, li32, li40, li48, li57, li59, li63, li86, li97, li99, li100, li102, li115, li122, li200, li255, li289, li320, li400, li720, li999, li1000, nI_add, pk_mul, nI_sub, nI_clamp, vinT, Nat.le_refl, Nat.reduceLeDiff, Nat.reduceLT, Nat.reduceEqDiff, Nat.reduceAdd, Nat.reduceMul, Nat.reduceSub, forall_eq, true_and, and_true, not_true_eq_false, not_false_eq_true, false_implies, true_implies, implies_true, if_true, if_false, ite_self, nI_eqI, nI_leI2, nI_ltI2, ng_lt, ng_le, ng_gt, ng_ge, ng_eq, ng_qe, z, wM_rots, eM_in]
    exact h
  by_cases hd9 : 99 < d
  · simp (disch := first | assumption | omega | decide) only [li0, li1, li2, li3, li4, li5, li6, li7, li8, li9, li10, li11, li12, li13, li14, li16, li17, li20, li21, li22, li23, li24, li30, li32, li40, li48, li57, li59, li63, li86, li97, li99, li100, li102, li115, li122, li200, li255, li289, li320, li400, li720, li999, li1000, nI_add, pk_mul, nI_sub, nI_clamp, vinT, Nat.le_refl, Nat.reduceLeDiff, Nat.reduceLT, Nat.reduceEqDiff, Nat.reduceAdd, Nat.reduceMul, Nat.reduceSub, forall_eq, true_and, and_true, not_true_eq_false, not_false_eq_true, false_implies, true_implies, implies_true, if_true, if_false, ite_self, nI_eqI, nI_leI2, nI_ltI2, z, wM_rots, eM_in, hd9, Nat.not_lt_zero]
    exact h
  rcases i_nat x2 with h2 | ⟨y, hy, rfl⟩
  · simp (disch := first | assumption | omega | decide) only [li0, li1, li2, li3, li4, li5, li6, li7, li8, li9, li10, li11, li12, li13, li14, li16, li17, li20, li21, li22, li23, li24, li30, li32, li40, li48, li57, li59, li63, li86, li97, li99, li100, li102, li115, li122, li200, li255, li289, li320, li400, li720, li999, li1000, nI_add, pk_mul, nI_sub, nI_clamp, vinT, Nat.le_refl, Nat.reduceLeDiff, Nat.reduceLT, Nat.reduceEqDiff, Nat.reduceAdd, Nat.reduceMul, Nat.reduceSub, forall_eq, true_and, and_true, not_true_eq_false, not_false_eq_true, false_implies, true_implies, implies_true, if_true, if_false, ite_self, nI_eqI, nI_leI2, nI_ltI2, ng_lt, ng_le, ng_gt, ng_ge, ng_eq, ng_qe, z, wM_rots, eM_in, hd9, Nat.not_lt_zero]
    exact h
  by_cases hy2 : y ≤ 2
  · have hy3 : ¬ 2 < y := by omega
    obtain ⟨v, hv, ev⟩ := pRot_nI (N := σ 89) (d := nI d) hhp nl 0 0 (by omega) (by omega)
    simp (disch := first | assumption | omega | decide) only [li0, li1, li2, li3, li4, li5, li6, li7, li8, li9, li10, li11, li12, li13, li14, li16, li17, li20, li21, li22, li23, li24, li30, li32, li40, li48, li57, li59, li63, li86, li97, li99, li100, li102, li115, li122, li200, li255, li289, li320, li400, li720, li999, li1000, nI_add, pk_mul, nI_sub, nI_clamp, vinT, Nat.le_refl, Nat.reduceLeDiff, Nat.reduceLT, Nat.reduceEqDiff, Nat.reduceAdd, Nat.reduceMul, Nat.reduceSub, forall_eq, true_and, and_true, not_true_eq_false, not_false_eq_true, false_implies, true_implies, implies_true, if_true, if_false, ite_self, nI_eqI, nI_leI2, nI_ltI2, hd9, Nat.not_lt_zero, hy2, wK42_rottenIn]
    have key : ∀ u : Int32, (∀ Q : Int32 → gM → Prop, Q u σ → wM_rots_b75 Q (nI y) (nI v) (if nl = 0 then nI 0 else (nI 1 <<< (nI (hp 0) &&& 31)) ||| (nI 1 <<< (nI (hp (nl - 1)) &&& 31))) σ) → wM_rots (nI d) (nI y) σ (fun r2 σ2 => u = r2 ∧ pInv k σ2) := by
      intro u hu
      unfold wM_rots wM_rotten
      simp (disch := first | assumption | omega | decide) only [li0, li1, li2, li3, li4, li5, li6, li7, li8, li9, li10, li11, li12, li13, li14, li16, li17, li20, li21, li22, li23, li24, li30, li32, li40, li48, li57, li59, li63, li86, li97, li99, li100, li102, li115, li122, li200, li255, li289, li320, li400, li720, li999, li1000, nI_add, pk_mul, nI_sub, nI_clamp, vinT, Nat.le_refl, Nat.reduceLeDiff, Nat.reduceLT, Nat.reduceEqDiff, Nat.reduceAdd, Nat.reduceMul, Nat.reduceSub, forall_eq, true_and, and_true, not_true_eq_false, not_false_eq_true, false_implies, true_implies, implies_true, if_true, if_false, ite_self, nI_eqI, nI_leI2, nI_ltI2, z, eM_in, hd9, hy3, Nat.not_lt_zero]
      refine ⟨nl + 1, s_rot_M hW nl 0 (nI 0) (by omega) ?_⟩
      rw [ev]
      by_cases hz : nl = 0
      · rw [if_pos hz] at hu
        simp (disch := first | assumption | omega | decide) only [li0, li1, li2, li3, li4, li5, li6, li7, li8, li9, li10, li11, li12, li13, li14, li16, li17, li20, li21, li22, li23, li24, li30, li32, li40, li48, li57, li59, li63, li86, li97, li99, li100, li102, li115, li122, li200, li255, li289, li320, li400, li720, li999, li1000, nI_add, pk_mul, nI_sub, nI_clamp, vinT, Nat.le_refl, Nat.reduceLeDiff, Nat.reduceLT, Nat.reduceEqDiff, Nat.reduceAdd, Nat.reduceMul, Nat.reduceSub, forall_eq, true_and, and_true, not_true_eq_false, not_false_eq_true, false_implies, true_implies, implies_true, if_true, if_false, ite_self, nI_eqI, nI_leI2, nI_ltI2, e5', hz]
        exact hu _ ⟨rfl, h⟩
      · rw [if_neg hz] at hu
        have q0 := (hW.2.2.2.2.2.2.2.2.1 0 (by omega)).2.1
        have q1 := (hW.2.2.2.2.2.2.2.2.1 (nl - 1) (by omega)).2.1
        have q0 : σ 89 86 = nI (hp 0) := q0
        simp (disch := first | assumption | omega | decide) only [li0, li1, li2, li3, li4, li5, li6, li7, li8, li9, li10, li11, li12, li13, li14, li16, li17, li20, li21, li22, li23, li24, li30, li32, li40, li48, li57, li59, li63, li86, li97, li99, li100, li102, li115, li122, li200, li255, li289, li320, li400, li720, li999, li1000, nI_add, pk_mul, nI_sub, nI_clamp, vinT, Nat.le_refl, Nat.reduceLeDiff, Nat.reduceLT, Nat.reduceEqDiff, Nat.reduceAdd, Nat.reduceMul, Nat.reduceSub, forall_eq, true_and, and_true, not_true_eq_false, not_false_eq_true, false_implies, true_implies, implies_true, if_true, if_false, ite_self, nI_eqI, nI_leI2, nI_ltI2, e5', hz, eM_heap, q0, q1]
        exact hu _ ⟨rfl, h⟩
    refine ⟨nl + 1, s_rot_H hM hW nl 0 (nI 0) (by omega) ?_⟩
    rw [ev]
    have hy012 : y = 0 ∨ y = 1 ∨ y = 2 := by omega
    rcases hy012 with rfl | rfl | rfl
    · simp (disch := first | assumption | omega | decide) only [li0, li1, li2, li3, li4, li5, li6, li7, li8, li9, li10, li11, li12, li13, li14, li16, li17, li20, li21, li22, li23, li24, li30, li32, li40, li48, li57, li59, li63, li86, li97, li99, li100, li102, li115, li122, li200, li255, li289, li320, li400, li720, li999, li1000, nI_add, pk_mul, nI_sub, nI_clamp, vinT, Nat.le_refl, Nat.reduceLeDiff, Nat.reduceLT, Nat.reduceEqDiff, Nat.reduceAdd, Nat.reduceMul, Nat.reduceSub, forall_eq, true_and, and_true, not_true_eq_false, not_false_eq_true, false_implies, true_implies, implies_true, if_true, if_false, ite_self, nI_eqI, nI_leI2, nI_ltI2, e_bitCount hv]
      refine key _ (fun Q hQ => ?_)
      unfold wM_rots_b75 wM_bits
      simp (disch := first | assumption | omega | decide) only [li0, li1, li2, li3, li4, li5, li6, li7, li8, li9, li10, li11, li12, li13, li14, li16, li17, li20, li21, li22, li23, li24, li30, li32, li40, li48, li57, li59, li63, li86, li97, li99, li100, li102, li115, li122, li200, li255, li289, li320, li400, li720, li999, li1000, nI_add, pk_mul, nI_sub, nI_clamp, vinT, Nat.le_refl, Nat.reduceLeDiff, Nat.reduceLT, Nat.reduceEqDiff, Nat.reduceAdd, Nat.reduceMul, Nat.reduceSub, forall_eq, true_and, and_true, not_true_eq_false, not_false_eq_true, false_implies, true_implies, implies_true, if_true, if_false, ite_self, nI_eqI, nI_leI2, nI_ltI2]
      exact ⟨17, s_bits hv 16 0 0 (by omega) hQ⟩
    · simp (disch := first | assumption | omega | decide) only [li0, li1, li2, li3, li4, li5, li6, li7, li8, li9, li10, li11, li12, li13, li14, li16, li17, li20, li21, li22, li23, li24, li30, li32, li40, li48, li57, li59, li63, li86, li97, li99, li100, li102, li115, li122, li200, li255, li289, li320, li400, li720, li999, li1000, nI_add, pk_mul, nI_sub, nI_clamp, vinT, Nat.le_refl, Nat.reduceLeDiff, Nat.reduceLT, Nat.reduceEqDiff, Nat.reduceAdd, Nat.reduceMul, Nat.reduceSub, forall_eq, true_and, and_true, not_true_eq_false, not_false_eq_true, false_implies, true_implies, implies_true, if_true, if_false, ite_self, nI_eqI, nI_leI2, nI_ltI2]
      refine key _ (fun Q hQ => ?_)
      unfold wM_rots_b75
      simp (disch := first | assumption | omega | decide) only [li0, li1, li2, li3, li4, li5, li6, li7, li8, li9, li10, li11, li12, li13, li14, li16, li17, li20, li21, li22, li23, li24, li30, li32, li40, li48, li57, li59, li63, li86, li97, li99, li100, li102, li115, li122, li200, li255, li289, li320, li400, li720, li999, li1000, nI_add, pk_mul, nI_sub, nI_clamp, vinT, Nat.le_refl, Nat.reduceLeDiff, Nat.reduceLT, Nat.reduceEqDiff, Nat.reduceAdd, Nat.reduceMul, Nat.reduceSub, forall_eq, true_and, and_true, not_true_eq_false, not_false_eq_true, false_implies, true_implies, implies_true, if_true, if_false, ite_self, nI_eqI, nI_leI2, nI_ltI2]
      exact hQ
    · simp (disch := first | assumption | omega | decide) only [li0, li1, li2, li3, li4, li5, li6, li7, li8, li9, li10, li11, li12, li13, li14, li16, li17, li20, li21, li22, li23, li24, li30, li32, li40, li48, li57, li59, li63, li86, li97, li99, li100, li102, li115, li122, li200, li255, li289, li320, li400, li720, li999, li1000, nI_add, pk_mul, nI_sub, nI_clamp, vinT, Nat.le_refl, Nat.reduceLeDiff, Nat.reduceLT, Nat.reduceEqDiff, Nat.reduceAdd, Nat.reduceMul, Nat.reduceSub, forall_eq, true_and, and_true, not_true_eq_false, not_false_eq_true, false_implies, true_implies, implies_true, if_true, if_false, ite_self, nI_eqI, nI_leI2, nI_ltI2, wK42_bitsAtEnds, wK42_wareAt, e5]
      have k2 : ∀ s : Int32, ∀ Q : Int32 → gM → Prop, Q (nI v &&& (s ^^^ (-1 : Int32))) σ → wM_rots_b75 Q (nI 2) (nI v) s σ := fun s Q hQ => by
        unfold wM_rots_b75
        rw [show (-1 : Int32) = -nI 1 from rfl] at hQ
        simp (disch := first | assumption | omega | decide) only [li0, li1, li2, li3, li4, li5, li6, li7, li8, li9, li10, li11, li12, li13, li14, li16, li17, li20, li21, li22, li23, li24, li30, li32, li40, li48, li57, li59, li63, li86, li97, li99, li100, li102, li115, li122, li200, li255, li289, li320, li400, li720, li999, li1000, nI_add, pk_mul, nI_sub, nI_clamp, vinT, Nat.le_refl, Nat.reduceLeDiff, Nat.reduceLT, Nat.reduceEqDiff, Nat.reduceAdd, Nat.reduceMul, Nat.reduceSub, forall_eq, true_and, and_true, not_true_eq_false, not_false_eq_true, false_implies, true_implies, implies_true, if_true, if_false, ite_self, nI_eqI, nI_leI2, nI_ltI2]
        exact hQ
      refine ⟨fun hz => key _ (fun Q hQ => k2 _ Q ?_), fun hz => ?_⟩
      · rw [if_pos hz]; exact hQ
      · have hnl : 1 ≤ nl := by omega
        have q0 : σ 51 0 = nI (hp 0) := (hM.2.2.2.2.2.2.2 0 (by omega)).trans (hW.2.2.2.2.2.2.2.2.1 0 (by omega)).2.1
        have q1 : σ 51 (nl - 1) = nI (hp (nl - 1)) := (hM.2.2.2.2.2.2.2 (nl - 1) (by omega)).trans (hW.2.2.2.2.2.2.2.2.1 (nl - 1) (by omega)).2.1
        simp (disch := first | assumption | omega | decide) only [li0, li1, li2, li3, li4, li5, li6, li7, li8, li9, li10, li11, li12, li13, li14, li16, li17, li20, li21, li22, li23, li24, li30, li32, li40, li48, li57, li59, li63, li86, li97, li99, li100, li102, li115, li122, li200, li255, li289, li320, li400, li720, li999, li1000, nI_add, pk_mul, nI_sub, nI_clamp, vinT, Nat.le_refl, Nat.reduceLeDiff, Nat.reduceLT, Nat.reduceEqDiff, Nat.reduceAdd, Nat.reduceMul, Nat.reduceSub, forall_eq, true_and, and_true, not_true_eq_false, not_false_eq_true, false_implies, true_implies, implies_true, if_true, if_false, ite_self, nI_eqI, nI_leI2, nI_ltI2, q0, q1]
        refine key _ (fun Q hQ => k2 _ Q ?_)
        rw [if_neg hz]; exact hQ
  · have hy3 : 2 < y := by omega
    simp (disch := first | assumption | omega | decide) only [li0, li1, li2, li3, li4, li5, li6, li7, li8, li9, li10, li11, li12, li13, li14, li16, li17, li20, li21, li22, li23, li24, li30, li32, li40, li48, li57, li59, li63, li86, li97, li99, li100, li102, li115, li122, li200, li255, li289, li320, li400, li720, li999, li1000, nI_add, pk_mul, nI_sub, nI_clamp, vinT, Nat.le_refl, Nat.reduceLeDiff, Nat.reduceLT, Nat.reduceEqDiff, Nat.reduceAdd, Nat.reduceMul, Nat.reduceSub, forall_eq, true_and, and_true, not_true_eq_false, not_false_eq_true, false_implies, true_implies, implies_true, if_true, if_false, ite_self, nI_eqI, nI_leI2, nI_ltI2, z, wM_rots, eM_in, hd9, hy2, hy3, Nat.not_lt_zero]
    exact h
