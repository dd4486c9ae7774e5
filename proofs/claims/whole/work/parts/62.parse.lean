section Parse
def wareK (Q : Int32 → gM → Prop) (r13 : Int32) (σ13 : gM) : Prop := (r13 = nI 0 → (Q (nI 0) σ13)) ∧ (¬ (r13 = nI 0) → (vp_in (((nI 3) * (σ13 82 14)) + (nI 1)) 30 ∧ (∀ σ15 : gM, σ15 = gU σ13 88 (((nI 3) * (σ13 82 14)) + (nI 1)).toNatClampNeg (σ13 82 10) → (wM_isNext (nI 0) (nI 9) σ15 (fun (r17 : Int32) (σ17 : gM) => (r17 = nI 0 → (Q (nI 0) σ17)) ∧ (¬ (r17 = nI 0) → (vp_in (((nI 3) * (σ17 82 14)) + (nI 2)) 30 ∧ (∀ σ19 : gM, σ19 = gU σ17 88 (((nI 3) * (σ17 82 14)) + (nI 2)).toNatClampNeg (σ17 82 10) → (∀ σ20 : gM, σ20 = gU σ19 82 14 ((σ19 82 14) + (nI 1)) → (wM_ends  σ20 (fun (r22 : Int32) (σ22 : gM) => (r22 = nI 0 ∨ r22 = nI 1) ∧ Q r22 σ22)))))))))))
variable {t : Nat} {f : Nat → Int32} {p : Nat} {D : Nat → Nat}
theorem j_ware (ht : t ≤ 400) (hp : p ≤ t) (hB4 : D 1 ≤ 4) (h4 : D 2 < 10) :
    (∃ num s, (1 ≤ num ∧ num ≤ 3) ∧ s ≤ t ∧ (∀ (σ : gM) (Q : gM → Prop), RC f t p σ → (∀ σ', pF18 σ σ' → FC num s σ' → Q σ') → restW σ Q) ∧ (∀ (τ0 τ : gM) (Q : Int32 → gM → Prop), pFr τ0 τ → RM f t p τ → DM D τ → (∀ τ', pFr τ0 τ' → τ' 82 11 = nI num → τ' 82 7 = nI s → Q (nI 0) τ') → wM_isWare τ Q)) ∨
    (∃ kd wo ag p', 1 ≤ kd ∧ kd ≤ 5 ∧ wo ≤ 30 ∧ ag ≤ 9 ∧ p' ≤ t ∧ (∀ (σ : gM) (Q : gM → Prop), RC f t p σ → DC D σ → (∀ σ', pFc σ σ' → RC f t p' σ' → DC (addW D kd wo ag) σ' → Q σ') → restW σ Q) ∧ (∀ (τ0 τ : gM) (Q : Int32 → gM → Prop), pFr τ0 τ → RM f t p τ → DM D τ → (∀ τ', pFr τ0 τ' → τ' 82 11 = τ 82 11 → RM f t p' τ' → DM (addW D kd wo ag) τ' → Q (nI 1) τ') → wM_isWare τ Q)) := by
  have n01 : ¬ nI 1 = nI 0 := by decide
  have q4 : ¬ D 2 = 10 := by omega
  have fin : ∀ (num s : Nat) (σ σ1 : gM) (Q : gM → Prop), (1 ≤ num ∧ num ≤ 3) → pF18 σ σ1 → FC num s σ1 → (∀ σ', pF18 σ σ' → FC num s σ' → Q σ') → ∀ r7 r9 r11 : Int32, ((σ1 18 1) = nI 0 → (wK52_addWare r7 r9 r11 (nI 1) σ1 (fun (r16 : Int32) (σ16 : gM) => Q σ16))) ∧ (¬ ((σ1 18 1) = nI 0) → (Q σ1)) := fun num s σ σ1 Q hn h1 h2 hQ r7 r9 r11 => by
    have : ¬ σ1 18 1 = nI 0 := by rw [h2.1, nI_eqI (by omega) (by omega)]; omega
    exact ⟨fun z => absurd z this, fun _ => hQ σ1 h1 h2⟩
  have hs := tS_spec (f := f) hp
  rcases j_sort (f := f) ht hp with ⟨c0, m0⟩ | ⟨kd, p1, hk1, hk5, hp1, hpe, c0, m0⟩
  · refine Or.inl ⟨1, _, by omega, hs.2, fun σ Q hR hQ => ?_, fun τ0 τ Q hF hR hD hQ => ?_⟩
    · refine c0 σ _ hR (fun σ1 f1 g1 => f_num (by omega) g1 (fun σ2 f2 g2 => f_num (by omega) g2 (fun σ3 f3 g3 => f_sign (by omega) g3 (fun σ4 f4 g4 => ?_))))
      exact fin 1 _ σ σ4 Q (by omega) (pF18_tr f1 (pF18_tr f2 (pF18_tr f3 f4))) g4 hQ _ _ _
    · unfold wM_isWare
      simp (disch := first | assumption | omega | decide) only [hD.2.2.1, nI_eqI, q4, not_false_eq_true, false_implies, true_implies, true_and]
      refine s_next ht hp hR.1 hR.2 (fun τ' g1 g2 => ?_)
      intro v7 hv7
      have hz : v7 = nI 0 := hv7.trans (m0 _ g2.2.2.1)
      subst hz
      simp (disch := first | assumption | omega | decide) only [Nat.le_refl, Nat.reduceLeDiff, Nat.reduceLT, Nat.reduceEqDiff, Nat.reduceAdd, Nat.reduceMul, Nat.reduceSub, forall_eq, true_and, and_true, not_true_eq_false, not_false_eq_true, false_implies, true_implies, implies_true, if_true, if_false, ite_self, wM_fails, true_or]
      exact hQ _ (pFr_m hF (pFm_11 (pFm_of g1))) gU_eq (by rw [gU_off (by omega)]; exact g2.1)
  · have hs1 := tS_spec (f := f) hp1
    have qk : ¬ kd = 0 := by omega
    -- the reference, past the sort
    have mod1 : ∀ (τ0 τ : gM) (Q : Int32 → gM → Prop), pFr τ0 τ → RM f t p τ → DM D τ → (∀ τ1, pFr τ0 τ1 → τ1 82 11 = τ 82 11 → RM f t p1 τ1 → DM D τ1 → τ1 88 (3 * D 2) = nI kd → wM_isNext (nI 0) (nI 30) τ1 (wareK Q)) → wM_isWare τ Q := by
      intro τ0 τ Q hF hR hD hQ
      unfold wM_isWare
      simp (disch := first | assumption | omega | decide) only [hD.2.2.1, nI_eqI, q4, not_false_eq_true, false_implies, true_implies, true_and]
      refine s_next ht hp hR.1 hR.2 (fun τ' g1 g2 => ?_)
      intro v7 hv7
      have hz : v7 = nI kd := hv7.trans (m0 _ g2.2.2.1)
      subst hz
      have d1 := DM_n g1 hD
      have d14 := d1.2.2.1
      refine ⟨fun z => absurd z (by rw [nI_eqI (by omega) (by omega)]; exact qk), fun _ => ?_⟩
      refine ⟨by rw [d14, pk_mul, vinT (by omega) (by omega)]; trivial, ?_⟩
      intro σ11 h11
      rw [d14, pk_mul, nI_clamp (by omega)] at h11
      subst h11
      obtain ⟨e0, e1, e2, eB, eW⟩ := d1
      have hRM : RM f t p1 τ' := ⟨pNxF_MS g1 hR.1, by rw [hpe]; exact g2.2.1⟩
      refine hQ _ (pFr_U (pFr_m hF (pFm_of g1)) (by omega)) (by rw [gU_ne (by omega), g1.2 11 (by omega) (by omega) (by omega) (by omega) (by omega) (by omega)]) (RM_U hRM (by omega)) ⟨by rw [gU_ne (by omega)]; exact e0, by rw [gU_ne (by omega)]; exact e1, by rw [gU_ne (by omega)]; exact e2, fun i hi => by rw [gU_ne (by omega)]; exact eB i hi, fun i hi => by rw [gU_off (by omega), gU_off (by omega), gU_off (by omega)]; exact eW i hi⟩ gU_eq
    rcases j_num (f := f) ht hp1 (most := 30) (by omega) with ⟨num, hn, c1, m1⟩ | ⟨wo, p2, ha, hp2, c1, m1⟩
    · refine Or.inl ⟨num, _, hn, hs1.2, fun σ Q hR hQ => ?_, fun τ0 τ Q hF hR hD hQ => ?_⟩
      · refine c0 σ _ hR (fun σ1 f1 g1 => c1 σ1 _ g1 (fun σ2 f2 g2 => f_num hn g2 (fun σ3 f3 g3 => f_sign hn g3 (fun σ4 f4 g4 => ?_))))
        exact fin num _ σ σ4 Q hn (pF18_tr f1 (pF18_tr f2 (pF18_tr f3 f4))) g4 hQ _ _ _
      · refine mod1 τ0 τ Q hF hR hD (fun τ1 a1 a2 a3 a4 a5 => m1 τ1 _ a3 (fun τ2 b1 b2 b3 => ?_))
        simp only [Nat.le_refl, Nat.reduceLeDiff, Nat.reduceLT, Nat.reduceEqDiff, Nat.reduceAdd, Nat.reduceMul, Nat.reduceSub, forall_eq, true_and, and_true, not_true_eq_false, not_false_eq_true, false_implies, true_implies, implies_true, if_true, if_false, ite_self, wareK]
        exact hQ τ2 (pFr_m a1 b1) b2 b3
    · have hs2 := tS_spec (f := f) hp2
      rcases j_num (f := f) ht hp2 (most := 9) (by omega) with ⟨num, hn, c2, m2⟩ | ⟨ag, p3, hb, hp3, c2, m2⟩
      · refine Or.inl ⟨num, _, hn, hs2.2, fun σ Q hR hQ => ?_, fun τ0 τ Q hF hR hD hQ => ?_⟩
        · refine c0 σ _ hR (fun σ1 f1 g1 => c1 σ1 _ g1 (fun σ2 f2 g2 => c2 σ2 _ g2 (fun σ3 f3 g3 => f_sign hn g3 (fun σ4 f4 g4 => ?_))))
          exact fin num _ σ σ4 Q hn (pF18_tr f1 (pF18_tr f2 (pF18_tr f3 f4))) g4 hQ _ _ _
        · refine mod1 τ0 τ Q hF hR hD (fun τ1 a1 a2 a3 a4 a5 => m1 τ1 _ a3 (fun τ2 b1 b2 b3 => ?_))
          have d14 := (DM_n b1 a4).2.2.1
          simp (disch := first | assumption | omega | decide) only [Nat.le_refl, Nat.reduceLeDiff, Nat.reduceLT, Nat.reduceEqDiff, Nat.reduceAdd, Nat.reduceMul, Nat.reduceSub, forall_eq, true_and, and_true, not_true_eq_false, not_false_eq_true, false_implies, true_implies, implies_true, if_true, if_false, ite_self, wareK, n01, d14, pk_mul, nI_add, vinT, nI_clamp]
          refine m2 _ _ (RM_U b2 (by omega)) (fun τ3 u1 u2 u3 => ?_)
          simp only [Nat.le_refl, Nat.reduceLeDiff, Nat.reduceLT, Nat.reduceEqDiff, Nat.reduceAdd, Nat.reduceMul, Nat.reduceSub, forall_eq, true_and, and_true, not_true_eq_false, not_false_eq_true, false_implies, true_implies, implies_true, if_true, if_false, ite_self]
          exact hQ τ3 (pFr_m (pFr_U (pFr_m a1 (pFm_of b1)) (by omega)) u1) u2 u3
      · have hs3 := tS_spec (f := f) hp3
        have mod : ∀ (τ0 τ : gM) (Q : Int32 → gM → Prop), pFr τ0 τ → RM f t p τ → DM D τ → (∀ τ3, pFr τ0 τ3 → τ3 82 11 = τ 82 11 → RM f t p3 τ3 → DM (addW D kd wo ag) τ3 → wM_ends τ3 (fun r14 σ14 => (r14 = nI 0 ∨ r14 = nI 1) ∧ Q r14 σ14)) → wM_isWare τ Q := by
          intro τ0 τ Q hF hR hD hQ
          refine mod1 τ0 τ Q hF hR hD (fun τ1 a1 a2 a3 a4 a5 => m1 τ1 _ a3 (fun τ2 b1 b2 b3 => ?_))
          have d1 := DM_n b1 a4
          have d14 := d1.2.2.1
          simp (disch := first | assumption | omega | decide) only [Nat.le_refl, Nat.reduceLeDiff, Nat.reduceLT, Nat.reduceEqDiff, Nat.reduceAdd, Nat.reduceMul, Nat.reduceSub, forall_eq, true_and, and_true, not_true_eq_false, not_false_eq_true, false_implies, true_implies, implies_true, if_true, if_false, ite_self, wareK, n01, d14, pk_mul, nI_add, vinT, nI_clamp]
          refine m2 _ _ (RM_U b2 (by omega)) (fun τ3 u1 u2 u3 => ?_)
          have d14' : τ3 82 14 = nI (D 2) := by rw [u1.2 14 (by omega) (by omega) (by omega) (by omega) (by omega) (by omega), gU_ne (by omega)]; exact d14
          simp (disch := first | assumption | omega | decide) only [Nat.le_refl, Nat.reduceLeDiff, Nat.reduceLT, Nat.reduceEqDiff, Nat.reduceAdd, Nat.reduceMul, Nat.reduceSub, forall_eq, true_and, and_true, not_true_eq_false, not_false_eq_true, false_implies, true_implies, implies_true, if_true, if_false, ite_self, n01, d14', pk_mul, nI_add, vinT, nI_clamp, gU_ne]
          have hF3 : pFr τ0 τ3 := pFr_m (pFr_U (pFr_m a1 (pFm_of b1)) (by omega)) (pFm_of u1)
          obtain ⟨e0, e1, e2, eB, eW⟩ := d1
          have e88 : τ2 88 (3 * D 2) = nI kd := by rw [b1.1 88 (by omega)]; exact a5
          refine hQ _ (pFr_82 (pFr_U hF3 (by omega)) (by omega)) ?_ (RM_U (RM_U u2 (by omega)) (by omega)) ⟨?_, ?_, ?_, fun i hi => ?_, fun i hi => ?_⟩
          · rw [gU_off (by omega), gU_ne (by omega), u1.2 11 (by omega) (by omega) (by omega) (by omega) (by omega) (by omega), gU_ne (by omega), b1.2 11 (by omega) (by omega) (by omega) (by omega) (by omega) (by omega)]; exact a2
          · rw [gU_off (by omega), gU_ne (by omega), u1.2 12 (by omega) (by omega) (by omega) (by omega) (by omega) (by omega), gU_ne (by omega), addW_ne (by omega) (by omega) (by omega) (by omega)]; exact e0
          · rw [gU_off (by omega), gU_ne (by omega), u1.2 13 (by omega) (by omega) (by omega) (by omega) (by omega) (by omega), gU_ne (by omega), addW_ne (by omega) (by omega) (by omega) (by omega)]; exact e1
          · rw [gU_eq, addW_2]
          · rw [addW_ne (by omega) (by omega) (by omega) (by omega)] at hi
            rw [gU_ne (by omega), gU_ne (by omega), u1.1 87 (by omega), gU_ne (by omega), addW_ne (by omega) (by omega) (by omega) (by omega), addW_ne (by omega) (by omega) (by omega) (by omega)]
            exact eB i hi
          · rw [addW_2] at hi
            rw [gU_ne (by omega)]
            by_cases e : i = D 2
            · subst e
              rw [addW_at.1, addW_at.2.1, addW_at.2.2, gU_eq, gU_off (by omega), gU_off (by omega), u1.1 88 (by omega), gU_eq, gU_off (by omega), u3, b3]
              exact ⟨e88, rfl, rfl⟩
            · rw [gU_off (by omega), gU_off (by omega), gU_off (by omega), u1.1 88 (by omega), gU_off (by omega), gU_off (by omega), gU_off (by omega), addW_ne (by omega) (by omega) (by omega) (by omega), addW_ne (by omega) (by omega) (by omega) (by omega), addW_ne (by omega) (by omega) (by omega) (by omega)]
              exact eW i (by omega)
        rcases j_sign (f := f) ht hp3 with ⟨c3, m3⟩ | ⟨p4, hp4, c3, m3⟩
        · refine Or.inl ⟨1, _, by omega, hs3.2, fun σ Q hR hQ => ?_, fun τ0 τ Q hF hR hD hQ => ?_⟩
          · refine c0 σ _ hR (fun σ1 f1 g1 => c1 σ1 _ g1 (fun σ2 f2 g2 => c2 σ2 _ g2 (fun σ3 f3 g3 => c3 σ3 _ g3 (fun σ4 f4 g4 => ?_))))
            exact fin 1 _ σ σ4 Q (by omega) (pF18_tr f1 (pF18_tr f2 (pF18_tr f3 f4))) g4 hQ _ _ _
          · exact mod τ0 τ Q hF hR hD (fun τ3 a1 a2 a3 a4 => m3 τ3 _ a3 (fun τ4 b1 b2 b3 => ⟨Or.inl rfl, hQ τ4 (pFr_m a1 b1) b2 b3⟩))
        · refine Or.inr ⟨kd, wo, ag, p4, hk1, hk5, ha, hb, hp4, fun σ Q hR hD hQ => ?_, fun τ0 τ Q hF hR hD hQ => ?_⟩
          · refine c0 σ _ hR (fun σ1 f1 g1 => c1 σ1 _ g1 (fun σ2 f2 g2 => c2 σ2 _ g2 (fun σ3 f3 g3 => c3 σ3 _ g3 (fun σ4 f4 g4 => ?_))))
            have hF4 := pF18_tr f1 (pF18_tr f2 (pF18_tr f3 f4))
            have hD4 := DC_18 hF4 hD
            simp only [g4.2.1, Nat.le_refl, Nat.reduceLeDiff, Nat.reduceLT, Nat.reduceEqDiff, Nat.reduceAdd, Nat.reduceMul, Nat.reduceSub, forall_eq, true_and, and_true, not_true_eq_false, not_false_eq_true, false_implies, true_implies, implies_true, if_true, if_false, ite_self]
            exact c_addWare hD4 hB4 h4 (fun σ5 u1 u2 => hQ σ5 (fun c hc hc2 => by rw [u1 c hc2, hF4 c hc]) (RC_c g4 (u1 18 (by omega)) (u1 19 (by omega))) u2)
          · exact mod τ0 τ Q hF hR hD (fun τ3 a1 a2 a3 a4 => m3 τ3 _ a3 (fun τ4 b1 b2 => ⟨Or.inr rfl, hQ τ4 (pFr_m a1 (pFm_of b1)) (by rw [b1.2 11 (by omega) (by omega) (by omega) (by omega) (by omega) (by omega)]; exact a2) b2 (DM_n b1 a4)⟩))
/-! how it ends: a fault's number and place, or what was told -/
def oOK (t : Nat) (o : Sum (Nat × Nat) (Nat → Nat)) : Prop := match o with
  | .inl e => (1 ≤ e.1 ∧ e.1 ≤ 3) ∧ e.2 ≤ t
  | .inr D => WFD D
def oC (σ0 : gM) (Q : Int32 → gM → Prop) (o : Sum (Nat × Nat) (Nat → Nat)) : Prop := match o with
  | .inl e => ∀ σ', pFc σ0 σ' → σ' 18 0 = nI 0 → σ' 18 1 = nI e.1 → σ' 18 2 = nI e.2 → σ' 19 = σ0 19 → Q (nI 0) σ'
  | .inr D => ∀ σ', pFc σ0 σ' → σ' 18 0 = nI 0 → DC D σ' → σ' 19 = σ0 19 → Q (nI 1) σ'
def oM (τ0 : gM) (Q : Int32 → gM → Prop) (o : Sum (Nat × Nat) (Nat → Nat)) : Prop := match o with
  | .inl e => ∀ τ', pFr τ0 τ' → τ' 82 11 = nI e.1 → τ' 82 7 = nI e.2 → Q (nI 0) τ'
  | .inr D => ∀ τ', pFr τ0 τ' → τ' 82 11 = τ0 82 11 → DM D τ' → Q (nI 1) τ'
theorem f_81 {σ0 σ : gM} {num s : Nat} {Q : Int32 → gM → Prop} (hn : 1 ≤ num ∧ num ≤ 3) (hF : pFc σ0 σ) (h : FC num s σ) (hQ : oC σ0 Q (.inl (num, s))) : wT_readInto_52_b81 Q σ := by
  unfold wT_readInto_52_b81
  simp (disch := first | assumption | omega | decide) only [h.2.2, nI_eqI, Nat.le_refl, Nat.reduceLeDiff, Nat.reduceLT, Nat.reduceEqDiff, Nat.reduceAdd, Nat.reduceMul, Nat.reduceSub, forall_eq, true_and, and_true, not_true_eq_false, not_false_eq_true, false_implies, true_implies, implies_true, if_true, if_false, ite_self]
  refine f_fail hn h (fun σ1 f1 g1 => ?_)
  have q : ¬ num = 0 := by omega
  have e1 : gU σ1 18 0 (nI 0) 18 1 = nI num := by rw [gU_off (by omega)]; exact g1.1
  simp (disch := first | assumption | omega | decide) only [e1, nI_eqI, q, Nat.le_refl, Nat.reduceLeDiff, Nat.reduceLT, Nat.reduceEqDiff, Nat.reduceAdd, Nat.reduceMul, Nat.reduceSub, forall_eq, true_and, and_true, not_true_eq_false, not_false_eq_true, false_implies, true_implies, implies_true, if_true, if_false, ite_self, true_or]
  exact hQ _ (fun c hc hc2 => by rw [gU_ne hc, f1 c hc]; exact hF c hc hc2) gU_eq e1 (by rw [gU_off (by omega)]; exact g1.2.1) (by rw [gU_ne (by omega), f1 19 (by omega)]; exact hF 19 (by omega) (by omega))
theorem f_54 {σ0 σ : gM} {num s n : Nat} {i : Int32} {Q : Int32 → gM → Prop} (hn : 1 ≤ num ∧ num ≤ 3) (hF : pFc σ0 σ) (h : FC num s σ) (hQ : oC σ0 Q (.inl (num, s))) : wT_readInto_52_l54 Q (n + 1) i σ := by
  rw [wT_readInto_52_l54]
  refine ⟨fun _ => f_81 hn hF h hQ, fun _ => f_isWord_ware h.2.2 ?_⟩
  simp only [Nat.le_refl, Nat.reduceLeDiff, Nat.reduceLT, Nat.reduceEqDiff, Nat.reduceAdd, Nat.reduceMul, Nat.reduceSub, forall_eq, true_and, and_true, not_true_eq_false, not_false_eq_true, false_implies, true_implies, implies_true, if_true, if_false, ite_self]
  exact f_81 hn hF h hQ
theorem f_25 {σ0 σ : gM} {num s n : Nat} {i : Int32} {Q : Int32 → gM → Prop} (hn : 1 ≤ num ∧ num ≤ 3) (hF : pFc σ0 σ) (h : FC num s σ) (hQ : oC σ0 Q (.inl (num, s))) : wT_readInto_52_l25 Q (n + 1) i σ := by
  rw [wT_readInto_52_l25]
  refine ⟨fun _ => ⟨1, f_54 hn hF h hQ⟩, fun _ => f_isWord_buyer h.2.2 ?_⟩
  simp only [Nat.le_refl, Nat.reduceLeDiff, Nat.reduceLT, Nat.reduceEqDiff, Nat.reduceAdd, Nat.reduceMul, Nat.reduceSub, forall_eq, true_and, and_true, not_true_eq_false, not_false_eq_true, false_implies, true_implies, implies_true, if_true, if_false, ite_self]
  exact ⟨1, f_54 hn hF h hQ⟩
theorem j_W_end (ht : t ≤ 400) (hp : p ≤ t) (hD : WFD D) {m : Nat} (hm : D 2 + m ≤ 10) (hb : D 2 = 0 → ¬ isW f t 1 5 (tS f t p)) (hw : ¬ isW f t 2 4 (tS f t p)) (modW : ∀ (D : Nat → Nat) (p z : Nat) (τ : gM) (Q : Int32 → gM → Prop), p ≤ t → D 2 ≤ 10 → (D 2 = 0 → ¬ isW f t 1 5 (tS f t p)) → RM f t p τ → DM D τ → (∀ τ', pNxF τ τ' → RMt f t (tS f t p) τ' → MS f t τ' → DM D τ' → (tKs f t (tS f t p) = 3 → Q (nI 1) τ') ∧ (tKs f t (tS f t p) ≠ 3 → isW f t 2 4 (tS f t p) → wM_isWare τ' (fun r23 σ23 => wM_isRead_l60 Q z r23 σ23)) ∧ (tKs f t (tS f t p) ≠ 3 → ¬ isW f t 2 4 (tS f t p) → wM_fails (nI 1) τ' (fun r25 σ25 => wM_isRead_l60 Q z r25 σ25))) → wM_isRead_l60 Q (z + 1) (nI 1) τ) : ∃ o, oOK t o ∧ (∀ (σ0 σ : gM) (Q : Int32 → gM → Prop), pFc σ0 σ → RC f t p σ → DC D σ → oC σ0 Q o → wT_readInto_52_l54 Q (m + 2) (nI (D 2)) σ) ∧ (∀ (z : Nat) (τ0 τ : gM) (Q : Int32 → gM → Prop), pFr τ0 τ → τ 82 11 = τ0 82 11 → RM f t p τ → DM D τ → oM τ0 Q o → wM_isRead_l60 Q (m + 2 + z) (nI 1) τ) := by
  have n01 : ¬ nI 1 = nI 0 := by decide
  have hs := tS_spec (f := f) hp
  have hk4 := tK_4 (t := t) (f := f) (tS f t p)
  have q : ¬ 400 ≤ D 2 := by omega
  have cls : ∀ (σ : gM) (Q : Int32 → gM → Prop), RC f t p σ → wT_readInto_52_b81 Q σ → wT_readInto_52_l54 Q (m + 2) (nI (D 2)) σ := fun σ Q hR hQ => by
    rw [show m + 2 = (m + 1) + 1 by omega, wT_readInto_52_l54]
    simp (disch := first | assumption | omega | decide) only [nI_leI2, q, Nat.le_refl, Nat.reduceLeDiff, Nat.reduceLT, Nat.reduceEqDiff, Nat.reduceAdd, Nat.reduceMul, Nat.reduceSub, forall_eq, true_and, and_true, not_true_eq_false, not_false_eq_true, false_implies, true_implies, implies_true, if_true, if_false, ite_self]
    refine s_isWord_ware ht hp hR.1 hR.2.2 (fun z => absurd z hw) (fun _ => ?_)
    simp (disch := first | assumption | omega | decide) only [Nat.le_refl, Nat.reduceLeDiff, Nat.reduceLT, Nat.reduceEqDiff, Nat.reduceAdd, Nat.reduceMul, Nat.reduceSub, forall_eq, true_and, and_true, not_true_eq_false, not_false_eq_true, false_implies, true_implies, implies_true, if_true, if_false, ite_self]
    exact hQ
  by_cases hk : tKs f t (tS f t p) = 3
  · refine ⟨.inr D, hD, fun σ0 σ Q hF hR hDC hQ => cls σ Q hR ?_, fun z τ0 τ Q hF h11 hR hDM hQ => ?_⟩
    · have h6 := hR.2.2.2.2.1
      unfold wT_readInto_52_b81
      have e1 : gU σ 18 0 (nI 0) 18 1 = nI 0 := by rw [gU_off (by omega)]; exact hR.2.1
      simp (disch := first | assumption | omega | decide) only [h6, nI_eqI, hk, Nat.le_refl, Nat.reduceLeDiff, Nat.reduceLT, Nat.reduceEqDiff, Nat.reduceAdd, Nat.reduceMul, Nat.reduceSub, forall_eq, true_and, and_true, not_true_eq_false, not_false_eq_true, false_implies, true_implies, implies_true, if_true, if_false, ite_self, e1, or_true]
      refine hQ _ (fun c hc hc2 => by rw [gU_ne hc]; exact hF c hc hc2) gU_eq ?_ (by rw [gU_ne (by omega)]; exact hF 19 (by omega) (by omega))
      exact DC_18 (fun c hc => gU_ne hc) hDC
    · rw [show m + 2 + z = (m + 1 + z) + 1 by omega]
      refine modW D p (m + 1 + z) τ Q hp (by omega) hb hR hDM (fun τ' g1 g2 g3 g4 => ⟨fun _ => ?_, fun a => absurd hk a, fun a => absurd hk a⟩)
      exact hQ τ' (pFr_m hF (pFm_of g1)) (by rw [g1.2 11 (by omega) (by omega) (by omega) (by omega) (by omega) (by omega)]; exact h11) g4
  · refine ⟨.inl (1, tS f t p), ⟨⟨by omega, by omega⟩, hs.2⟩, fun σ0 σ Q hF hR hDC hQ => cls σ Q hR ?_, fun z τ0 τ Q hF h11 hR hDM hQ => ?_⟩
    · have h6 := hR.2.2.2.2.1
      unfold wT_readInto_52_b81
      simp (disch := first | assumption | omega | decide) only [h6, nI_eqI, hk, Nat.le_refl, Nat.reduceLeDiff, Nat.reduceLT, Nat.reduceEqDiff, Nat.reduceAdd, Nat.reduceMul, Nat.reduceSub, forall_eq, true_and, and_true, not_true_eq_false, not_false_eq_true, false_implies, true_implies, implies_true, if_true, if_false, ite_self]
      refine c_fail hR.2.1 hR.2.2.1 (fun σ1 f1 g1 => ?_)
      have e1 : gU σ1 18 0 (nI 0) 18 1 = nI 1 := by rw [gU_off (by omega)]; exact g1.1
      simp (disch := first | assumption | omega | decide) only [e1, n01, Nat.le_refl, Nat.reduceLeDiff, Nat.reduceLT, Nat.reduceEqDiff, Nat.reduceAdd, Nat.reduceMul, Nat.reduceSub, forall_eq, true_and, and_true, not_true_eq_false, not_false_eq_true, false_implies, true_implies, implies_true, if_true, if_false, ite_self, true_or]
      exact hQ _ (fun c hc hc2 => by rw [gU_ne hc, f1 c hc]; exact hF c hc hc2) gU_eq e1 (by rw [gU_off (by omega)]; exact g1.2.1) (by rw [gU_ne (by omega), f1 19 (by omega)]; exact hF 19 (by omega) (by omega))
    · rw [show m + 2 + z = (m + z + 1) + 1 by omega]
      refine modW D p (m + z + 1) τ Q hp (by omega) hb hR hDM (fun τ' g1 g2 g3 g4 => ⟨fun a => absurd a hk, fun _ a => absurd a hw, fun _ _ => ?_⟩)
      simp (disch := first | assumption | omega | decide) only [wM_fails, wM_isRead_l60, Nat.le_refl, Nat.reduceLeDiff, Nat.reduceLT, Nat.reduceEqDiff, Nat.reduceAdd, Nat.reduceMul, Nat.reduceSub, forall_eq, true_and, and_true, not_true_eq_false, not_false_eq_true, false_implies, true_implies, implies_true, if_true, if_false, ite_self]
      exact hQ _ (pFr_m hF (pFm_11 (pFm_of g1))) gU_eq (by rw [gU_off (by omega)]; exact g2.1)
theorem j_W (ht : t ≤ 400) : ∀ (m : Nat) (D : Nat → Nat) (p : Nat), D 2 + m = 10 → WFD D → p ≤ t → (D 2 = 0 → ¬ isW f t 1 5 (tS f t p)) → ∃ o, oOK t o ∧ (∀ (σ0 σ : gM) (Q : Int32 → gM → Prop), pFc σ0 σ → RC f t p σ → DC D σ → oC σ0 Q o → wT_readInto_52_l54 Q (m + 2) (nI (D 2)) σ) ∧ (∀ (z : Nat) (τ0 τ : gM) (Q : Int32 → gM → Prop), pFr τ0 τ → τ 82 11 = τ0 82 11 → RM f t p τ → DM D τ → oM τ0 Q o → wM_isRead_l60 Q (m + 2 + z) (nI 1) τ) := by
  have n01 : ¬ nI 1 = nI 0 := by decide
  -- what the reference does when it finds a ware, or none
  have modW : ∀ (D : Nat → Nat) (p z : Nat) (τ : gM) (Q : Int32 → gM → Prop), p ≤ t → D 2 ≤ 10 → (D 2 = 0 → ¬ isW f t 1 5 (tS f t p)) → RM f t p τ → DM D τ → (∀ τ', pNxF τ τ' → RMt f t (tS f t p) τ' → MS f t τ' → DM D τ' → (tKs f t (tS f t p) = 3 → Q (nI 1) τ') ∧ (tKs f t (tS f t p) ≠ 3 → isW f t 2 4 (tS f t p) → wM_isWare τ' (fun r23 σ23 => wM_isRead_l60 Q z r23 σ23)) ∧ (tKs f t (tS f t p) ≠ 3 → ¬ isW f t 2 4 (tS f t p) → wM_fails (nI 1) τ' (fun r25 σ25 => wM_isRead_l60 Q z r25 σ25))) → wM_isRead_l60 Q (z + 1) (nI 1) τ := by
    intro D p z τ Q hp h10 hb hR hD hQ
    rw [wM_isRead_l60]
    simp only [n01, Nat.le_refl, Nat.reduceLeDiff, Nat.reduceLT, Nat.reduceEqDiff, Nat.reduceAdd, Nat.reduceMul, Nat.reduceSub, forall_eq, true_and, and_true, not_true_eq_false, not_false_eq_true, false_implies, true_implies, implies_true, if_true, if_false, ite_self]
    refine s_next ht hp hR.1 hR.2 (fun τ' g1 g2 => ?_)
    obtain ⟨q1, q2, q3⟩ := hQ τ' g1 g2 (pNxF_MS g1 hR.1) (DM_n g1 hD)
    have d14 := (DM_n g1 hD).2.2.1
    have gc := g2.2.2.1
    simp only [lgc]
    have b107 : tKs f t (tS f t p) ≠ 3 → wM_isRead_b107 Q (wM_isRead_l60 Q z) τ' := fun hk => by
      unfold wM_isRead_b107
      simp only [lgc]
      exact ⟨fun e => q2 hk ((tC_ware gc).mp e), fun e => q3 hk (fun a => e ((tC_ware gc).mpr a))⟩
    refine ⟨fun e => q1 ((tC_end gc).mp e), fun e => ?_⟩
    have hk : tKs f t (tS f t p) ≠ 3 := fun a => e ((tC_end gc).mpr a)
    refine ⟨fun e2 => ⟨fun e3 => ?_, fun _ => b107 hk⟩, fun _ => b107 hk⟩
    rw [d14, nI_eqI (by omega) (by omega)] at e3
    exact absurd ((tC_buyer gc).mp e2) (hb e3)
  intro m
  induction m with
  | zero =>
    intro D p hm hD hp hb
    have hs := tS_spec (f := f) hp
    have hD10 : D 2 = 10 := by omega
    by_cases hw : isW f t 2 4 (tS f t p)
    · have hk3 : tKs f t (tS f t p) ≠ 3 := by rw [hw.1]; omega
      refine ⟨.inl (3, tS f t p), ⟨⟨by omega, by omega⟩, hs.2⟩, fun σ0 σ Q hF hR hDC hQ => ?_, fun z τ0 τ Q hF h11 hR hDM hQ => ?_⟩
      · rw [wT_readInto_52_l54]
        have q : ¬ 400 ≤ D 2 := by omega
        simp (disch := first | assumption | omega | decide) only [nI_leI2, q, Nat.le_refl, Nat.reduceLeDiff, Nat.reduceLT, Nat.reduceEqDiff, Nat.reduceAdd, Nat.reduceMul, Nat.reduceSub, forall_eq, true_and, and_true, not_true_eq_false, not_false_eq_true, false_implies, true_implies, implies_true, if_true, if_false, ite_self]
        refine s_isWord_ware ht hp hR.1 hR.2.2 (fun _ => ?_) (fun z => absurd hw z)
        simp (disch := first | assumption | omega | decide) only [n01, Nat.le_refl, Nat.reduceLeDiff, Nat.reduceLT, Nat.reduceEqDiff, Nat.reduceAdd, Nat.reduceMul, Nat.reduceSub, forall_eq, true_and, and_true, not_true_eq_false, not_false_eq_true, false_implies, true_implies, implies_true, if_true, if_false, ite_self, wT_readWare_52, hDC.2.2.2.2.1, nI_eqI, hD10]
        refine c_fail hR.2.1 hR.2.2.1 (fun σ1 f1 g1 => ?_)
        exact f_54 (by omega) (pFc_18 hF f1) g1 hQ
      · rw [show 0 + 2 + z = (z + 1) + 1 by omega]
        refine modW D p (z + 1) τ Q hp (by omega) hb hR hDM (fun τ' g1 g2 g3 g4 => ⟨fun a => absurd a hk3, fun _ _ => ?_, fun _ a => absurd hw a⟩)
        unfold wM_isWare
        simp (disch := first | assumption | omega | decide) only [g4.2.2.1, nI_eqI, hD10, Nat.le_refl, Nat.reduceLeDiff, Nat.reduceLT, Nat.reduceEqDiff, Nat.reduceAdd, Nat.reduceMul, Nat.reduceSub, forall_eq, true_and, and_true, not_true_eq_false, not_false_eq_true, false_implies, true_implies, implies_true, if_true, if_false, ite_self, wM_fails, true_or, wM_isRead_l60]
        exact hQ _ (pFr_m hF (pFm_11 (pFm_of g1))) gU_eq (by rw [gU_off (by omega)]; exact g2.1)
    · exact j_W_end ht hp hD (by omega) hb hw (fun D p z τ Q => modW D p z τ Q)
  | succ m ih =>
    intro D p hm hD hp hb
    have hs := tS_spec (f := f) hp
    have he := tEs_spec (f := f) hs.2
    by_cases hw : isW f t 2 4 (tS f t p)
    · have hk3 : tKs f t (tS f t p) ≠ 3 := by rw [hw.1]; omega
      have q4 : ¬ D 2 = 10 := by omega
      have q : ¬ 400 ≤ D 2 := by omega
      have cls : ∀ (σ : gM) (Q : Int32 → gM → Prop), RC f t p σ → DC D σ → (∀ σ', pF18 σ σ' → RC f t (tEs f t (tS f t p)) σ' → DC D σ' → restW σ' (fun σ24 => wT_readInto_52_l54 Q (m + 2) (nI (D 2 + 1)) σ24)) → wT_readInto_52_l54 Q (m + 1 + 2) (nI (D 2)) σ := by
        intro σ Q hR hDC hQ
        rw [show m + 1 + 2 = (m + 2) + 1 by omega, wT_readInto_52_l54]
        simp (disch := first | assumption | omega | decide) only [nI_leI2, q, Nat.le_refl, Nat.reduceLeDiff, Nat.reduceLT, Nat.reduceEqDiff, Nat.reduceAdd, Nat.reduceMul, Nat.reduceSub, forall_eq, true_and, and_true, not_true_eq_false, not_false_eq_true, false_implies, true_implies, implies_true, if_true, if_false, ite_self]
        refine s_isWord_ware ht hp hR.1 hR.2.2 (fun _ => ?_) (fun z => absurd hw z)
        simp (disch := first | assumption | omega | decide) only [n01, Nat.le_refl, Nat.reduceLeDiff, Nat.reduceLT, Nat.reduceEqDiff, Nat.reduceAdd, Nat.reduceMul, Nat.reduceSub, forall_eq, true_and, and_true, not_true_eq_false, not_false_eq_true, false_implies, true_implies, implies_true, if_true, if_false, ite_self, wT_readWare_52, hDC.2.2.2.2.1, nI_eqI, q4, nI_add]
        exact c_step ht hp hR (fun σ1 f1 g1 => hQ σ1 f1 g1 (DC_18 f1 hDC))
      rcases j_ware (f := f) (D := D) ht he.2 hD.2.1 (by omega) with ⟨num, s, hn, hst, c1, m1⟩ | ⟨kd, wo, ag, p', k1, k5, hwo, hag, hp', c1, m1⟩
      · refine ⟨.inl (num, s), ⟨hn, hst⟩, fun σ0 σ Q hF hR hDC hQ => ?_, fun z τ0 τ Q hF h11 hR hDM hQ => ?_⟩
        · refine cls σ Q hR hDC (fun σ1 f1 g1 d1 => c1 σ1 _ g1 (fun σ2 f2 g2 => ?_))
          exact f_54 hn (pFc_18 hF (pF18_tr f1 f2)) g2 hQ
        · rw [show m + 1 + 2 + z = (m + 1 + z + 1) + 1 by omega]
          refine modW D p (m + 1 + z + 1) τ Q hp (by omega) hb hR hDM (fun τ' g1 g2 g3 g4 => ⟨fun a => absurd a hk3, fun _ _ => ?_, fun _ a => absurd hw a⟩)
          refine m1 τ0 τ' _ (pFr_m hF (pFm_of g1)) ⟨g3, g2.2.1⟩ g4 (fun τ2 u1 u2 u3 => ?_)
          rw [wM_isRead_l60]
          simp only [Nat.le_refl, Nat.reduceLeDiff, Nat.reduceLT, Nat.reduceEqDiff, Nat.reduceAdd, Nat.reduceMul, Nat.reduceSub, forall_eq, true_and, and_true, not_true_eq_false, not_false_eq_true, false_implies, true_implies, implies_true, if_true, if_false, ite_self]
          exact hQ τ2 u1 u2 u3
      · have hWD := WFD_W hD (by omega) k1 k5 hwo hag
        obtain ⟨o, o1, o2, o3⟩ := ih (addW D kd wo ag) p' (by rw [addW_2]; omega) hWD hp' (fun z => by rw [addW_2] at z; omega)
        refine ⟨o, o1, fun σ0 σ Q hF hR hDC hQ => ?_, fun z τ0 τ Q hF h11 hR hDM hQ => ?_⟩
        · refine cls σ Q hR hDC (fun σ1 f1 g1 d1 => c1 σ1 _ g1 d1 (fun σ2 f2 g2 d2 => ?_))
          have := o2 σ0 σ2 Q (pFc_tr (pFc_18 hF f1) f2) g2 d2 hQ
          rw [addW_2] at this
          exact this
        · rw [show m + 1 + 2 + z = (m + 2 + z) + 1 by omega]
          refine modW D p (m + 2 + z) τ Q hp (by omega) hb hR hDM (fun τ' g1 g2 g3 g4 => ⟨fun a => absurd a hk3, fun _ _ => ?_, fun _ a => absurd hw a⟩)
          refine m1 τ0 τ' _ (pFr_m hF (pFm_of g1)) ⟨g3, g2.2.1⟩ g4 (fun τ2 u1 u2 u3 u4 => ?_)
          exact o3 z τ0 τ2 Q u1 (by rw [u2, g1.2 11 (by omega) (by omega) (by omega) (by omega) (by omega) (by omega)]; exact h11) u3 u4 hQ
    · exact j_W_end ht hp hD (by omega) hb hw (fun D p z τ Q => modW D p z τ Q)
end Parse
