section ParseB
variable {t : Nat} {f : Nat → Int32} {p : Nat} {D : Nat → Nat}
theorem j_B (ht : t ≤ 400) : ∀ (m : Nat) (D : Nat → Nat) (p : Nat), D 1 + m = 4 → D 2 = 0 → WFD D → p ≤ t → ∃ o, oOK t o ∧ (∀ (σ0 σ : gM) (Q : Int32 → gM → Prop), pFc σ0 σ → RC f t p σ → DC D σ → oC σ0 Q o → wT_readInto_52_l25 Q (m + 2) (nI (D 1)) σ) ∧ (∀ (z : Nat) (τ0 τ : gM) (Q : Int32 → gM → Prop), pFr τ0 τ → τ 82 11 = τ0 82 11 → RM f t p τ → DM D τ → oM τ0 Q o → wM_isRead_l60 Q (m + 14 + z) (nI 1) τ) := by
  have n01 : ¬ nI 1 = nI 0 := by decide
  have modB : ∀ (D : Nat → Nat) (p z : Nat) (τ : gM) (Q : Int32 → gM → Prop), p ≤ t → D 2 = 0 → isW f t 1 5 (tS f t p) → RM f t p τ → DM D τ → (∀ τ', pNxF τ τ' → RMt f t (tS f t p) τ' → MS f t τ' → DM D τ' → wM_isBuyer τ' (fun r20 σ20 => wM_isRead_l60 Q z r20 σ20)) → wM_isRead_l60 Q (z + 1) (nI 1) τ := by
    intro D p z τ Q hp h2 hb hR hD hQ
    rw [wM_isRead_l60]
    simp only [n01, Nat.le_refl, Nat.reduceLeDiff, Nat.reduceLT, Nat.reduceEqDiff, Nat.reduceAdd, Nat.reduceMul, Nat.reduceSub, forall_eq, true_and, and_true, not_true_eq_false, not_false_eq_true, false_implies, true_implies, implies_true, if_true, if_false, ite_self]
    refine s_next ht hp hR.1 hR.2 (fun τ' g1 g2 => ?_)
    have gc := g2.2.2.1
    have d14 := (DM_n g1 hD).2.2.1
    have e2 : ¬ gLg (τ' 82 8) (τ' 82 108) = -2 := fun a => by
      have h1 := (tC_end gc).mp a
      have h2 := hb.1
      omega
    have e3 := (tC_buyer gc).mpr hb
    simp only [lgc]
    refine ⟨fun a => absurd a e2, fun _ => ⟨fun _ => ⟨fun _ => hQ τ' g1 g2 (pNxF_MS g1 hR.1) (DM_n g1 hD), fun a => absurd (by rw [d14, h2]) a⟩, fun a => absurd e3 a⟩⟩
  have noB : ∀ (m : Nat) (D : Nat → Nat) (p : Nat), D 1 + m = 4 → D 2 = 0 → WFD D → p ≤ t → ¬ isW f t 1 5 (tS f t p) → ∃ o, oOK t o ∧ (∀ (σ0 σ : gM) (Q : Int32 → gM → Prop), pFc σ0 σ → RC f t p σ → DC D σ → oC σ0 Q o → wT_readInto_52_l25 Q (m + 2) (nI (D 1)) σ) ∧ (∀ (z : Nat) (τ0 τ : gM) (Q : Int32 → gM → Prop), pFr τ0 τ → τ 82 11 = τ0 82 11 → RM f t p τ → DM D τ → oM τ0 Q o → wM_isRead_l60 Q (m + 14 + z) (nI 1) τ) := by
    intro m D p hm h2 hD hp hb
    obtain ⟨o, o1, o2, o3⟩ := j_W (f := f) ht 10 D p (by omega) hD hp (fun _ => hb)
    refine ⟨o, o1, fun σ0 σ Q hF hR hDC hQ => ?_, fun z τ0 τ Q hF h11 hR hDM hQ => ?_⟩
    · have q : ¬ 400 ≤ D 1 := by omega
      rw [show m + 2 = (m + 1) + 1 by omega, wT_readInto_52_l25]
      simp (disch := first | assumption | omega | decide) only [nI_leI2, q, Nat.le_refl, Nat.reduceLeDiff, Nat.reduceLT, Nat.reduceEqDiff, Nat.reduceAdd, Nat.reduceMul, Nat.reduceSub, forall_eq, true_and, and_true, not_true_eq_false, not_false_eq_true, false_implies, true_implies, implies_true, if_true, if_false, ite_self]
      refine s_isWord_buyer ht hp hR.1 hR.2.2 (fun a => absurd a hb) (fun _ => ?_)
      simp only [Nat.le_refl, Nat.reduceLeDiff, Nat.reduceLT, Nat.reduceEqDiff, Nat.reduceAdd, Nat.reduceMul, Nat.reduceSub, forall_eq, true_and, and_true, not_true_eq_false, not_false_eq_true, false_implies, true_implies, implies_true, if_true, if_false, ite_self]
      have := o2 σ0 σ Q hF hR hDC hQ
      rw [h2] at this
      exact ⟨12, this⟩
    · rw [show m + 14 + z = 10 + 2 + (m + 2 + z) by omega]
      exact o3 (m + 2 + z) τ0 τ Q hF h11 hR hDM hQ
  intro m
  induction m with
  | zero =>
    intro D p hm h2 hD hp
    have hs := tS_spec (f := f) hp
    by_cases hb : isW f t 1 5 (tS f t p)
    · have hD4 : D 1 = 4 := by omega
      refine ⟨.inl (3, tS f t p), ⟨⟨by omega, by omega⟩, hs.2⟩, fun σ0 σ Q hF hR hDC hQ => ?_, fun z τ0 τ Q hF h11 hR hDM hQ => ?_⟩
      · rw [wT_readInto_52_l25]
        have q : ¬ 400 ≤ D 1 := by omega
        simp (disch := first | assumption | omega | decide) only [nI_leI2, q, Nat.le_refl, Nat.reduceLeDiff, Nat.reduceLT, Nat.reduceEqDiff, Nat.reduceAdd, Nat.reduceMul, Nat.reduceSub, forall_eq, true_and, and_true, not_true_eq_false, not_false_eq_true, false_implies, true_implies, implies_true, if_true, if_false, ite_self]
        refine s_isWord_buyer ht hp hR.1 hR.2.2 (fun _ => ?_) (fun a => absurd hb a)
        simp (disch := first | assumption | omega | decide) only [n01, Nat.le_refl, Nat.reduceLeDiff, Nat.reduceLT, Nat.reduceEqDiff, Nat.reduceAdd, Nat.reduceMul, Nat.reduceSub, forall_eq, true_and, and_true, not_true_eq_false, not_false_eq_true, false_implies, true_implies, implies_true, if_true, if_false, ite_self, wT_readBuyer_52, hDC.2.2.2.1, nI_eqI, hD4]
        refine c_fail hR.2.1 hR.2.2.1 (fun σ1 f1 g1 => ?_)
        exact f_25 (by omega) (pFc_18 hF f1) g1 hQ
      · rw [show 0 + 14 + z = (12 + z + 1) + 1 by omega]
        refine modB D p (12 + z + 1) τ Q hp h2 hb hR hDM (fun τ' g1 g2 g3 g4 => ?_)
        unfold wM_isBuyer
        simp (disch := first | assumption | omega | decide) only [g4.2.1, nI_eqI, hD4, Nat.le_refl, Nat.reduceLeDiff, Nat.reduceLT, Nat.reduceEqDiff, Nat.reduceAdd, Nat.reduceMul, Nat.reduceSub, forall_eq, true_and, and_true, not_true_eq_false, not_false_eq_true, false_implies, true_implies, implies_true, if_true, if_false, ite_self, wM_fails, true_or, wM_isRead_l60]
        exact hQ _ (pFr_m hF (pFm_11 (pFm_of g1))) gU_eq (by rw [gU_off (by omega)]; exact g2.1)
    · exact noB 0 D p hm h2 hD hp hb
  | succ m ih =>
    intro D p hm h2 hD hp
    have hs := tS_spec (f := f) hp
    have he := tEs_spec (f := f) hs.2
    by_cases hb : isW f t 1 5 (tS f t p)
    · have q4 : ¬ D 1 = 4 := by omega
      have q : ¬ 400 ≤ D 1 := by omega
      have cls : ∀ (σ : gM) (Q : Int32 → gM → Prop), RC f t p σ → DC D σ → (∀ σ', pF18 σ σ' → RC f t (tEs f t (tS f t p)) σ' → DC D σ' → restB σ' (fun σ24 => wT_readInto_52_l25 Q (m + 2) (nI (D 1 + 1)) σ24)) → wT_readInto_52_l25 Q (m + 1 + 2) (nI (D 1)) σ := by
        intro σ Q hR hDC hQ
        rw [show m + 1 + 2 = (m + 2) + 1 by omega, wT_readInto_52_l25]
        simp (disch := first | assumption | omega | decide) only [nI_leI2, q, Nat.le_refl, Nat.reduceLeDiff, Nat.reduceLT, Nat.reduceEqDiff, Nat.reduceAdd, Nat.reduceMul, Nat.reduceSub, forall_eq, true_and, and_true, not_true_eq_false, not_false_eq_true, false_implies, true_implies, implies_true, if_true, if_false, ite_self]
        refine s_isWord_buyer ht hp hR.1 hR.2.2 (fun _ => ?_) (fun a => absurd hb a)
        simp (disch := first | assumption | omega | decide) only [n01, Nat.le_refl, Nat.reduceLeDiff, Nat.reduceLT, Nat.reduceEqDiff, Nat.reduceAdd, Nat.reduceMul, Nat.reduceSub, forall_eq, true_and, and_true, not_true_eq_false, not_false_eq_true, false_implies, true_implies, implies_true, if_true, if_false, ite_self, wT_readBuyer_52, hDC.2.2.2.1, nI_eqI, q4, nI_add]
        exact c_step ht hp hR (fun σ1 f1 g1 => hQ σ1 f1 g1 (DC_18 f1 hDC))
      rcases j_buyer (f := f) (D := D) ht he.2 (by omega) with ⟨num, s, hn, hst, c1, m1⟩ | ⟨a, b, p', ha, hbb, hp', c1, m1⟩
      · refine ⟨.inl (num, s), ⟨hn, hst⟩, fun σ0 σ Q hF hR hDC hQ => ?_, fun z τ0 τ Q hF h11 hR hDM hQ => ?_⟩
        · refine cls σ Q hR hDC (fun σ1 f1 g1 d1 => c1 σ1 _ g1 (fun σ2 f2 g2 => ?_))
          exact f_25 hn (pFc_18 hF (pF18_tr f1 f2)) g2 hQ
        · rw [show m + 1 + 14 + z = (m + 13 + z + 1) + 1 by omega]
          refine modB D p (m + 13 + z + 1) τ Q hp h2 hb hR hDM (fun τ' g1 g2 g3 g4 => ?_)
          refine m1 τ0 τ' _ (pFr_m hF (pFm_of g1)) ⟨g3, g2.2.1⟩ g4 (fun τ2 u1 u2 u3 => ?_)
          rw [wM_isRead_l60]
          simp only [Nat.le_refl, Nat.reduceLeDiff, Nat.reduceLT, Nat.reduceEqDiff, Nat.reduceAdd, Nat.reduceMul, Nat.reduceSub, forall_eq, true_and, and_true, not_true_eq_false, not_false_eq_true, false_implies, true_implies, implies_true, if_true, if_false, ite_self]
          exact hQ τ2 u1 u2 u3
      · have hWD := WFD_B hD (by omega) ha hbb
        obtain ⟨o, o1, o2, o3⟩ := ih (addB D a b) p' (by rw [addB_1]; omega) (by rw [addB_ne (by omega) (by omega) (by omega)]; exact h2) hWD hp'
        refine ⟨o, o1, fun σ0 σ Q hF hR hDC hQ => ?_, fun z τ0 τ Q hF h11 hR hDM hQ => ?_⟩
        · refine cls σ Q hR hDC (fun σ1 f1 g1 d1 => c1 σ1 _ g1 d1 (fun σ2 f2 g2 d2 => ?_))
          have := o2 σ0 σ2 Q (pFc_tr (pFc_18 hF f1) f2) g2 d2 hQ
          rw [addB_1] at this
          exact this
        · rw [show m + 1 + 14 + z = (m + 14 + z) + 1 by omega]
          refine modB D p (m + 14 + z) τ Q hp h2 hb hR hDM (fun τ' g1 g2 g3 g4 => ?_)
          refine m1 τ0 τ' _ (pFr_m hF (pFm_of g1)) ⟨g3, g2.2.1⟩ g4 (fun τ2 u1 u2 u3 u4 => ?_)
          exact o3 z τ0 τ2 Q u1 (by rw [u2, g1.2 11 (by omega) (by omega) (by omega) (by omega) (by omega) (by omega)]; exact h11) u3 u4 hQ
    · exact noB (m + 1) D p hm h2 hD hp hb
def D0 (v : Nat) : Nat → Nat := fun j => if j = 0 then v else 0
theorem j_read (ht : t ≤ 400) : ∃ o, oOK t o ∧ (∀ (σ : gM) (Q : Int32 → gM → Prop), CS f t σ → oC σ Q o → wT_readInto_52 σ Q) ∧ (∀ (τ : gM) (Q : Int32 → gM → Prop), MS f t τ → oM τ Q o → wM_isRead τ Q) := by
  have n01 : ¬ nI 1 = nI 0 := by decide
  have hs := tS_spec (f := f) (t := t) (p := 0) (by omega)
  have he := tEs_spec (f := f) hs.2
  -- the class, up to the law
  have cls : ∀ (σ : gM) (Q : Int32 → gM → Prop), CS f t σ → (∀ σ', pFc σ σ' → RC f t 0 σ' → DC (D0 0) σ' → wT_readLaw_52 σ' (fun σ8 => ∃ n33 : Nat, wT_readInto_52_l25 Q n33 (nI 0) σ8)) → wT_readInto_52 σ Q := by
    intro σ Q hc hQ
    unfold wT_readInto_52 wK52_clear
    simp only [forall_eq]
    obtain ⟨σ4, e4⟩ : ∃ σ4, σ4 = gU (gU (gU (gU (gU (gU (gU (gU σ 52 0 (nI 1)) 52 1 (nI 0)) 52 2 (nI 0)) 52 3 (nI 0)) 52 4 (nI 0)) 52 5 (nI 0)) 18 1 (nI 0)) 18 5 (nI 0) := ⟨_, rfl⟩
    rw [← e4]
    have hc4 : CS f t σ4 := ⟨by rw [e4, gU_off (by omega), gU_off (by omega)]; simp (disch := omega) only [gU_ne]; exact hc.1, fun i hi => by rw [e4]; simp (disch := omega) only [gU_ne]; exact hc.2 i hi⟩
    have h54 : σ4 18 5 = nI 0 := by rw [e4, gU_eq]
    have h14 : σ4 18 1 = nI 0 := by rw [e4, gU_off (by omega), gU_eq]
    refine s_step (p := 0) ht (by omega) hc4 h54 (fun σ6 g1 g2 => hQ σ6 (fun c hc1 hc2 => ?_) ⟨pStpF_CS g1 hc4, by rw [g1.2 1 (by omega) (by omega) (by omega) (by omega)]; exact h14, g2⟩ ?_)
    · rw [g1.1 c hc1, e4]
      simp (disch := omega) only [gU_ne]
    · refine DC_18 g1.1 ⟨?_, ?_, ?_, ?_, ?_, ?_, fun i hi => absurd hi (by show ¬ i < 0; omega), fun i hi => absurd hi (by show ¬ i < 0; omega)⟩
      · rw [e4]; simp (disch := omega) only [gU_ne, gU_off, gU_eq]
      · rw [e4]; simp (disch := omega) only [gU_ne, gU_off, gU_eq]; rfl
      · rw [e4]; simp (disch := omega) only [gU_ne, gU_off, gU_eq]
      · rw [e4]; simp (disch := omega) only [gU_ne, gU_off, gU_eq]; rfl
      · rw [e4]; simp (disch := omega) only [gU_ne, gU_off, gU_eq]; rfl
      · rw [e4]; simp (disch := omega) only [gU_ne, gU_off, gU_eq]; rfl
  -- a fault in the law
  have fin : ∀ (num s : Nat) (σ σ1 : gM) (Q : Int32 → gM → Prop), (1 ≤ num ∧ num ≤ 3) → pFc σ σ1 → FC num s σ1 → oC σ Q (.inl (num, s)) → ∃ n33 : Nat, wT_readInto_52_l25 Q n33 (nI 0) σ1 := fun num s σ σ1 Q hn h1 h2 hQ => ⟨1, f_25 hn h1 h2 hQ⟩
  have FCu : ∀ (num s : Nat) (σ : gM) (v : Int32), FC num s σ → FC num s (gU σ 52 1 v) := fun num s σ v h => ⟨by rw [gU_ne (by omega)]; exact h.1, by rw [gU_ne (by omega)]; exact h.2.1, by rw [gU_ne (by omega)]; exact h.2.2⟩
  have pFcu : ∀ (σ0 σ : gM) (v : Int32), pFc σ0 σ → pFc σ0 (gU σ 52 1 v) := fun σ0 σ v h c h1 h2 => by rw [gU_ne (by omega)]; exact h c h1 h2
  have mod : ∀ (τ : gM) (Q : Int32 → gM → Prop), MS f t τ → (∀ τ', pFr τ τ' → τ' 82 11 = τ 82 11 → RMt f t (tS f t 0) τ' → MS f t τ' → τ' 82 13 = nI 0 → τ' 82 14 = nI 0 → (isW f t 0 3 (tS f t 0) → wM_isNext (nI 0) (nI 1) τ' (fun (r8 : Int32) (σ8 : gM) => (r8 = nI 0 → (Q (nI 0) σ8)) ∧ (¬ (r8 = nI 0) → (wM_ends (gU σ8 82 12 (σ8 82 10)) (fun (r12 : Int32) (σ12 : gM) => ∃ n26 : Nat, wM_isRead_l60 Q n26 r12 σ12))))) ∧ (¬ isW f t 0 3 (tS f t 0) → wM_fails (nI 1) τ' (fun (r28 : Int32) (σ28 : gM) => (r28 = nI 0 ∨ r28 = nI 1) ∧ Q r28 σ28))) → wM_isRead τ Q := by
    intro τ Q hc hQ
    unfold wM_isRead
    simp only [forall_eq]
    obtain ⟨τ3, e3⟩ : ∃ τ3, τ3 = gU (gU (gU τ 82 6 (nI 0)) 82 13 (nI 0)) 82 14 (nI 0) := ⟨_, rfl⟩
    rw [← e3]
    have hc3 : MS f t τ3 := ⟨by rw [e3, gU_off (by omega), gU_off (by omega), gU_off (by omega)]; exact hc.1, fun i hi => by rw [e3]; simp (disch := omega) only [gU_ne]; exact hc.2 i hi⟩
    have h6 : τ3 82 6 = nI 0 := by rw [e3, gU_off (by omega), gU_off (by omega), gU_eq]
    refine s_next (p := 0) ht (by omega) hc3 h6 (fun τ' g1 g2 => ?_)
    have hF : pFr τ τ' := ⟨fun c h1 h2 h3 => by rw [g1.1 c h1, e3, gU_ne h1, gU_ne h1, gU_ne h1], fun j a1 a2 a3 a4 a5 a6 a7 a8 a9 a10 => by rw [g1.2 j a1 a2 a3 a4 a5 a10, e3, gU_off (by omega), gU_off (by omega), gU_off (by omega)]⟩
    have h := hQ τ' hF (by rw [g1.2 11 (by omega) (by omega) (by omega) (by omega) (by omega) (by omega), e3, gU_off (by omega), gU_off (by omega), gU_off (by omega)]) g2 (pNxF_MS g1 hc3) (by rw [g1.2 13 (by omega) (by omega) (by omega) (by omega) (by omega) (by omega), e3, gU_off (by omega), gU_eq]) (by rw [g1.2 14 (by omega) (by omega) (by omega) (by omega) (by omega) (by omega), e3, gU_eq])
    simp only [lgc]
    exact ⟨fun e => h.1 ((tC_law g2.2.2.1).mp e), fun e => h.2 (fun a => e ((tC_law g2.2.2.1).mpr a))⟩
  by_cases hl : isW f t 0 3 (tS f t 0)
  · have hs1 := tS_spec (f := f) he.2
    have clsL : ∀ (σ : gM) (Q : Int32 → gM → Prop), CS f t σ → (∀ σ', pFc σ σ' → RC f t (tEs f t (tS f t 0)) σ' → DC (D0 0) σ' → wT_readNumber (nI 1) σ' (fun (r14 : Int32) (σ14 : gM) => ∀ σ15 : gM, σ15 = gU σ14 52 1 r14 → (wT_readSign  σ15 (fun (σ17 : gM) => ∃ n33 : Nat, wT_readInto_52_l25 Q n33 (nI 0) σ17)))) → wT_readInto_52 σ Q := by
      intro σ Q hc hQ
      refine cls σ Q hc (fun σ1 a1 a2 a3 => ?_)
      unfold wT_readLaw_52
      refine s_isWord_law ht (by omega) a2.1 a2.2.2 (fun _ => ?_) (fun a => absurd hl a)
      simp only [n01, Nat.le_refl, Nat.reduceLeDiff, Nat.reduceLT, Nat.reduceEqDiff, Nat.reduceAdd, Nat.reduceMul, Nat.reduceSub, forall_eq, true_and, and_true, not_true_eq_false, not_false_eq_true, false_implies, true_implies, implies_true, if_true, if_false, ite_self]
      have h := c_step (Q := fun σ12 => wT_readNumber (nI 1) σ12 (fun (r14 : Int32) (σ14 : gM) => ∀ σ15 : gM, σ15 = gU σ14 52 1 r14 → (wT_readSign  σ15 (fun (σ17 : gM) => ∃ n33 : Nat, wT_readInto_52_l25 Q n33 (nI 0) σ17)))) ht (by omega) a2 (fun σ2 f2 g2 => hQ σ2 (pFc_18 a1 f2) g2 (DC_18 f2 a3))
      simp only [forall_eq] at h
      exact h
    rcases j_num (f := f) ht he.2 (most := 1) (by omega) with ⟨num, hn, c1, m1⟩ | ⟨v, p2, hv, hp2, c1, m1⟩
    · refine ⟨.inl (num, _), ⟨hn, hs1.2⟩, fun σ Q hc hQ => ?_, fun τ Q hc hQ => ?_⟩
      · refine clsL σ Q hc (fun σ1 a1 a2 a3 => c1 σ1 _ a2 (fun σ2 f2 g2 => ?_))
        intro σ15 h15
        subst h15
        refine f_sign hn (FCu num _ σ2 _ g2) (fun σ3 f3 g3 => fin num _ σ σ3 Q hn (pFc_18 (pFcu _ _ _ (pFc_18 a1 f2)) f3) g3 hQ)
      · refine mod τ Q hc (fun τ' b1 b2 b3 b4 b5 b6 => ⟨fun _ => m1 τ' _ ⟨b4, b3.2.1⟩ (fun τ2 u1 u2 u3 => ?_), fun a => absurd hl a⟩)
        simp only [Nat.le_refl, Nat.reduceLeDiff, Nat.reduceLT, Nat.reduceEqDiff, Nat.reduceAdd, Nat.reduceMul, Nat.reduceSub, forall_eq, true_and, and_true, not_true_eq_false, not_false_eq_true, false_implies, true_implies, implies_true, if_true, if_false, ite_self]
        exact hQ τ2 (pFr_m b1 u1) u2 u3
    · have hs2 := tS_spec (f := f) hp2
      have hWD : WFD (D0 v) := ⟨hv, by show 0 ≤ 4; omega, by show 0 ≤ 10; omega, fun i hi => absurd hi (by show ¬ i < 0; omega), fun i hi => absurd hi (by show ¬ i < 0; omega)⟩
      have DCu : ∀ σ : gM, DC (D0 0) σ → DC (D0 v) (gU σ 52 1 (nI v)) := fun σ ⟨d0, d1, d2, d3, d4, d5, _, _⟩ => ⟨by rw [gU_off (by omega)]; exact d0, gU_eq, by rw [gU_off (by omega)]; exact d2, by rw [gU_off (by omega)]; exact d3, by rw [gU_off (by omega)]; exact d4, by rw [gU_off (by omega)]; exact d5, fun i hi => absurd hi (by show ¬ i < 0; omega), fun i hi => absurd hi (by show ¬ i < 0; omega)⟩
      have modN : ∀ (τ : gM) (Q : Int32 → gM → Prop), MS f t τ → (∀ τ', pFr τ τ' → τ' 82 11 = τ 82 11 → RM f t p2 τ' → DM (D0 v) τ' → wM_ends τ' (fun (r12 : Int32) (σ12 : gM) => ∃ n26 : Nat, wM_isRead_l60 Q n26 r12 σ12)) → wM_isRead τ Q := by
        intro τ Q hc hQ
        refine mod τ Q hc (fun τ' b1 b2 b3 b4 b5 b6 => ⟨fun _ => m1 τ' _ ⟨b4, b3.2.1⟩ (fun τ2 u1 u2 u3 => ?_), fun a => absurd hl a⟩)
        simp only [n01, Nat.le_refl, Nat.reduceLeDiff, Nat.reduceLT, Nat.reduceEqDiff, Nat.reduceAdd, Nat.reduceMul, Nat.reduceSub, forall_eq, true_and, and_true, not_true_eq_false, not_false_eq_true, false_implies, true_implies, implies_true, if_true, if_false, ite_self, u3]
        refine hQ _ (pFr_82 (pFr_m b1 (pFm_of u1)) (by omega)) ?_ (RM_U u2 (by omega)) ⟨gU_eq, ?_, ?_, fun i hi => absurd hi (by show ¬ i < 0; omega), fun i hi => absurd hi (by show ¬ i < 0; omega)⟩
        · rw [gU_off (by omega), u1.2 11 (by omega) (by omega) (by omega) (by omega) (by omega) (by omega)]; exact b2
        · rw [gU_off (by omega), u1.2 13 (by omega) (by omega) (by omega) (by omega) (by omega) (by omega)]; exact b5
        · rw [gU_off (by omega), u1.2 14 (by omega) (by omega) (by omega) (by omega) (by omega) (by omega)]; exact b6
      rcases j_sign (f := f) ht hp2 with ⟨c2, m2⟩ | ⟨p3, hp3, c2, m2⟩
      · refine ⟨.inl (1, _), ⟨⟨by omega, by omega⟩, hs2.2⟩, fun σ Q hc hQ => ?_, fun τ Q hc hQ => ?_⟩
        · refine clsL σ Q hc (fun σ1 a1 a2 a3 => c1 σ1 _ a2 (fun σ2 f2 g2 => ?_))
          intro σ15 h15
          subst h15
          refine c2 _ _ (RC_c g2 (gU_ne (by omega)) (gU_ne (by omega))) (fun σ3 f3 g3 => fin 1 _ σ σ3 Q (by omega) (pFc_18 (pFcu _ _ _ (pFc_18 a1 f2)) f3) g3 hQ)
        · refine modN τ Q hc (fun τ' b1 b2 b3 b4 => m2 τ' _ b3 (fun τ2 u1 u2 u3 => ⟨1, ?_⟩))
          rw [wM_isRead_l60]
          simp only [Nat.le_refl, Nat.reduceLeDiff, Nat.reduceLT, Nat.reduceEqDiff, Nat.reduceAdd, Nat.reduceMul, Nat.reduceSub, forall_eq, true_and, and_true, not_true_eq_false, not_false_eq_true, false_implies, true_implies, implies_true, if_true, if_false, ite_self]
          exact hQ τ2 (pFr_m b1 u1) u2 u3
      · obtain ⟨o, o1, o2, o3⟩ := j_B (f := f) ht 4 (D0 v) p3 rfl rfl hWD hp3
        refine ⟨o, o1, fun σ Q hc hQ => ?_, fun τ Q hc hQ => ?_⟩
        · refine clsL σ Q hc (fun σ1 a1 a2 a3 => c1 σ1 _ a2 (fun σ2 f2 g2 => ?_))
          intro σ15 h15
          subst h15
          refine c2 _ _ (RC_c g2 (gU_ne (by omega)) (gU_ne (by omega))) (fun σ3 f3 g3 => ⟨6, ?_⟩)
          exact o2 σ σ3 Q (pFc_18 (pFcu _ _ _ (pFc_18 a1 f2)) f3) g3 (DC_18 f3 (DCu σ2 (DC_18 f2 a3))) hQ
        · refine modN τ Q hc (fun τ' b1 b2 b3 b4 => m2 τ' _ b3 (fun τ2 u1 u2 => ⟨18, ?_⟩))
          exact o3 0 τ τ2 Q (pFr_m b1 (pFm_of u1)) (by rw [u1.2 11 (by omega) (by omega) (by omega) (by omega) (by omega) (by omega)]; exact b2) u2 (DM_n u1 b4) hQ
  · refine ⟨.inl (1, tS f t 0), ⟨⟨by omega, by omega⟩, hs.2⟩, fun σ Q hc hQ => ?_, fun τ Q hc hQ => ?_⟩
    · refine cls σ Q hc (fun σ1 a1 a2 a3 => ?_)
      unfold wT_readLaw_52
      refine s_isWord_law ht (by omega) a2.1 a2.2.2 (fun a => absurd a hl) (fun _ => ?_)
      simp only [Nat.le_refl, Nat.reduceLeDiff, Nat.reduceLT, Nat.reduceEqDiff, Nat.reduceAdd, Nat.reduceMul, Nat.reduceSub, forall_eq, true_and, and_true, not_true_eq_false, not_false_eq_true, false_implies, true_implies, implies_true, if_true, if_false, ite_self]
      refine c_fail a2.2.1 a2.2.2.1 (fun σ2 f2 g2 => ?_)
      refine f_num (by omega) g2 (fun σ3 f3 g3 => ?_)
      refine f_sign (by omega) (FCu 1 _ σ3 _ g3) (fun σ4 f4 g4 => fin 1 _ σ σ4 Q (by omega) (pFc_18 (pFcu _ _ _ (pFc_18 a1 (pF18_tr f2 f3))) f4) g4 hQ)
    · refine mod τ Q hc (fun τ' b1 b2 b3 b4 b5 b6 => ⟨fun a => absurd a hl, fun _ => ?_⟩)
      simp (disch := first | assumption | omega | decide) only [wM_fails, Nat.le_refl, Nat.reduceLeDiff, Nat.reduceLT, Nat.reduceEqDiff, Nat.reduceAdd, Nat.reduceMul, Nat.reduceSub, forall_eq, true_and, and_true, not_true_eq_false, not_false_eq_true, false_implies, true_implies, implies_true, if_true, if_false, ite_self, true_or]
      exact hQ _ (pFr_m b1 (pFm_11 ⟨fun _ _ => rfl, fun _ _ _ _ _ _ _ _ => rfl⟩)) gU_eq (by rw [gU_off (by omega)]; exact b3.1)
end ParseB
