/-! WHAT IS TOLD: buyers and wares read so far; 0 turn, 1 how many buyers, 2 how many wares, then as the reference's market -/
def nU (D : Nat → Nat) (k v : Nat) : Nat → Nat := fun j => if j = k then v else D j
theorem nU_eq {D : Nat → Nat} {k v : Nat} : nU D k v k = v := by simp [nU]
theorem nU_ne {D : Nat → Nat} {k v j : Nat} (h : j ≠ k) : nU D k v j = D j := by simp [nU, h]
def WFD (D : Nat → Nat) : Prop := D 0 ≤ 1 ∧ D 1 ≤ 4 ∧ D 2 ≤ 10 ∧ (∀ i, i < D 1 → D (6 + 4 * i) ≤ 5 ∧ D (6 + 4 * i + 1) ≤ 200) ∧ ∀ i, i < D 2 → 1 ≤ D (22 + 4 * i) ∧ D (22 + 4 * i) ≤ 5 ∧ D (22 + 4 * i + 1) ≤ 30 ∧ D (22 + 4 * i + 2) ≤ 9
def addB (D : Nat → Nat) (a b : Nat) : Nat → Nat := nU (nU (nU D (6 + 4 * D 1) a) (6 + 4 * D 1 + 1) b) 1 (D 1 + 1)
def addW (D : Nat → Nat) (kd wo ag : Nat) : Nat → Nat := nU (nU (nU (nU D (22 + 4 * D 2) kd) (22 + 4 * D 2 + 1) wo) (22 + 4 * D 2 + 2) ag) 2 (D 2 + 1)
section Add
variable {D : Nat → Nat} {a b kd wo ag : Nat}
theorem addB_1 : addB D a b 1 = D 1 + 1 := nU_eq
theorem addB_at (h : D 1 < 4) : addB D a b (6 + 4 * D 1) = a ∧ addB D a b (6 + 4 * D 1 + 1) = b := by
  unfold addB
  constructor
  · simp (disch := omega) only [nU_ne, nU_eq]
  · simp (disch := omega) only [nU_ne, nU_eq]
theorem addB_ne {j : Nat} (h1 : j ≠ 1) (h2 : j ≠ 6 + 4 * D 1) (h3 : j ≠ 6 + 4 * D 1 + 1) : addB D a b j = D j := by
  unfold addB
  simp (disch := omega) only [nU_ne]
theorem addW_2 : addW D kd wo ag 2 = D 2 + 1 := nU_eq
theorem addW_at : addW D kd wo ag (22 + 4 * D 2) = kd ∧ addW D kd wo ag (22 + 4 * D 2 + 1) = wo ∧ addW D kd wo ag (22 + 4 * D 2 + 2) = ag := by
  unfold addW
  refine ⟨?_, ?_, ?_⟩
  · simp (disch := omega) only [nU_ne, nU_eq]
  · simp (disch := omega) only [nU_ne, nU_eq]
  · simp (disch := omega) only [nU_ne, nU_eq]
theorem addW_ne {j : Nat} (h1 : j ≠ 2) (h2 : j ≠ 22 + 4 * D 2) (h3 : j ≠ 22 + 4 * D 2 + 1) (h4 : j ≠ 22 + 4 * D 2 + 2) : addW D kd wo ag j = D j := by
  unfold addW
  simp (disch := omega) only [nU_ne]
theorem WFD_B (h : WFD D) (h4 : D 1 < 4) (ha : a ≤ 5) (hb : b ≤ 200) : WFD (addB D a b) := by
  obtain ⟨h1, h2, h3, hB, hW⟩ := h
  refine ⟨by rw [addB_ne (by omega) (by omega) (by omega)]; exact h1, by rw [addB_1]; omega, by rw [addB_ne (by omega) (by omega) (by omega)]; exact h3, fun i hi => ?_, fun i hi => ?_⟩
  · rw [addB_1] at hi
    by_cases e : i = D 1
    · rw [e, (addB_at h4).1, (addB_at h4).2]; exact ⟨ha, hb⟩
    · rw [addB_ne (by omega) (by omega) (by omega), addB_ne (by omega) (by omega) (by omega)]
      exact hB i (by omega)
  · rw [addB_ne (by omega) (by omega) (by omega)] at hi
    rw [addB_ne (by omega) (by omega) (by omega), addB_ne (by omega) (by omega) (by omega), addB_ne (by omega) (by omega) (by omega)]
    exact hW i hi
theorem WFD_W (h : WFD D) (h4 : D 2 < 10) (hk1 : 1 ≤ kd) (hk : kd ≤ 5) (hw : wo ≤ 30) (ha : ag ≤ 9) : WFD (addW D kd wo ag) := by
  obtain ⟨h1, h2, h3, hB, hW⟩ := h
  refine ⟨by rw [addW_ne (by omega) (by omega) (by omega) (by omega)]; exact h1, by rw [addW_ne (by omega) (by omega) (by omega) (by omega)]; exact h2, by rw [addW_2]; omega, fun i hi => ?_, fun i hi => ?_⟩
  · rw [addW_ne (by omega) (by omega) (by omega) (by omega)] at hi
    rw [addW_ne (by omega) (by omega) (by omega) (by omega), addW_ne (by omega) (by omega) (by omega) (by omega)]
    exact hB i hi
  · rw [addW_2] at hi
    by_cases e : i = D 2
    · rw [e, addW_at.1, addW_at.2.1, addW_at.2.2]; exact ⟨hk1, hk, hw, ha⟩
    · rw [addW_ne (by omega) (by omega) (by omega) (by omega), addW_ne (by omega) (by omega) (by omega) (by omega), addW_ne (by omega) (by omega) (by omega) (by omega)]
      exact hW i (by omega)
end Add
def DC (D : Nat → Nat) (σ : gM) : Prop := σ 52 0 = nI 1 ∧ σ 52 1 = nI (D 0) ∧ σ 52 2 = nI 0 ∧ σ 52 3 = nI (D 1) ∧ σ 52 4 = nI (D 2) ∧ σ 52 5 = nI (D 2) ∧ (∀ i, i < D 1 → σ 53 i = nI (D (6 + 4 * i)) ∧ σ 54 i = nI (D (6 + 4 * i + 1)) ∧ σ 55 i = nI 0 ∧ σ 56 i = nI 0) ∧ ∀ i, i < D 2 → σ 57 i = nI (D (22 + 4 * i)) ∧ σ 58 i = nI (D (22 + 4 * i + 1)) ∧ σ 59 i = nI (D (22 + 4 * i + 2)) ∧ σ 60 i = -1000000 ∧ σ 61 i = nI i
def DM (D : Nat → Nat) (σ : gM) : Prop := σ 82 12 = nI (D 0) ∧ σ 82 13 = nI (D 1) ∧ σ 82 14 = nI (D 2) ∧ (∀ i, i < D 1 → σ 87 (2 * i) = nI (D (6 + 4 * i)) ∧ σ 87 (2 * i + 1) = nI (D (6 + 4 * i + 1))) ∧ ∀ i, i < D 2 → σ 88 (3 * i) = nI (D (22 + 4 * i)) ∧ σ 88 (3 * i + 1) = nI (D (22 + 4 * i + 1)) ∧ σ 88 (3 * i + 2) = nI (D (22 + 4 * i + 2))
def pFc (σ0 σ : gM) : Prop := ∀ c, c ≠ 18 → (c < 52 ∨ 61 < c) → σ c = σ0 c
def pFr (σ0 σ : gM) : Prop := (∀ c, c ≠ 82 → c ≠ 87 → c ≠ 88 → σ c = σ0 c) ∧ ∀ j, j ≠ 6 → j ≠ 7 → j ≠ 8 → j ≠ 9 → j ≠ 10 → j ≠ 11 → j ≠ 12 → j ≠ 13 → j ≠ 14 → j ≠ 108 → σ 82 j = σ0 82 j
theorem DC_18 {D : Nat → Nat} {σ σ' : gM} (h : pF18 σ σ') (hD : DC D σ) : DC D σ' := by
  unfold DC
  rw [h 52 (by omega), h 53 (by omega), h 54 (by omega), h 55 (by omega), h 56 (by omega), h 57 (by omega), h 58 (by omega), h 59 (by omega), h 60 (by omega), h 61 (by omega)]
  exact hD
theorem DM_n {D : Nat → Nat} {σ σ' : gM} (h : pNxF σ σ') (hD : DM D σ) : DM D σ' := by
  unfold DM
  rw [h.1 87 (by omega), h.1 88 (by omega), h.2 12 (by omega) (by omega) (by omega) (by omega) (by omega) (by omega), h.2 13 (by omega) (by omega) (by omega) (by omega) (by omega) (by omega), h.2 14 (by omega) (by omega) (by omega) (by omega) (by omega) (by omega)]
  exact hD
theorem pFc_18 {a b c : gM} (h1 : pFc a b) (h2 : pF18 b c) : pFc a c := fun x hx hy => (h2 x hx).trans (h1 x hx hy)
theorem pFc_tr {a b c : gM} (h1 : pFc a b) (h2 : pFc b c) : pFc a c := fun x hx hy => (h2 x hx hy).trans (h1 x hx hy)
theorem pFr_m {a b c : gM} (h1 : pFr a b) (h2 : pFm b c) : pFr a c := ⟨fun x h h' h'' => (h2.1 x h).trans (h1.1 x h h' h''), fun j a1 a2 a3 a4 a5 a6 a7 a8 a9 a10 => (h2.2 j a1 a2 a3 a4 a5 a6 a10).trans (h1.2 j a1 a2 a3 a4 a5 a6 a7 a8 a9 a10)⟩
theorem pFr_U {a b : gM} {c k : Nat} {v : Int32} (h : pFr a b) (hc : c = 87 ∨ c = 88) : pFr a (gU b c k v) := ⟨fun x h1 h2 h3 => by rw [gU_ne (by omega)]; exact h.1 x h1 h2 h3, fun j a1 a2 a3 a4 a5 a6 a7 a8 a9 a10 => by rw [gU_ne (by omega)]; exact h.2 j a1 a2 a3 a4 a5 a6 a7 a8 a9 a10⟩
theorem pFr_82 {a b : gM} {k : Nat} {v : Int32} (h : pFr a b) (hk : k = 12 ∨ k = 13 ∨ k = 14) : pFr a (gU b 82 k v) := ⟨fun x h1 h2 h3 => by rw [gU_ne h1]; exact h.1 x h1 h2 h3, fun j a1 a2 a3 a4 a5 a6 a7 a8 a9 a10 => by rw [gU_off (by omega)]; exact h.2 j a1 a2 a3 a4 a5 a6 a7 a8 a9 a10⟩
section Told
variable {t : Nat} {f : Nat → Int32} {p : Nat} {D : Nat → Nat}
theorem RM_U {σ : gM} {c k : Nat} {v : Int32} (h : RM f t p σ) (hc : c = 87 ∨ c = 88 ∨ (c = 82 ∧ (k = 12 ∨ k = 13 ∨ k = 14))) : RM f t p (gU σ c k v) := by
  obtain ⟨⟨h1, h2⟩, h3⟩ := h
  rcases hc with rfl | rfl | ⟨rfl, hk⟩
  · exact ⟨⟨by rw [gU_ne (by omega)]; exact h1, fun i hi => by rw [gU_ne (by omega)]; exact h2 i hi⟩, by rw [gU_ne (by omega)]; exact h3⟩
  · exact ⟨⟨by rw [gU_ne (by omega)]; exact h1, fun i hi => by rw [gU_ne (by omega)]; exact h2 i hi⟩, by rw [gU_ne (by omega)]; exact h3⟩
  · exact ⟨⟨by rw [gU_off (by omega)]; exact h1, fun i hi => by rw [gU_ne (by omega)]; exact h2 i hi⟩, by rw [gU_off (by omega)]; exact h3⟩
theorem RC_c {σ σ' : gM} (h : RC f t p σ) (h18 : σ' 18 = σ 18) (h19 : σ' 19 = σ 19) : RC f t p σ' := by
  unfold RC CS RCt
  rw [h18, h19]
  exact h
theorem c_addBuyer {σ : gM} {a b : Nat} {Q : gM → Prop} (hD : DC D σ) (h4 : D 1 < 4) (hQ : ∀ σ', (∀ c, (c < 52 ∨ 61 < c) → σ' c = σ c) → DC (addB D a b) σ' → Q σ') : wK52_addBuyer (nI a) (nI b) σ Q := by
  obtain ⟨d0, d1, d2, d3, d4, d5, dB, dW⟩ := hD
  have e2 : addB D a b 2 = D 2 := addB_ne (by omega) (by omega) (by omega)
  unfold wK52_addBuyer
  simp (disch := first | assumption | omega | decide) only [d3, vinT, nI_clamp, forall_eq, true_and, gU_ne, nI_add]
  refine hQ _ (fun c hc => by simp (disch := omega) only [gU_ne]) ⟨?_, ?_, ?_, ?_, ?_, ?_, fun i hi => ?_, fun i hi => ?_⟩
  · simp (disch := omega) only [gU_ne, gU_off]; exact d0
  · rw [addB_ne (by omega) (by omega) (by omega)]; simp (disch := omega) only [gU_ne, gU_off]; exact d1
  · simp (disch := omega) only [gU_ne, gU_off]; exact d2
  · rw [addB_1]; exact gU_eq
  · rw [e2]; simp (disch := omega) only [gU_ne, gU_off]; exact d4
  · rw [e2]; simp (disch := omega) only [gU_ne, gU_off]; exact d5
  · rw [addB_1] at hi
    by_cases e : i = D 1
    · subst e
      rw [(addB_at h4).1, (addB_at h4).2]
      simp (disch := omega) only [gU_ne, gU_eq, and_self]
    · rw [addB_ne (by omega) (by omega) (by omega), addB_ne (by omega) (by omega) (by omega)]
      simp (disch := omega) only [gU_ne, gU_off]
      exact dB i (by omega)
  · rw [e2] at hi
    rw [addB_ne (by omega) (by omega) (by omega), addB_ne (by omega) (by omega) (by omega), addB_ne (by omega) (by omega) (by omega)]
    simp (disch := omega) only [gU_ne]
    exact dW i hi
theorem c_addWare {σ : gM} {kd wo ag : Nat} {Q : gM → Prop} (hD : DC D σ) (hB4 : D 1 ≤ 4) (h4 : D 2 < 10) (hQ : ∀ σ', (∀ c, (c < 52 ∨ 61 < c) → σ' c = σ c) → DC (addW D kd wo ag) σ' → Q σ') : wK52_addWare (nI kd) (nI wo) (nI ag) (nI 1) σ (fun _ σ16 => Q σ16) := by
  obtain ⟨d0, d1, d2, d3, d4, d5, dB, dW⟩ := hD
  have n01 : ¬ nI 1 = nI 0 := by decide
  have e1 : addW D kd wo ag 1 = D 1 := addW_ne (by omega) (by omega) (by omega) (by omega)
  unfold wK52_addWare wK52_putAt
  simp (disch := first | assumption | omega | decide) only [d4, d5, n01, vinT, nI_clamp, Nat.le_refl, Nat.reduceLeDiff, Nat.reduceLT, Nat.reduceEqDiff, Nat.reduceAdd, Nat.reduceMul, Nat.reduceSub, forall_eq, true_and, and_true, not_true_eq_false, not_false_eq_true, false_implies, true_implies, implies_true, if_true, if_false, ite_self, gU_ne, gU_off, nI_add]
  refine hQ _ (fun c hc => by simp (disch := omega) only [gU_ne]) ⟨?_, ?_, ?_, ?_, ?_, ?_, fun i hi => ?_, fun i hi => ?_⟩
  · simp (disch := omega) only [gU_ne, gU_off]; exact d0
  · rw [addW_ne (by omega) (by omega) (by omega) (by omega)]; simp (disch := omega) only [gU_ne, gU_off]; exact d1
  · simp (disch := omega) only [gU_ne, gU_off]; exact d2
  · rw [e1]; simp (disch := omega) only [gU_ne, gU_off]; exact d3
  · rw [addW_2]; simp (disch := omega) only [gU_ne, gU_off, gU_eq]
  · rw [addW_2]; exact gU_eq
  · rw [e1] at hi
    rw [addW_ne (by omega) (by omega) (by omega) (by omega), addW_ne (by omega) (by omega) (by omega) (by omega)]
    simp (disch := omega) only [gU_ne]
    exact dB i hi
  · rw [addW_2] at hi
    by_cases e : i = D 2
    · subst e
      rw [addW_at.1, addW_at.2.1, addW_at.2.2]
      simp (disch := omega) only [gU_ne, gU_eq, and_self]
    · rw [addW_ne (by omega) (by omega) (by omega) (by omega), addW_ne (by omega) (by omega) (by omega) (by omega), addW_ne (by omega) (by omega) (by omega) (by omega)]
      simp (disch := omega) only [gU_ne, gU_off]
      exact dW i (by omega)
def restB (σ : gM) (Q : gM → Prop) : Prop := wT_readNumber (nI 5) σ (fun (r7 : Int32) (σ7 : gM) => wT_readNumber (nI 200) σ7 (fun (r9 : Int32) (σ9 : gM) => wT_readSign σ9 (fun (σ11 : gM) => ((σ11 18 1) = nI 0 → (wK52_addBuyer r7 r9 σ11 (fun (σ14 : gM) => Q σ14))) ∧ (¬ ((σ11 18 1) = nI 0) → (Q σ11)))))
def restW (σ : gM) (Q : gM → Prop) : Prop := wT_readSort σ (fun (r7 : Int32) (σ7 : gM) => wT_readNumber (nI 30) σ7 (fun (r9 : Int32) (σ9 : gM) => wT_readNumber (nI 9) σ9 (fun (r11 : Int32) (σ11 : gM) => wT_readSign σ11 (fun (σ13 : gM) => ((σ13 18 1) = nI 0 → (wK52_addWare r7 r9 r11 (nI 1) σ13 (fun (r16 : Int32) (σ16 : gM) => Q σ16))) ∧ (¬ ((σ13 18 1) = nI 0) → (Q σ13))))))
theorem j_buyer (ht : t ≤ 400) (hp : p ≤ t) (h4 : D 1 < 4) :
    (∃ num s, (1 ≤ num ∧ num ≤ 3) ∧ s ≤ t ∧ (∀ (σ : gM) (Q : gM → Prop), RC f t p σ → (∀ σ', pF18 σ σ' → FC num s σ' → Q σ') → restB σ Q) ∧ (∀ (τ0 τ : gM) (Q : Int32 → gM → Prop), pFr τ0 τ → RM f t p τ → DM D τ → (∀ τ', pFr τ0 τ' → τ' 82 11 = nI num → τ' 82 7 = nI s → Q (nI 0) τ') → wM_isBuyer τ Q)) ∨
    (∃ a b p', a ≤ 5 ∧ b ≤ 200 ∧ p' ≤ t ∧ (∀ (σ : gM) (Q : gM → Prop), RC f t p σ → DC D σ → (∀ σ', pFc σ σ' → RC f t p' σ' → DC (addB D a b) σ' → Q σ') → restB σ Q) ∧ (∀ (τ0 τ : gM) (Q : Int32 → gM → Prop), pFr τ0 τ → RM f t p τ → DM D τ → (∀ τ', pFr τ0 τ' → τ' 82 11 = τ 82 11 → RM f t p' τ' → DM (addB D a b) τ' → Q (nI 1) τ') → wM_isBuyer τ Q)) := by
  have n01 : ¬ nI 1 = nI 0 := by decide
  have q4 : ¬ D 1 = 4 := by omega
  have fin : ∀ (num s : Nat) (σ σ1 : gM) (Q : gM → Prop), (1 ≤ num ∧ num ≤ 3) → pF18 σ σ1 → FC num s σ1 → (∀ σ', pF18 σ σ' → FC num s σ' → Q σ') → ∀ r7 r9 : Int32, ((σ1 18 1) = nI 0 → (wK52_addBuyer r7 r9 σ1 (fun (σ14 : gM) => Q σ14))) ∧ (¬ ((σ1 18 1) = nI 0) → (Q σ1)) := fun num s σ σ1 Q hn h1 h2 hQ r7 r9 => by
    have : ¬ σ1 18 1 = nI 0 := by rw [h2.1, nI_eqI (by omega) (by omega)]; omega
    exact ⟨fun z => absurd z this, fun _ => hQ σ1 h1 h2⟩
  have hs := tS_spec (f := f) hp
  rcases j_num (f := f) ht hp (most := 5) (by omega) with ⟨num, hn, c1, m1⟩ | ⟨a, p2, ha, hp2, c1, m1⟩
  · refine Or.inl ⟨num, _, hn, hs.2, fun σ Q hR hQ => ?_, fun τ0 τ Q hF hR hD hQ => ?_⟩
    · refine c1 σ _ hR (fun σ1 f1 g1 => f_num hn g1 (fun σ2 f2 g2 => f_sign hn g2 (fun σ3 f3 g3 => ?_)))
      exact fin num _ σ σ3 Q hn (pF18_tr f1 (pF18_tr f2 f3)) g3 hQ _ _
    · unfold wM_isBuyer
      simp (disch := first | assumption | omega | decide) only [hD.2.1, nI_eqI, q4, Nat.le_refl, Nat.reduceLeDiff, Nat.reduceLT, Nat.reduceEqDiff, Nat.reduceAdd, Nat.reduceMul, Nat.reduceSub, forall_eq, true_and, and_true, not_true_eq_false, not_false_eq_true, false_implies, true_implies, implies_true, if_true, if_false, ite_self]
      refine m1 τ _ hR (fun τ1 g1 g2 g3 => ?_)
      simp only [Nat.le_refl, Nat.reduceLeDiff, Nat.reduceLT, Nat.reduceEqDiff, Nat.reduceAdd, Nat.reduceMul, Nat.reduceSub, forall_eq, true_and, and_true, not_true_eq_false, not_false_eq_true, false_implies, true_implies, implies_true, if_true, if_false, ite_self]
      exact hQ τ1 (pFr_m hF g1) g2 g3
  · have hs2 := tS_spec (f := f) hp2
    rcases j_num (f := f) ht hp2 (most := 200) (by omega) with ⟨num, hn, c2, m2⟩ | ⟨b, p3, hb, hp3, c2, m2⟩
    · refine Or.inl ⟨num, _, hn, hs2.2, fun σ Q hR hQ => ?_, fun τ0 τ Q hF hR hD hQ => ?_⟩
      · refine c1 σ _ hR (fun σ1 f1 g1 => c2 σ1 _ g1 (fun σ2 f2 g2 => f_sign hn g2 (fun σ3 f3 g3 => ?_)))
        exact fin num _ σ σ3 Q hn (pF18_tr f1 (pF18_tr f2 f3)) g3 hQ _ _
      · unfold wM_isBuyer
        simp (disch := first | assumption | omega | decide) only [hD.2.1, nI_eqI, q4, Nat.le_refl, Nat.reduceLeDiff, Nat.reduceLT, Nat.reduceEqDiff, Nat.reduceAdd, Nat.reduceMul, Nat.reduceSub, forall_eq, true_and, and_true, not_true_eq_false, not_false_eq_true, false_implies, true_implies, implies_true, if_true, if_false, ite_self]
        refine m1 τ _ hR (fun τ1 g1 g2 g3 => ?_)
        have d13 := (DM_n g1 hD).2.1
        simp (disch := first | assumption | omega | decide) only [Nat.le_refl, Nat.reduceLeDiff, Nat.reduceLT, Nat.reduceEqDiff, Nat.reduceAdd, Nat.reduceMul, Nat.reduceSub, forall_eq, true_and, and_true, not_true_eq_false, not_false_eq_true, false_implies, true_implies, implies_true, if_true, if_false, ite_self, n01, d13, pk_mul, vinT, nI_clamp]
        refine m2 _ _ (RM_U g2 (by omega)) (fun τ2 u1 u2 u3 => ?_)
        simp only [Nat.le_refl, Nat.reduceLeDiff, Nat.reduceLT, Nat.reduceEqDiff, Nat.reduceAdd, Nat.reduceMul, Nat.reduceSub, forall_eq, true_and, and_true, not_true_eq_false, not_false_eq_true, false_implies, true_implies, implies_true, if_true, if_false, ite_self]
        exact hQ τ2 (pFr_m (pFr_U (pFr_m hF (pFm_of g1)) (by omega)) u1) u2 u3
    · have hs3 := tS_spec (f := f) hp3
      have mod : ∀ (τ0 τ : gM) (Q : Int32 → gM → Prop), pFr τ0 τ → RM f t p τ → DM D τ → (∀ τ3, pFr τ0 τ3 → τ3 82 11 = τ 82 11 → RM f t p3 τ3 → DM (addB D a b) τ3 → wM_ends τ3 (fun r14 σ14 => (r14 = nI 0 ∨ r14 = nI 1) ∧ Q r14 σ14)) → wM_isBuyer τ Q := by
        intro τ0 τ Q hF hR hD hQ
        unfold wM_isBuyer
        simp (disch := first | assumption | omega | decide) only [hD.2.1, nI_eqI, q4, Nat.le_refl, Nat.reduceLeDiff, Nat.reduceLT, Nat.reduceEqDiff, Nat.reduceAdd, Nat.reduceMul, Nat.reduceSub, forall_eq, true_and, and_true, not_true_eq_false, not_false_eq_true, false_implies, true_implies, implies_true, if_true, if_false, ite_self]
        refine m1 τ _ hR (fun τ1 g1 g2 g3 => ?_)
        have d1 := DM_n g1 hD
        have d13 := d1.2.1
        simp (disch := first | assumption | omega | decide) only [Nat.le_refl, Nat.reduceLeDiff, Nat.reduceLT, Nat.reduceEqDiff, Nat.reduceAdd, Nat.reduceMul, Nat.reduceSub, forall_eq, true_and, and_true, not_true_eq_false, not_false_eq_true, false_implies, true_implies, implies_true, if_true, if_false, ite_self, n01, d13, pk_mul, vinT, nI_clamp]
        refine m2 _ _ (RM_U g2 (by omega)) (fun τ2 u1 u2 u3 => ?_)
        have d13' : τ2 82 13 = nI (D 1) := by rw [u1.2 13 (by omega) (by omega) (by omega) (by omega) (by omega) (by omega), gU_ne (by omega)]; exact d13
        simp (disch := first | assumption | omega | decide) only [Nat.le_refl, Nat.reduceLeDiff, Nat.reduceLT, Nat.reduceEqDiff, Nat.reduceAdd, Nat.reduceMul, Nat.reduceSub, forall_eq, true_and, and_true, not_true_eq_false, not_false_eq_true, false_implies, true_implies, implies_true, if_true, if_false, ite_self, n01, d13', pk_mul, nI_add, vinT, nI_clamp, gU_ne]
        have hF2 : pFr τ0 τ2 := pFr_m (pFr_U (pFr_m hF (pFm_of g1)) (by omega)) (pFm_of u1)
        obtain ⟨e0, e1, e2, eB, eW⟩ := d1
        refine hQ _ (pFr_82 (pFr_U hF2 (by omega)) (by omega)) ?_ (RM_U (RM_U u2 (by omega)) (by omega)) ⟨?_, ?_, ?_, fun i hi => ?_, fun i hi => ?_⟩
        · rw [gU_off (by omega), gU_ne (by omega), u1.2 11 (by omega) (by omega) (by omega) (by omega) (by omega) (by omega), gU_ne (by omega), g1.2 11 (by omega) (by omega) (by omega) (by omega) (by omega) (by omega)]
        · rw [gU_off (by omega), gU_ne (by omega), u1.2 12 (by omega) (by omega) (by omega) (by omega) (by omega) (by omega), gU_ne (by omega), addB_ne (by omega) (by omega) (by omega)]; exact e0
        · rw [gU_eq, addB_1]
        · rw [gU_off (by omega), gU_ne (by omega), u1.2 14 (by omega) (by omega) (by omega) (by omega) (by omega) (by omega), gU_ne (by omega), addB_ne (by omega) (by omega) (by omega)]; exact e2
        · rw [addB_1] at hi
          rw [gU_ne (by omega)]
          by_cases e : i = D 1
          · subst e
            rw [(addB_at h4).1, (addB_at h4).2, gU_eq, gU_off (by omega), u1.1 87 (by omega), gU_eq, u3, g3]
            exact ⟨rfl, rfl⟩
          · rw [gU_off (by omega), gU_off (by omega), u1.1 87 (by omega), gU_off (by omega), gU_off (by omega), addB_ne (by omega) (by omega) (by omega), addB_ne (by omega) (by omega) (by omega)]
            exact eB i (by omega)
        · rw [addB_ne (by omega) (by omega) (by omega)] at hi
          rw [gU_ne (by omega), gU_ne (by omega), u1.1 88 (by omega), gU_ne (by omega), addB_ne (by omega) (by omega) (by omega), addB_ne (by omega) (by omega) (by omega), addB_ne (by omega) (by omega) (by omega)]
          exact eW i hi
      rcases j_sign (f := f) ht hp3 with ⟨c3, m3⟩ | ⟨p4, hp4, c3, m3⟩
      · refine Or.inl ⟨1, _, by omega, hs3.2, fun σ Q hR hQ => ?_, fun τ0 τ Q hF hR hD hQ => ?_⟩
        · refine c1 σ _ hR (fun σ1 f1 g1 => c2 σ1 _ g1 (fun σ2 f2 g2 => c3 σ2 _ g2 (fun σ3 f3 g3 => ?_)))
          exact fin 1 _ σ σ3 Q (by omega) (pF18_tr f1 (pF18_tr f2 f3)) g3 hQ _ _
        · refine mod τ0 τ Q hF hR hD (fun τ3 a1 a2 a3 a4 => m3 τ3 _ a3 (fun τ4 b1 b2 b3 => ⟨Or.inl rfl, hQ τ4 (pFr_m a1 b1) b2 b3⟩))
      · refine Or.inr ⟨a, b, p4, ha, hb, hp4, fun σ Q hR hD hQ => ?_, fun τ0 τ Q hF hR hD hQ => ?_⟩
        · refine c1 σ _ hR (fun σ1 f1 g1 => c2 σ1 _ g1 (fun σ2 f2 g2 => c3 σ2 _ g2 (fun σ3 f3 g3 => ?_)))
          have hD3 := DC_18 (pF18_tr f1 (pF18_tr f2 f3)) hD
          simp only [g3.2.1, Nat.le_refl, Nat.reduceLeDiff, Nat.reduceLT, Nat.reduceEqDiff, Nat.reduceAdd, Nat.reduceMul, Nat.reduceSub, forall_eq, true_and, and_true, not_true_eq_false, not_false_eq_true, false_implies, true_implies, implies_true, if_true, if_false, ite_self]
          refine c_addBuyer hD3 h4 (fun σ4 u1 u2 => hQ σ4 (fun c hc hc2 => by rw [u1 c hc2, (pF18_tr f1 (pF18_tr f2 f3)) c hc]) (RC_c g3 (u1 18 (by omega)) (u1 19 (by omega))) u2)
        · refine mod τ0 τ Q hF hR hD (fun τ3 a1 a2 a3 a4 => m3 τ3 _ a3 (fun τ4 b1 b2 => ⟨Or.inr rfl, hQ τ4 (pFr_m a1 (pFm_of b1)) (by rw [b1.2 11 (by omega) (by omega) (by omega) (by omega) (by omega) (by omega)]; exact a2) b2 (DM_n b1 a4)⟩))
end Told
