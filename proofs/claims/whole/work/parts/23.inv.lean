/-! WHAT HOLDS BETWEEN CALLS -/
def pTape (σ : gM) : Prop := ∃ t : Nat, t ≤ 400 ∧ σ 18 0 = nI t ∧ σ 82 4 = nI t ∧ ∀ i, i < t → σ 19 i = σ 86 i
def pTrace (σ : gM) : Prop := ∃ t : Nat, t ≤ 16 ∧ σ 0 9 = nI t ∧ σ 82 22 = nI t ∧ ∀ i, i < t → σ 40 i = σ 93 i
def pStands (σ : gM) : Prop := σ 42 0 = σ 89 0 ∧ (σ 89 0 = nI 0 ∨ σ 89 0 = nI 1)
def pMkt (k : Nat) (σ : gM) : Prop := ∃ (nb nw nl : Nat) (hp : Nat → Nat), pMk σ 42 (σ 89) nb nw nl ∧ pWF k (σ 89) nb nw nl hp
def pImg (k j : Nat) (σ : gM) : Prop := (σ (62 + 10 * j) 0 = nI 0 ∧ σ 91 j = nI 0) ∨ (σ (62 + 10 * j) 0 = nI 1 ∧ σ 91 j = nI 1 ∧ σ 90 (102 * j) = nI 1 ∧ ∃ (nb nw nl : Nat) (hp : Nat → Nat), pMk σ (62 + 10 * j) (fun i => σ 90 (102 * j + i)) nb nw nl ∧ pWF k (fun i => σ 90 (102 * j + i)) nb nw nl hp)
/-- all but the relevant entries may differ -/
def pEq (N M : Nat → Int32) : Prop := ∀ i, i < 102 → M i = N i
theorem pMk_eq {σ : gM} {b nb nw nl : Nat} {N M : Nat → Int32} (hb : nb ≤ 4) (hw : nw ≤ 16) (hl : nl ≤ 16) (e : pEq N M) (h : pMk σ b N nb nw nl) : pMk σ b M nb nw nl := by
  obtain ⟨h1, h2, h3, h4, h5, h6, h7, h8⟩ := h
  refine ⟨by rw [e _ (by omega)]; exact h1, by rw [e _ (by omega)]; exact h2, h3, h4, h5, fun i hi => ?_, fun w hi => ?_, fun i hi => ?_⟩
  · rw [e _ (by omega), e _ (by omega), e _ (by omega), e _ (by omega)]; exact h6 i hi
  · rw [e _ (by omega), e _ (by omega), e _ (by omega), e _ (by omega)]; exact h7 w hi
  · rw [e _ (by omega)]; exact h8 i hi
theorem pWF_eq {k nb nw nl : Nat} {N M : Nat → Int32} {hp : Nat → Nat} (e : pEq N M) (h : pWF k N nb nw nl hp) : pWF k M nb nw nl hp := by
  obtain ⟨h1, h2, h3, h4, h5, h6, h7, ⟨dy, h8, h9⟩, h10, h11, h12, h13⟩ := h
  refine ⟨by rw [e _ (by omega)]; exact h1, by rw [e _ (by omega)]; exact h2, by rw [e _ (by omega)]; exact h3, h4, h5, h6, by rw [e _ (by omega)]; exact h7, ⟨dy, h8, by rw [e _ (by omega)]; exact h9⟩, fun i hi => ⟨(h10 i hi).1, by rw [e _ (by omega)]; exact (h10 i hi).2.1, by rw [e _ (by have := (h10 i hi).1; omega)]; exact (h10 i hi).2.2⟩, h11, fun b hb => ?_, fun w hw => ?_⟩
  · rw [e _ (by omega)]; exact h12 b hb
  · rw [e _ (by omega), e _ (by omega), e _ (by omega)]; exact h13 w hw
theorem pWF_le {k k' nb nw nl : Nat} {N : Nat → Int32} {hp : Nat → Nat} (hk : k ≤ k') (h : pWF k N nb nw nl hp) : pWF k' N nb nw nl hp := by
  obtain ⟨h1, h2, h3, h4, h5, h6, h7, ⟨dy, h8, h9⟩, h10, h11, h12, h13⟩ := h
  refine ⟨h1, h2, h3, h4, h5, h6, h7, ⟨dy, by omega, h9⟩, h10, h11, h12, fun w hw => ?_⟩
  obtain ⟨kd, wo, ag, a1, a2, a3, a4, a5⟩ := h13 w hw
  exact ⟨kd, wo, ag, a1, a2, a3, by omega, a5⟩
theorem pMk_fr {σ σ' : gM} {b nb nw nl : Nat} {N : Nat → Int32} (h0 : ∀ j, 1 ≤ j → j ≤ 5 → σ' b j = σ b j) (e : ∀ a, b < a → a ≤ b + 9 → σ' a = σ a) (h : pMk σ b N nb nw nl) : pMk σ' b N nb nw nl := by
  obtain ⟨h1, h2, h3, h4, h5, h6, h7, h8⟩ := h
  refine ⟨by rw [h0 1 (by omega) (by omega)]; exact h1, by rw [h0 2 (by omega) (by omega)]; exact h2, by rw [h0 3 (by omega) (by omega)]; exact h3, by rw [h0 4 (by omega) (by omega)]; exact h4, by rw [h0 5 (by omega) (by omega)]; exact h5, fun i hi => ?_, fun w hi => ?_, fun i hi => ?_⟩
  · rw [e (b + 1) (by omega) (by omega), e (b + 2) (by omega) (by omega), e (b + 3) (by omega) (by omega), e (b + 4) (by omega) (by omega)]; exact h6 i hi
  · rw [e (b + 5) (by omega) (by omega), e (b + 6) (by omega) (by omega), e (b + 7) (by omega) (by omega), e (b + 8) (by omega) (by omega)]; exact h7 w hi
  · rw [e (b + 9) (by omega) (by omega)]; exact h8 i hi
/-! the acts: what was done to the market, latest last, in the reference's row a of fives -/
def pVal0 (N : Nat → Int32) (w : Nat) : Int32 := pV N w (nI 0)
/-- what stays in an act but heap, taker, purse and so on -/
def pStep (s e b p g : Int32) (N0 N : Nat → Int32) (nb nw nl : Nat) (hp : Nat → Nat) : Prop :=
  N 0 = N0 0 ∧ N 1 = N0 1 ∧ N 2 = N0 2 ∧ (e = nI 0 ∨ e = nI 1) ∧
  ((∃ w bi : Nat, bi < nb ∧ 0 < nl ∧ w = hp (if e = nI 0 then 0 else nl - 1) ∧ s = nI (3 + w) ∧ b = nI bi ∧ p = pV N0 w (nI 0) ∧ g = pVT N0 bi w (nI 0) ∧
      N 3 = nI nw ∧ N 4 = N0 4 ∧ N 5 = nI (nl - 1) ∧ (∀ i, i < nl - 1 → N (86 + i) = N0 (86 + (if e = nI 0 then i + 1 else i))) ∧
      (∀ i, i < nb → N (6 + 4 * i) = N0 (6 + 4 * i) ∧ N (6 + 4 * i + 1) = (if i = bi then N0 (6 + 4 * i + 1) - p else N0 (6 + 4 * i + 1)) ∧ N (6 + 4 * i + 2) = (if i = bi then N0 (6 + 4 * i + 2) + g else N0 (6 + 4 * i + 2)) ∧ N (6 + 4 * i + 3) = (if i = bi then N0 (6 + 4 * i + 3) + nI 1 else N0 (6 + 4 * i + 3))) ∧
      (∀ i, i < nw → N (22 + 4 * i) = N0 (22 + 4 * i) ∧ N (22 + 4 * i + 1) = N0 (22 + 4 * i + 1) ∧ N (22 + 4 * i + 2) = N0 (22 + 4 * i + 2) ∧ N (22 + 4 * i + 3) = (if i = w then nI bi else N0 (22 + 4 * i + 3))) ∧ N0 (22 + 4 * w + 3) = -1000000) ∨
   (s = nI 1 ∧ nw < 16 ∧ N 3 = nI (nw + 1) ∧ N 4 = N0 4 ∧ N 5 = nI (nl + 1) ∧ (∀ i, i < nl → N (86 + (if e = nI 0 then i + 1 else i)) = N0 (86 + i)) ∧ N (86 + (if e = nI 0 then 0 else nl)) = nI nw ∧
      (∀ i, i < nb → N (6 + 4 * i) = N0 (6 + 4 * i) ∧ N (6 + 4 * i + 1) = N0 (6 + 4 * i + 1) ∧ N (6 + 4 * i + 2) = N0 (6 + 4 * i + 2) ∧ N (6 + 4 * i + 3) = N0 (6 + 4 * i + 3)) ∧
      (∀ i, i < nw → N (22 + 4 * i) = N0 (22 + 4 * i) ∧ N (22 + 4 * i + 1) = N0 (22 + 4 * i + 1) ∧ N (22 + 4 * i + 2) = N0 (22 + 4 * i + 2) ∧ N (22 + 4 * i + 3) = N0 (22 + 4 * i + 3))) ∨
   (s = nI 2 ∧ N 3 = nI nw ∧ N 4 = N0 4 + nI 1 ∧ N 5 = nI nl ∧ (∀ i, i < nl → N (86 + i) = N0 (86 + i)) ∧
      (∀ i, i < nb → N (6 + 4 * i) = N0 (6 + 4 * i) ∧ N (6 + 4 * i + 1) = N0 (6 + 4 * i + 1) ∧ N (6 + 4 * i + 2) = N0 (6 + 4 * i + 2) ∧ N (6 + 4 * i + 3) = N0 (6 + 4 * i + 3)) ∧
      (∀ i, i < nw → N (22 + 4 * i) = N0 (22 + 4 * i) ∧ N (22 + 4 * i + 1) = N0 (22 + 4 * i + 1) ∧ N (22 + 4 * i + 3) = N0 (22 + 4 * i + 3) ∧ ((∃ j, j < nl ∧ hp j = i) → N (22 + 4 * i + 2) = N0 (22 + 4 * i + 2) + nI 1) ∧ ((∀ j, j < nl → hp j ≠ i) → N (22 + 4 * i + 2) = N0 (22 + 4 * i + 2)))))
def pHist (k : Nat) : Nat → (Nat → Int32) → (Nat → Int32) → Prop
  | 0, _, _ => True
  | n + 1, a, N => ∃ (N0 : Nat → Int32) (nb nw nl : Nat) (hp : Nat → Nat), pWF k N0 nb nw nl hp ∧ pHist k n a N0 ∧ pStep (a (5 * n)) (a (5 * n + 1)) (a (5 * n + 2)) (a (5 * n + 3)) (a (5 * n + 4)) N0 N nb nw nl hp
/-- the class's ring and the reference's row tell the same acts -/
def pRing (σ : gM) (n nx : Nat) : Prop := ∀ j, j < n → ∃ p : Nat, p = (nx + 24 - n + j) % 24 ∧
  ((∃ w : Nat, w < 16 ∧ σ 92 (5 * j) = nI (3 + w) ∧ σ 21 p = nI 0 ∧ σ 23 p = nI w ∧ σ 22 p = σ 92 (5 * j + 1)) ∨ (σ 92 (5 * j) = nI 1 ∧ σ 21 p = nI 1 ∧ σ 22 p = σ 92 (5 * j + 1)) ∨ (σ 92 (5 * j) = nI 2 ∧ σ 21 p = nI 2))
def pActs (k : Nat) (σ : gM) : Prop := ∃ n nx : Nat, n ≤ 24 ∧ nx < 24 ∧ σ 82 20 = nI n ∧ σ 20 3 = nI n ∧ σ 20 4 = nI nx ∧ pRing σ n nx ∧ pHist k n (σ 92) (σ 89)
theorem pHist_le {k k' : Nat} (hk : k ≤ k') : ∀ (n : Nat) (a N : Nat → Int32), pHist k n a N → pHist k' n a N
  | 0, _, _, _ => trivial
  | n + 1, a, N, ⟨N0, nb, nw, nl, hp, h1, h2, h3⟩ => ⟨N0, nb, nw, nl, hp, pWF_le hk h1, pHist_le hk n a N0 h2, h3⟩
def pInv (k : Nat) (σ : gM) : Prop := pRows σ ∧ σ 0 11 = σ 82 3 ∧ σ 0 10 = σ 82 11 ∧ pTape σ ∧ pTrace σ ∧ pStands σ ∧ pMkt k σ ∧ pImg k 0 σ ∧ pImg k 1 σ ∧ pActs k σ
theorem pMkt_le {k k' : Nat} (hk : k ≤ k') {σ : gM} (h : pMkt k σ) : pMkt k' σ := by
  obtain ⟨nb, nw, nl, hp, h1, h2⟩ := h
  exact ⟨nb, nw, nl, hp, h1, pWF_le hk h2⟩
theorem pImg_le {k k' j : Nat} (hk : k ≤ k') {σ : gM} (h : pImg k j σ) : pImg k' j σ := by
  rcases h with h | ⟨h1, h2, h3, nb, nw, nl, hp, h4, h5⟩
  · exact Or.inl h
  · exact Or.inr ⟨h1, h2, h3, nb, nw, nl, hp, h4, pWF_le hk h5⟩
theorem pActs_le {k k' : Nat} (hk : k ≤ k') {σ : gM} (h : pActs k σ) : pActs k' σ := by
  obtain ⟨n, nx, h1, h2, h3, h4, h5, h6, h7⟩ := h
  exact ⟨n, nx, h1, h2, h3, h4, h5, h6, pHist_le hk _ _ _ h7⟩
theorem pInv_le {k k' : Nat} (hk : k ≤ k') {σ : gM} (h : pInv k σ) : pInv k' σ := by
  obtain ⟨h1, h2, h3, h4, h5, h6, h7, h8, h9, h10⟩ := h
  exact ⟨h1, h2, h3, h4, h5, h6, pMkt_le hk h7, pImg_le hk h8, pImg_le hk h9, pActs_le hk h10⟩
/-! what does not look at a cell -/
theorem pTape_fr {σ σ' : gM} (h1 : σ' 18 0 = σ 18 0) (h2 : σ' 82 4 = σ 82 4) (h3 : σ' 19 = σ 19) (h4 : σ' 86 = σ 86) (h : pTape σ) : pTape σ' := by
  unfold pTape
  rw [h1, h2, h3, h4]
  exact h
theorem pTrace_fr {σ σ' : gM} (h1 : σ' 0 9 = σ 0 9) (h2 : σ' 82 22 = σ 82 22) (h3 : σ' 40 = σ 40) (h4 : σ' 93 = σ 93) (h : pTrace σ) : pTrace σ' := by
  unfold pTrace
  rw [h1, h2, h3, h4]
  exact h
theorem pStands_fr {σ σ' : gM} (h1 : σ' 42 0 = σ 42 0) (h2 : σ' 89 = σ 89) (h : pStands σ) : pStands σ' := by
  unfold pStands
  rw [h1, h2]
  exact h
theorem pMkt_fr {k : Nat} {σ σ' : gM} (h1 : ∀ a, 42 ≤ a → a ≤ 51 → σ' a = σ a) (h2 : σ' 89 = σ 89) (h : pMkt k σ) : pMkt k σ' := by
  obtain ⟨nb, nw, nl, hp, a1, a2⟩ := h
  refine ⟨nb, nw, nl, hp, ?_, ?_⟩
  · rw [h2]
    exact pMk_fr (fun j _ _ => by rw [h1 42 (by omega) (by omega)]) (fun a b1 b2 => h1 a (by omega) (by omega)) a1
  · rw [h2]
    exact a2
theorem pImg_fr {k j : Nat} {σ σ' : gM} (h1 : ∀ a, 62 + 10 * j ≤ a → a ≤ 71 + 10 * j → σ' a = σ a) (h2 : σ' 90 = σ 90) (h3 : σ' 91 = σ 91) (h : pImg k j σ) : pImg k j σ' := by
  unfold pImg
  rw [h2, h3, h1 (62 + 10 * j) (by omega) (by omega)]
  rcases h with h | ⟨a1, a2, a3, nb, nw, nl, hp, a4, a5⟩
  · exact Or.inl h
  · exact Or.inr ⟨a1, a2, a3, nb, nw, nl, hp, pMk_fr (fun i _ _ => by rw [h1 (62 + 10 * j) (by omega) (by omega)]) (fun a b1 b2 => h1 a (by omega) (by omega)) a4, a5⟩
theorem pActs_fr {k : Nat} {σ σ' : gM} (h1 : σ' 82 20 = σ 82 20) (h2 : σ' 20 = σ 20) (h3 : σ' 21 = σ 21) (h4 : σ' 22 = σ 22) (h5 : σ' 23 = σ 23) (h6 : σ' 92 = σ 92) (h7 : σ' 89 = σ 89) (h : pActs k σ) : pActs k σ' := by
  unfold pActs pRing
  rw [h1, h2, h3, h4, h5, h6, h7]
  exact h
/-- what is foretold leaves all this as it was -/
theorem pInv_same {k : Nat} {σ σ' : gM} (h1 : ∀ a, a < 24 → σ' a = σ a) (h2 : ∀ a, 40 ≤ a → a < 52 → σ' a = σ a) (h3 : ∀ a, 62 ≤ a → a < 94 → σ' a = σ a) (h : pInv k σ) : pInv k σ' := by
  obtain ⟨a1, a2, a3, a4, a5, a6, a7, a8, a9, a10⟩ := h
  refine ⟨pRows_fr a1 (fun r hr => h1 _ (by omega)) (fun r hr => h1 _ (by omega)) (h3 83 (by omega) (by omega)) (h3 84 (by omega) (by omega)) (h3 85 (by omega) (by omega)), by rw [h1 0 (by omega), h3 82 (by omega) (by omega)]; exact a2, by rw [h1 0 (by omega), h3 82 (by omega) (by omega)]; exact a3,
    pTape_fr (by rw [h1 18 (by omega)]) (by rw [h3 82 (by omega) (by omega)]) (h1 19 (by omega)) (h3 86 (by omega) (by omega)) a4, pTrace_fr (by rw [h1 0 (by omega)]) (by rw [h3 82 (by omega) (by omega)]) (h2 40 (by omega) (by omega)) (h3 93 (by omega) (by omega)) a5,
    pStands_fr (by rw [h2 42 (by omega) (by omega)]) (h3 89 (by omega) (by omega)) a6, pMkt_fr (fun a b1 b2 => h2 a (by omega) (by omega)) (h3 89 (by omega) (by omega)) a7, pImg_fr (fun a b1 b2 => h3 a (by omega) (by omega)) (h3 90 (by omega) (by omega)) (h3 91 (by omega) (by omega)) a8, pImg_fr (fun a b1 b2 => h3 a (by omega) (by omega)) (h3 90 (by omega) (by omega)) (h3 91 (by omega) (by omega)) a9,
    pActs_fr (by rw [h3 82 (by omega) (by omega)]) (h1 20 (by omega)) (h1 21 (by omega)) (h1 22 (by omega)) (h1 23 (by omega)) (h3 92 (by omega) (by omega)) (h3 89 (by omega) (by omega)) a10⟩
/-- both status() are written alike -/
def pSt (σ : gM) (v : Int32) : gM := gU (gU σ 0 11 v) 82 3 v
theorem pInv_st {k : Nat} {σ : gM} (v : Int32) (h : pInv k σ) : pInv k (pSt σ v) := by
  obtain ⟨a1, a2, a3, a4, a5, a6, a7, a8, a9, a10⟩ := h
  have e : ∀ a, a ≠ 0 → a ≠ 82 → pSt σ v a = σ a := fun a b1 b2 => by unfold pSt; rw [gU_ne b2, gU_ne b1]
  have f : ∀ j, j ≠ 11 → pSt σ v 0 j = σ 0 j := fun j b => by unfold pSt; rw [gU_ne (by omega), gU_off b]
  have g : ∀ j, j ≠ 3 → pSt σ v 82 j = σ 82 j := fun j b => by unfold pSt; rw [gU_off b, gU_ne (by omega)]
  refine ⟨pRows_fr a1 (fun r hr => e _ (by omega) (by omega)) (fun r hr => e _ (by omega) (by omega)) (e _ (by omega) (by omega)) (e _ (by omega) (by omega)) (e _ (by omega) (by omega)), by unfold pSt; rw [gU_eq, gU_ne (by omega), gU_eq], by rw [f _ (by omega), g _ (by omega)]; exact a3,
    pTape_fr (by rw [e _ (by omega) (by omega)]) (g _ (by omega)) (e _ (by omega) (by omega)) (e _ (by omega) (by omega)) a4, pTrace_fr (f _ (by omega)) (g _ (by omega)) (e _ (by omega) (by omega)) (e _ (by omega) (by omega)) a5,
    pStands_fr (by rw [e _ (by omega) (by omega)]) (e _ (by omega) (by omega)) a6, pMkt_fr (fun a b1 b2 => e _ (by omega) (by omega)) (e _ (by omega) (by omega)) a7, pImg_fr (fun a b1 b2 => e _ (by omega) (by omega)) (e _ (by omega) (by omega)) (e _ (by omega) (by omega)) a8, pImg_fr (fun a b1 b2 => e _ (by omega) (by omega)) (e _ (by omega) (by omega)) (e _ (by omega) (by omega)) a9,
    pActs_fr (g _ (by omega)) (e _ (by omega) (by omega)) (e _ (by omega) (by omega)) (e _ (by omega) (by omega)) (e _ (by omega) (by omega)) (e _ (by omega) (by omega)) (e _ (by omega) (by omega)) a10⟩
/-- both calls of one method: the same answer, and P behind -/
def pBoth (A B : gM → (Int32 → gM → Prop) → Prop) (σ : gM) (P : gM → Prop) : Prop := A σ (fun r1 σ1 => B σ1 (fun r2 σ2 => r1 = r2 ∧ P σ2))
