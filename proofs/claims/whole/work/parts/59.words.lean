/-! WORDS -/
def encW : List Nat → Nat
  | [] => 0
  | r :: rs => 27 * encW rs + r
theorem wv_word {f : Nat → Int32} {s : Nat} : ∀ (ws : List Nat) (L : Nat), (∀ r ∈ ws, 1 ≤ r ∧ r ≤ 26) → (∀ j, j < L → isLt (f (s + j)) = true) → (wv f s L = encW ws ↔ L = ws.length ∧ ∀ i, i < L → f (s + i) = nI (96 + ws.getD (L - 1 - i) 0))
  | [], 0, _, _ => ⟨fun _ => ⟨rfl, fun i hi => absurd hi (by omega)⟩, fun _ => rfl⟩
  | [], l + 1, _, hl => by
    obtain ⟨c, c1, c2, c3⟩ := isLt_of (hl l (by omega))
    rw [wv, c3, nI_clamp (by omega), encW]
    constructor
    · intro h; omega
    · intro h; exact absurd h.1 (by simp)
  | r :: rs, 0, hr, _ => by
    have := hr r List.mem_cons_self
    rw [wv, encW]
    constructor
    · intro h; omega
    · intro h; exact absurd h.1 (by simp)
  | r :: rs, l + 1, hr, hl => by
    have hr0 := hr r List.mem_cons_self
    obtain ⟨c, c1, c2, c3⟩ := isLt_of (hl l (by omega))
    have ih := wv_word rs l (fun x hx => hr x (List.mem_cons_of_mem _ hx)) (fun j hj => hl j (by omega))
    rw [wv, c3, nI_clamp (by omega), encW]
    constructor
    · intro h
      have h1 : wv f s l = encW rs := by omega
      have h2 : c = 96 + r := by omega
      obtain ⟨i1, i2⟩ := ih.mp h1
      refine ⟨by rw [List.length_cons, i1], fun i hi => ?_⟩
      by_cases e : i = l
      · rw [e, c3, h2, show l + 1 - 1 - l = 0 by omega]
        rfl
      · rw [i2 i (by omega), show l + 1 - 1 - i = (l - 1 - i) + 1 by omega]
        rfl
    · intro ⟨h1, h2⟩
      have hc := h2 l (by omega)
      rw [c3, show l + 1 - 1 - l = 0 by omega] at hc
      have hc2 : nI c = nI (96 + r) := hc
      have hc3 := nI_inj (by omega) (by omega) hc2
      have h3 : wv f s l = encW rs := ih.mpr ⟨by rw [List.length_cons] at h1; omega, fun i hi => by
        have := h2 i (by omega)
        rw [show l + 1 - 1 - i = (l - 1 - i) + 1 by omega] at this
        exact this⟩
      omega
def isW (f : Nat → Int32) (t k L s : Nat) : Prop := tKs f t s = 0 ∧ tEs f t s - s = L ∧ ∀ j, j < L → f (s + j) = gCh k j
section Words
variable {t : Nat} {f : Nat → Int32}
theorem tK_cases (s : Nat) : (t ≤ s ∧ tKs f t s = 3 ∧ ∀ v, tCok f t s v → v = -2) ∨ (¬ t ≤ s ∧ isLt (f s) = true ∧ tKs f t s = 0 ∧ ∀ v, tCok f t s v → (tEs f t s - s ≤ 9 ∧ v.toInt = (wv f s (tEs f t s - s) : Int)) ∨ (¬ tEs f t s - s ≤ 9 ∧ v = -4)) ∨ (¬ t ≤ s ∧ isLt (f s) = false ∧ isFg (f s) = true ∧ tKs f t s = 1 ∧ tEs f t s - s ≤ 3 ∧ ∀ v, tCok f t s v → v = -1) ∨ (tKs f t s = 4 ∧ ∀ v, tCok f t s v → v = -4) ∨ (tKs f t s = 2 ∧ ∀ v, tCok f t s v → v = -3) := by
  unfold tCok
  have hK : tKs f t s = (if t ≤ s then 3 else if isLt (f s) = true then 0 else if isFg (f s) = true then (if tEs f t s - s ≤ 3 then 1 else 4) else if f s = nI 59 then 2 else 4) := rfl
  by_cases q : t ≤ s
  · rw [if_pos q] at hK
    simp only [q, if_true]
    exact Or.inl ⟨trivial, hK, fun v h => h⟩
  · rw [if_neg q] at hK
    by_cases q1 : isLt (f s) = true
    · rw [if_pos q1] at hK
      simp only [q, q1, if_true, if_false]
      refine Or.inr (Or.inl ⟨id, trivial, hK, fun v h => ?_⟩)
      by_cases q2 : tEs f t s - s ≤ 9
      · rw [if_pos q2] at h; exact Or.inl ⟨q2, h⟩
      · rw [if_neg q2] at h; exact Or.inr ⟨q2, h⟩
    · rw [if_neg q1] at hK
      have q1' : isLt (f s) = false := Bool.not_eq_true _ ▸ q1
      by_cases q2 : isFg (f s) = true
      · rw [if_pos q2] at hK
        by_cases q3 : tEs f t s - s ≤ 3
        · rw [if_pos q3] at hK
          refine Or.inr (Or.inr (Or.inl ⟨q, q1', q2, hK, q3, fun v h => ?_⟩))
          rw [if_neg q, if_neg q1, if_pos q2, if_pos q3] at h
          exact h
        · rw [if_neg q3] at hK
          refine Or.inr (Or.inr (Or.inr (Or.inl ⟨hK, fun v h => ?_⟩)))
          rw [if_neg q, if_neg q1, if_pos q2, if_neg q3] at h
          exact h
      · rw [if_neg q2] at hK
        by_cases q3 : f s = nI 59
        · rw [if_pos q3] at hK
          refine Or.inr (Or.inr (Or.inr (Or.inr ⟨hK, fun v h => ?_⟩)))
          rw [if_neg q, if_neg q1, if_neg q2, if_pos q3] at h
          exact h
        · rw [if_neg q3] at hK
          refine Or.inr (Or.inr (Or.inr (Or.inl ⟨hK, fun v h => ?_⟩)))
          rw [if_neg q, if_neg q1, if_neg q2, if_neg q3] at h
          exact h
theorem isLt_run {s j : Nat} (hq : ¬ t ≤ s) (hl : isLt (f s) = true) (hj : j < tEs f t s - s) : isLt (f (s + j)) = true := by
  have e : tEs f t s = rn (fun j => isLt (f j)) (t - s) s := by
    unfold tEs
    rw [if_neg hq, if_pos hl]
  obtain ⟨h1, h2, h3, h4⟩ := rn_spec (P := fun j => isLt (f j)) (t - s) s
  exact h3 (s + j) (by omega) (by omega)
/-- a number below none is no word -/
theorem neg_word {v : Int64} {W : Nat} {w : Int64} (hw : w.toInt = (W : Int)) (h : v = -1 ∨ v = -2 ∨ v = -3 ∨ v = -4) : v ≠ w := by
  intro e
  rw [← e] at hw
  rcases h with h | h | h | h <;> rw [h] at hw <;> (first | have hw : (-1 : Int) = W := hw; omega | have hw : (-2 : Int) = W := hw; omega | have hw : (-3 : Int) = W := hw; omega | have hw : (-4 : Int) = W := hw; omega)
theorem tC_word {s k L : Nat} {v w : Int64} (ws : List Nat) (hws : ∀ r ∈ ws, 1 ≤ r ∧ r ≤ 26) (hL : ws.length = L) (hL9 : L ≤ 9) (hg : ∀ j, j < L → gCh k j = nI (96 + ws.getD (L - 1 - j) 0)) (hw : w.toInt = (encW ws : Int)) (hv : tCok f t s v) : (v = w) ↔ isW f t k L s := by
  unfold isW
  rcases tK_cases (f := f) (t := t) s with ⟨a1, a2, a3⟩ | ⟨a1, a2, a3, a4⟩ | ⟨a1, a2, a3, a4, a5, a6⟩ | ⟨a1, a2⟩ | ⟨a1, a2⟩
  · exact ⟨fun e => absurd e (neg_word hw (by rw [a3 v hv]; simp)), fun e => by rw [a2] at e; omega⟩
  · rcases a4 v hv with ⟨b1, b2⟩ | ⟨b1, b2⟩
    · rw [L_eq b2 hw, wv_word ws _ hws (fun j hj => isLt_run a1 a2 hj)]
      constructor
      · intro ⟨h1, h2⟩
        refine ⟨a3, by rw [h1, hL], fun j hj => ?_⟩
        rw [h2 j (by omega), hg j hj, h1, hL]
      · intro ⟨_, h1, h2⟩
        refine ⟨by rw [h1, hL], fun i hi => ?_⟩
        rw [h1] at hi ⊢
        rw [h2 i hi, hg i hi]
    · exact ⟨fun e => absurd e (neg_word hw (by rw [b2]; simp)), fun e => by omega⟩
  · exact ⟨fun e => absurd e (neg_word hw (by rw [a6 v hv]; simp)), fun e => by rw [a4] at e; omega⟩
  · exact ⟨fun e => absurd e (neg_word hw (by rw [a2 v hv]; simp)), fun e => by rw [a1] at e; omega⟩
  · exact ⟨fun e => absurd e (neg_word hw (by rw [a2 v hv]; simp)), fun e => by rw [a1] at e; omega⟩
theorem lgc {v w : Int64} : (lg_cmp v w = nI 0) = (v = w) := propext (lg_cmp_eq v w)
theorem tC_law {s : Nat} {v : Int64} (hv : tCok f t s v) : (v = 8798) ↔ isW f t 0 3 s := tC_word [23, 1, 12] (by decide) rfl (by omega) (by decide) rfl hv
theorem tC_buyer {s : Nat} {v : Int64} (hv : tCok f t s v) : (v = 1494603) ↔ isW f t 1 5 s := tC_word [18, 5, 25, 21, 2] (by decide) rfl (by omega) (by decide) rfl hv
theorem tC_ware {s : Nat} {v : Int64} (hv : tCok f t s v) : (v = 453929) ↔ isW f t 2 4 s := tC_word [5, 18, 1, 23] (by decide) rfl (by omega) (by decide) rfl hv
theorem tC_fruit {s : Nat} {v : Int64} (hv : tCok f t s v) : (v = 3558512) ↔ isW f t 3 5 s := tC_word [20, 9, 21, 18, 6] (by decide) rfl (by omega) (by decide) rfl hv
theorem tC_melon {s : Nat} {v : Int64} (hv : tCok f t s v) : (v = 7016315) ↔ isW f t 4 5 s := tC_word [14, 15, 12, 5, 13] (by decide) rfl (by omega) (by decide) rfl hv
theorem tC_berry {s : Nat} {v : Int64} (hv : tCok f t s v) : (v = 1174930) ↔ isW f t 5 5 s := tC_word [25, 18, 18, 5, 2] (by decide) rfl (by omega) (by decide) rfl hv
theorem tC_cloth {s : Nat} {v : Int64} (hv : tCok f t s v) : (v = 1842002) ↔ isW f t 6 5 s := tC_word [8, 20, 15, 12, 3] (by decide) rfl (by omega) (by decide) rfl hv
theorem tC_silk {s : Nat} {v : Int64} (hv : tCok f t s v) : (v = 380873) ↔ isW f t 7 4 s := tC_word [11, 12, 9, 19] (by decide) rfl (by omega) (by decide) rfl hv
theorem wv_not {s : Nat} {v w : Int64} {n : Int} (hn : n < 0) (hw : w.toInt = n) (h : v.toInt = (wv f s (tEs f t s - s) : Int)) : v ≠ w := by
  intro e
  rw [e, hw] at h
  omega
theorem tC_end {s : Nat} {v : Int64} (hv : tCok f t s v) : (v = -2) ↔ tKs f t s = 3 := by
  rcases tK_cases (f := f) (t := t) s with ⟨a1, a2, a3⟩ | ⟨a1, a2, a3, a4⟩ | ⟨a1, a2, a3, a4, a5, a6⟩ | ⟨a1, a2⟩ | ⟨a1, a2⟩
  · rw [a3 v hv, a2]; simp
  · rw [a3]
    refine ⟨fun e => ?_, fun e => absurd e (by omega)⟩
    rcases a4 v hv with ⟨b1, b2⟩ | ⟨b1, b2⟩
    · exact absurd e (wv_not (n := -2) (by omega) rfl b2)
    · rw [b2] at e; exact absurd e (by decide)
  · rw [a6 v hv, a4]; decide
  · rw [a2 v hv, a1]; decide
  · rw [a2 v hv, a1]; decide
theorem tC_num {s : Nat} {v : Int64} (hv : tCok f t s v) : (v = -1) ↔ tKs f t s = 1 := by
  rcases tK_cases (f := f) (t := t) s with ⟨a1, a2, a3⟩ | ⟨a1, a2, a3, a4⟩ | ⟨a1, a2, a3, a4, a5, a6⟩ | ⟨a1, a2⟩ | ⟨a1, a2⟩
  · rw [a3 v hv, a2]; decide
  · rw [a3]
    refine ⟨fun e => ?_, fun e => absurd e (by omega)⟩
    rcases a4 v hv with ⟨b1, b2⟩ | ⟨b1, b2⟩
    · exact absurd e (wv_not (n := -1) (by omega) rfl b2)
    · rw [b2] at e; exact absurd e (by decide)
  · rw [a6 v hv, a4]; simp
  · rw [a2 v hv, a1]; decide
  · rw [a2 v hv, a1]; decide
theorem tC_sign {s : Nat} {v : Int64} (hv : tCok f t s v) : (v = -3) ↔ tKs f t s = 2 := by
  rcases tK_cases (f := f) (t := t) s with ⟨a1, a2, a3⟩ | ⟨a1, a2, a3, a4⟩ | ⟨a1, a2, a3, a4, a5, a6⟩ | ⟨a1, a2⟩ | ⟨a1, a2⟩
  · rw [a3 v hv, a2]; decide
  · rw [a3]
    refine ⟨fun e => ?_, fun e => absurd e (by omega)⟩
    rcases a4 v hv with ⟨b1, b2⟩ | ⟨b1, b2⟩
    · exact absurd e (wv_not (n := -3) (by omega) rfl b2)
    · rw [b2] at e; exact absurd e (by decide)
  · rw [a6 v hv, a4]; decide
  · rw [a2 v hv, a1]; decide
  · rw [a2 v hv, a1]; simp
theorem tVs_1 {s : Nat} (h : tKs f t s = 1) : tVs f t s < 1000 := by
  rcases tK_cases (f := f) (t := t) s with ⟨a1, a2, a3⟩ | ⟨a1, a2, a3, a4⟩ | ⟨a1, a2, a3, a4, a5, a6⟩ | ⟨a1, a2⟩ | ⟨a1, a2⟩
  · omega
  · omega
  · exact tVs_lt a3 (by rw [a2]; simp) a1
  · omega
  · omega
/-! the class looks for a word -/
theorem s_isWord_law_l {σ : gM} {s : Nat} (ht : t ≤ 400) (hc : CS f t σ) (h4 : σ 18 4 = nI s) (hs : s + 3 ≤ t) {Q : Int32 → gM → Prop} (hy : (∀ j, j < 3 → f (s + j) = gCh 0 j) → Q (nI 1) σ) (hn : ¬ (∀ j, j < 3 → f (s + j) = gCh 0 j) → Q (nI 0) σ) : ∀ (m i : Nat), i + m = 3 → (∀ j, j < i → f (s + j) = gCh 0 j) → wT_isWord_law_l27 Q (m + 1) (nI i) σ := by
  intro m
  induction m with
  | zero =>
    intro i hi h
    have : i = 3 := by omega
    subst this
    rw [wT_isWord_law_l27]
    simp (disch := first | assumption | omega | decide) only [nI_leI2, Nat.le_refl, Nat.reduceLeDiff, Nat.reduceLT, Nat.reduceEqDiff, Nat.reduceAdd, Nat.reduceMul, Nat.reduceSub, forall_eq, true_and, and_true, not_true_eq_false, not_false_eq_true, false_implies, true_implies, implies_true, if_true, if_false, ite_self]
    exact hy h
  | succ m ih =>
    intro i hi h
    have q : ¬ 3 ≤ i := by omega
    have e := hc.2 (s + i) (by omega)
    rw [wT_isWord_law_l27]
    simp (disch := first | assumption | omega | decide) only [h4, nI_add, nI_leI2, q, vinT, nI_clamp, e, Nat.le_refl, Nat.reduceLeDiff, Nat.reduceLT, Nat.reduceEqDiff, Nat.reduceAdd, Nat.reduceMul, Nat.reduceSub, forall_eq, true_and, and_true, not_true_eq_false, not_false_eq_true, false_implies, true_implies, implies_true, if_true, if_false, ite_self]
    refine ⟨fun z => ih (i + 1) (by omega) (fun j hj => ?_), fun z => hn (fun a => z (a i (by omega)))⟩
    by_cases e2 : j = i
    · rw [e2]; exact z
    · exact h j (by omega)
theorem s_isWord_law {σ : gM} {p : Nat} (ht : t ≤ 400) (hp : p ≤ t) (hc : CS f t σ) (hr : RCt f t p σ) {Q : Int32 → gM → Prop} (hy : isW f t 0 3 (tS f t p) → Q (nI 1) σ) (hn : ¬ isW f t 0 3 (tS f t p) → Q (nI 0) σ) : wT_isWord_law σ Q := by
  obtain ⟨r4, r5, r6, -⟩ := hr
  have hs := tS_spec (f := f) hp
  have he := tEs_spec (f := f) hs.2
  have hK4 : tKs f t (tS f t p) ≤ 4 := by
    rcases tK_cases (f := f) (t := t) (tS f t p) with ⟨a1, a2, a3⟩ | ⟨a1, a2, a3, a4⟩ | ⟨a1, a2, a3, a4, a5, a6⟩ | ⟨a1, a2⟩ | ⟨a1, a2⟩ <;> omega
  generalize tS f t p = s at *
  unfold wT_isWord_law
  simp (disch := first | assumption | omega | decide) only [r4, r5, r6, nI_eqI, nI_sub]
  refine ⟨fun z => ⟨fun z2 => ⟨3 + 1, s_isWord_law_l ht hc r4 (by omega) (fun a => hy ⟨z, z2, a⟩) (fun a => hn (fun b => a b.2.2)) 3 0 (by omega) (fun j hj => absurd hj (by omega))⟩, fun z2 => hn (fun b => z2 b.2.1)⟩, fun z => hn (fun b => z b.1)⟩
theorem f_isWord_law {σ : gM} (h6 : σ 18 6 = nI 4) {Q : Int32 → gM → Prop} (hn : Q (nI 0) σ) : wT_isWord_law σ Q := by
  unfold wT_isWord_law
  simp (disch := first | assumption | omega | decide) only [h6, nI_eqI, Nat.le_refl, Nat.reduceLeDiff, Nat.reduceLT, Nat.reduceEqDiff, Nat.reduceAdd, Nat.reduceMul, Nat.reduceSub, forall_eq, true_and, and_true, not_true_eq_false, not_false_eq_true, false_implies, true_implies, implies_true, if_true, if_false, ite_self]
  exact hn
theorem s_isWord_buyer_l {σ : gM} {s : Nat} (ht : t ≤ 400) (hc : CS f t σ) (h4 : σ 18 4 = nI s) (hs : s + 5 ≤ t) {Q : Int32 → gM → Prop} (hy : (∀ j, j < 5 → f (s + j) = gCh 1 j) → Q (nI 1) σ) (hn : ¬ (∀ j, j < 5 → f (s + j) = gCh 1 j) → Q (nI 0) σ) : ∀ (m i : Nat), i + m = 5 → (∀ j, j < i → f (s + j) = gCh 1 j) → wT_isWord_buyer_l27 Q (m + 1) (nI i) σ := by
  intro m
  induction m with
  | zero =>
    intro i hi h
    have : i = 5 := by omega
    subst this
    rw [wT_isWord_buyer_l27]
    simp (disch := first | assumption | omega | decide) only [nI_leI2, Nat.le_refl, Nat.reduceLeDiff, Nat.reduceLT, Nat.reduceEqDiff, Nat.reduceAdd, Nat.reduceMul, Nat.reduceSub, forall_eq, true_and, and_true, not_true_eq_false, not_false_eq_true, false_implies, true_implies, implies_true, if_true, if_false, ite_self]
    exact hy h
  | succ m ih =>
    intro i hi h
    have q : ¬ 5 ≤ i := by omega
    have e := hc.2 (s + i) (by omega)
    rw [wT_isWord_buyer_l27]
    simp (disch := first | assumption | omega | decide) only [h4, nI_add, nI_leI2, q, vinT, nI_clamp, e, Nat.le_refl, Nat.reduceLeDiff, Nat.reduceLT, Nat.reduceEqDiff, Nat.reduceAdd, Nat.reduceMul, Nat.reduceSub, forall_eq, true_and, and_true, not_true_eq_false, not_false_eq_true, false_implies, true_implies, implies_true, if_true, if_false, ite_self]
    refine ⟨fun z => ih (i + 1) (by omega) (fun j hj => ?_), fun z => hn (fun a => z (a i (by omega)))⟩
    by_cases e2 : j = i
    · rw [e2]; exact z
    · exact h j (by omega)
theorem s_isWord_buyer {σ : gM} {p : Nat} (ht : t ≤ 400) (hp : p ≤ t) (hc : CS f t σ) (hr : RCt f t p σ) {Q : Int32 → gM → Prop} (hy : isW f t 1 5 (tS f t p) → Q (nI 1) σ) (hn : ¬ isW f t 1 5 (tS f t p) → Q (nI 0) σ) : wT_isWord_buyer σ Q := by
  obtain ⟨r4, r5, r6, -⟩ := hr
  have hs := tS_spec (f := f) hp
  have he := tEs_spec (f := f) hs.2
  have hK4 : tKs f t (tS f t p) ≤ 4 := by
    rcases tK_cases (f := f) (t := t) (tS f t p) with ⟨a1, a2, a3⟩ | ⟨a1, a2, a3, a4⟩ | ⟨a1, a2, a3, a4, a5, a6⟩ | ⟨a1, a2⟩ | ⟨a1, a2⟩ <;> omega
  generalize tS f t p = s at *
  unfold wT_isWord_buyer
  simp (disch := first | assumption | omega | decide) only [r4, r5, r6, nI_eqI, nI_sub]
  refine ⟨fun z => ⟨fun z2 => ⟨5 + 1, s_isWord_buyer_l ht hc r4 (by omega) (fun a => hy ⟨z, z2, a⟩) (fun a => hn (fun b => a b.2.2)) 5 0 (by omega) (fun j hj => absurd hj (by omega))⟩, fun z2 => hn (fun b => z2 b.2.1)⟩, fun z => hn (fun b => z b.1)⟩
theorem f_isWord_buyer {σ : gM} (h6 : σ 18 6 = nI 4) {Q : Int32 → gM → Prop} (hn : Q (nI 0) σ) : wT_isWord_buyer σ Q := by
  unfold wT_isWord_buyer
  simp (disch := first | assumption | omega | decide) only [h6, nI_eqI, Nat.le_refl, Nat.reduceLeDiff, Nat.reduceLT, Nat.reduceEqDiff, Nat.reduceAdd, Nat.reduceMul, Nat.reduceSub, forall_eq, true_and, and_true, not_true_eq_false, not_false_eq_true, false_implies, true_implies, implies_true, if_true, if_false, ite_self]
  exact hn
theorem s_isWord_ware_l {σ : gM} {s : Nat} (ht : t ≤ 400) (hc : CS f t σ) (h4 : σ 18 4 = nI s) (hs : s + 4 ≤ t) {Q : Int32 → gM → Prop} (hy : (∀ j, j < 4 → f (s + j) = gCh 2 j) → Q (nI 1) σ) (hn : ¬ (∀ j, j < 4 → f (s + j) = gCh 2 j) → Q (nI 0) σ) : ∀ (m i : Nat), i + m = 4 → (∀ j, j < i → f (s + j) = gCh 2 j) → wT_isWord_ware_l27 Q (m + 1) (nI i) σ := by
  intro m
  induction m with
  | zero =>
    intro i hi h
    have : i = 4 := by omega
    subst this
    rw [wT_isWord_ware_l27]
    simp (disch := first | assumption | omega | decide) only [nI_leI2, Nat.le_refl, Nat.reduceLeDiff, Nat.reduceLT, Nat.reduceEqDiff, Nat.reduceAdd, Nat.reduceMul, Nat.reduceSub, forall_eq, true_and, and_true, not_true_eq_false, not_false_eq_true, false_implies, true_implies, implies_true, if_true, if_false, ite_self]
    exact hy h
  | succ m ih =>
    intro i hi h
    have q : ¬ 4 ≤ i := by omega
    have e := hc.2 (s + i) (by omega)
    rw [wT_isWord_ware_l27]
    simp (disch := first | assumption | omega | decide) only [h4, nI_add, nI_leI2, q, vinT, nI_clamp, e, Nat.le_refl, Nat.reduceLeDiff, Nat.reduceLT, Nat.reduceEqDiff, Nat.reduceAdd, Nat.reduceMul, Nat.reduceSub, forall_eq, true_and, and_true, not_true_eq_false, not_false_eq_true, false_implies, true_implies, implies_true, if_true, if_false, ite_self]
    refine ⟨fun z => ih (i + 1) (by omega) (fun j hj => ?_), fun z => hn (fun a => z (a i (by omega)))⟩
    by_cases e2 : j = i
    · rw [e2]; exact z
    · exact h j (by omega)
theorem s_isWord_ware {σ : gM} {p : Nat} (ht : t ≤ 400) (hp : p ≤ t) (hc : CS f t σ) (hr : RCt f t p σ) {Q : Int32 → gM → Prop} (hy : isW f t 2 4 (tS f t p) → Q (nI 1) σ) (hn : ¬ isW f t 2 4 (tS f t p) → Q (nI 0) σ) : wT_isWord_ware σ Q := by
  obtain ⟨r4, r5, r6, -⟩ := hr
  have hs := tS_spec (f := f) hp
  have he := tEs_spec (f := f) hs.2
  have hK4 : tKs f t (tS f t p) ≤ 4 := by
    rcases tK_cases (f := f) (t := t) (tS f t p) with ⟨a1, a2, a3⟩ | ⟨a1, a2, a3, a4⟩ | ⟨a1, a2, a3, a4, a5, a6⟩ | ⟨a1, a2⟩ | ⟨a1, a2⟩ <;> omega
  generalize tS f t p = s at *
  unfold wT_isWord_ware
  simp (disch := first | assumption | omega | decide) only [r4, r5, r6, nI_eqI, nI_sub]
  refine ⟨fun z => ⟨fun z2 => ⟨4 + 1, s_isWord_ware_l ht hc r4 (by omega) (fun a => hy ⟨z, z2, a⟩) (fun a => hn (fun b => a b.2.2)) 4 0 (by omega) (fun j hj => absurd hj (by omega))⟩, fun z2 => hn (fun b => z2 b.2.1)⟩, fun z => hn (fun b => z b.1)⟩
theorem f_isWord_ware {σ : gM} (h6 : σ 18 6 = nI 4) {Q : Int32 → gM → Prop} (hn : Q (nI 0) σ) : wT_isWord_ware σ Q := by
  unfold wT_isWord_ware
  simp (disch := first | assumption | omega | decide) only [h6, nI_eqI, Nat.le_refl, Nat.reduceLeDiff, Nat.reduceLT, Nat.reduceEqDiff, Nat.reduceAdd, Nat.reduceMul, Nat.reduceSub, forall_eq, true_and, and_true, not_true_eq_false, not_false_eq_true, false_implies, true_implies, implies_true, if_true, if_false, ite_self]
  exact hn
theorem s_isWord_fruit_l {σ : gM} {s : Nat} (ht : t ≤ 400) (hc : CS f t σ) (h4 : σ 18 4 = nI s) (hs : s + 5 ≤ t) {Q : Int32 → gM → Prop} (hy : (∀ j, j < 5 → f (s + j) = gCh 3 j) → Q (nI 1) σ) (hn : ¬ (∀ j, j < 5 → f (s + j) = gCh 3 j) → Q (nI 0) σ) : ∀ (m i : Nat), i + m = 5 → (∀ j, j < i → f (s + j) = gCh 3 j) → wT_isWord_fruit_l27 Q (m + 1) (nI i) σ := by
  intro m
  induction m with
  | zero =>
    intro i hi h
    have : i = 5 := by omega
    subst this
    rw [wT_isWord_fruit_l27]
    simp (disch := first | assumption | omega | decide) only [nI_leI2, Nat.le_refl, Nat.reduceLeDiff, Nat.reduceLT, Nat.reduceEqDiff, Nat.reduceAdd, Nat.reduceMul, Nat.reduceSub, forall_eq, true_and, and_true, not_true_eq_false, not_false_eq_true, false_implies, true_implies, implies_true, if_true, if_false, ite_self]
    exact hy h
  | succ m ih =>
    intro i hi h
    have q : ¬ 5 ≤ i := by omega
    have e := hc.2 (s + i) (by omega)
    rw [wT_isWord_fruit_l27]
    simp (disch := first | assumption | omega | decide) only [h4, nI_add, nI_leI2, q, vinT, nI_clamp, e, Nat.le_refl, Nat.reduceLeDiff, Nat.reduceLT, Nat.reduceEqDiff, Nat.reduceAdd, Nat.reduceMul, Nat.reduceSub, forall_eq, true_and, and_true, not_true_eq_false, not_false_eq_true, false_implies, true_implies, implies_true, if_true, if_false, ite_self]
    refine ⟨fun z => ih (i + 1) (by omega) (fun j hj => ?_), fun z => hn (fun a => z (a i (by omega)))⟩
    by_cases e2 : j = i
    · rw [e2]; exact z
    · exact h j (by omega)
theorem s_isWord_fruit {σ : gM} {p : Nat} (ht : t ≤ 400) (hp : p ≤ t) (hc : CS f t σ) (hr : RCt f t p σ) {Q : Int32 → gM → Prop} (hy : isW f t 3 5 (tS f t p) → Q (nI 1) σ) (hn : ¬ isW f t 3 5 (tS f t p) → Q (nI 0) σ) : wT_isWord_fruit σ Q := by
  obtain ⟨r4, r5, r6, -⟩ := hr
  have hs := tS_spec (f := f) hp
  have he := tEs_spec (f := f) hs.2
  have hK4 : tKs f t (tS f t p) ≤ 4 := by
    rcases tK_cases (f := f) (t := t) (tS f t p) with ⟨a1, a2, a3⟩ | ⟨a1, a2, a3, a4⟩ | ⟨a1, a2, a3, a4, a5, a6⟩ | ⟨a1, a2⟩ | ⟨a1, a2⟩ <;> omega
  generalize tS f t p = s at *
  unfold wT_isWord_fruit
  simp (disch := first | assumption | omega | decide) only [r4, r5, r6, nI_eqI, nI_sub]
  refine ⟨fun z => ⟨fun z2 => ⟨5 + 1, s_isWord_fruit_l ht hc r4 (by omega) (fun a => hy ⟨z, z2, a⟩) (fun a => hn (fun b => a b.2.2)) 5 0 (by omega) (fun j hj => absurd hj (by omega))⟩, fun z2 => hn (fun b => z2 b.2.1)⟩, fun z => hn (fun b => z b.1)⟩
theorem f_isWord_fruit {σ : gM} (h6 : σ 18 6 = nI 4) {Q : Int32 → gM → Prop} (hn : Q (nI 0) σ) : wT_isWord_fruit σ Q := by
  unfold wT_isWord_fruit
  simp (disch := first | assumption | omega | decide) only [h6, nI_eqI, Nat.le_refl, Nat.reduceLeDiff, Nat.reduceLT, Nat.reduceEqDiff, Nat.reduceAdd, Nat.reduceMul, Nat.reduceSub, forall_eq, true_and, and_true, not_true_eq_false, not_false_eq_true, false_implies, true_implies, implies_true, if_true, if_false, ite_self]
  exact hn
theorem s_isWord_melon_l {σ : gM} {s : Nat} (ht : t ≤ 400) (hc : CS f t σ) (h4 : σ 18 4 = nI s) (hs : s + 5 ≤ t) {Q : Int32 → gM → Prop} (hy : (∀ j, j < 5 → f (s + j) = gCh 4 j) → Q (nI 1) σ) (hn : ¬ (∀ j, j < 5 → f (s + j) = gCh 4 j) → Q (nI 0) σ) : ∀ (m i : Nat), i + m = 5 → (∀ j, j < i → f (s + j) = gCh 4 j) → wT_isWord_melon_l27 Q (m + 1) (nI i) σ := by
  intro m
  induction m with
  | zero =>
    intro i hi h
    have : i = 5 := by omega
    subst this
    rw [wT_isWord_melon_l27]
    simp (disch := first | assumption | omega | decide) only [nI_leI2, Nat.le_refl, Nat.reduceLeDiff, Nat.reduceLT, Nat.reduceEqDiff, Nat.reduceAdd, Nat.reduceMul, Nat.reduceSub, forall_eq, true_and, and_true, not_true_eq_false, not_false_eq_true, false_implies, true_implies, implies_true, if_true, if_false, ite_self]
    exact hy h
  | succ m ih =>
    intro i hi h
    have q : ¬ 5 ≤ i := by omega
    have e := hc.2 (s + i) (by omega)
    rw [wT_isWord_melon_l27]
    simp (disch := first | assumption | omega | decide) only [h4, nI_add, nI_leI2, q, vinT, nI_clamp, e, Nat.le_refl, Nat.reduceLeDiff, Nat.reduceLT, Nat.reduceEqDiff, Nat.reduceAdd, Nat.reduceMul, Nat.reduceSub, forall_eq, true_and, and_true, not_true_eq_false, not_false_eq_true, false_implies, true_implies, implies_true, if_true, if_false, ite_self]
    refine ⟨fun z => ih (i + 1) (by omega) (fun j hj => ?_), fun z => hn (fun a => z (a i (by omega)))⟩
    by_cases e2 : j = i
    · rw [e2]; exact z
    · exact h j (by omega)
theorem s_isWord_melon {σ : gM} {p : Nat} (ht : t ≤ 400) (hp : p ≤ t) (hc : CS f t σ) (hr : RCt f t p σ) {Q : Int32 → gM → Prop} (hy : isW f t 4 5 (tS f t p) → Q (nI 1) σ) (hn : ¬ isW f t 4 5 (tS f t p) → Q (nI 0) σ) : wT_isWord_melon σ Q := by
  obtain ⟨r4, r5, r6, -⟩ := hr
  have hs := tS_spec (f := f) hp
  have he := tEs_spec (f := f) hs.2
  have hK4 : tKs f t (tS f t p) ≤ 4 := by
    rcases tK_cases (f := f) (t := t) (tS f t p) with ⟨a1, a2, a3⟩ | ⟨a1, a2, a3, a4⟩ | ⟨a1, a2, a3, a4, a5, a6⟩ | ⟨a1, a2⟩ | ⟨a1, a2⟩ <;> omega
  generalize tS f t p = s at *
  unfold wT_isWord_melon
  simp (disch := first | assumption | omega | decide) only [r4, r5, r6, nI_eqI, nI_sub]
  refine ⟨fun z => ⟨fun z2 => ⟨5 + 1, s_isWord_melon_l ht hc r4 (by omega) (fun a => hy ⟨z, z2, a⟩) (fun a => hn (fun b => a b.2.2)) 5 0 (by omega) (fun j hj => absurd hj (by omega))⟩, fun z2 => hn (fun b => z2 b.2.1)⟩, fun z => hn (fun b => z b.1)⟩
theorem f_isWord_melon {σ : gM} (h6 : σ 18 6 = nI 4) {Q : Int32 → gM → Prop} (hn : Q (nI 0) σ) : wT_isWord_melon σ Q := by
  unfold wT_isWord_melon
  simp (disch := first | assumption | omega | decide) only [h6, nI_eqI, Nat.le_refl, Nat.reduceLeDiff, Nat.reduceLT, Nat.reduceEqDiff, Nat.reduceAdd, Nat.reduceMul, Nat.reduceSub, forall_eq, true_and, and_true, not_true_eq_false, not_false_eq_true, false_implies, true_implies, implies_true, if_true, if_false, ite_self]
  exact hn
theorem s_isWord_berry_l {σ : gM} {s : Nat} (ht : t ≤ 400) (hc : CS f t σ) (h4 : σ 18 4 = nI s) (hs : s + 5 ≤ t) {Q : Int32 → gM → Prop} (hy : (∀ j, j < 5 → f (s + j) = gCh 5 j) → Q (nI 1) σ) (hn : ¬ (∀ j, j < 5 → f (s + j) = gCh 5 j) → Q (nI 0) σ) : ∀ (m i : Nat), i + m = 5 → (∀ j, j < i → f (s + j) = gCh 5 j) → wT_isWord_berry_l27 Q (m + 1) (nI i) σ := by
  intro m
  induction m with
  | zero =>
    intro i hi h
    have : i = 5 := by omega
    subst this
    rw [wT_isWord_berry_l27]
    simp (disch := first | assumption | omega | decide) only [nI_leI2, Nat.le_refl, Nat.reduceLeDiff, Nat.reduceLT, Nat.reduceEqDiff, Nat.reduceAdd, Nat.reduceMul, Nat.reduceSub, forall_eq, true_and, and_true, not_true_eq_false, not_false_eq_true, false_implies, true_implies, implies_true, if_true, if_false, ite_self]
    exact hy h
  | succ m ih =>
    intro i hi h
    have q : ¬ 5 ≤ i := by omega
    have e := hc.2 (s + i) (by omega)
    rw [wT_isWord_berry_l27]
    simp (disch := first | assumption | omega | decide) only [h4, nI_add, nI_leI2, q, vinT, nI_clamp, e, Nat.le_refl, Nat.reduceLeDiff, Nat.reduceLT, Nat.reduceEqDiff, Nat.reduceAdd, Nat.reduceMul, Nat.reduceSub, forall_eq, true_and, and_true, not_true_eq_false, not_false_eq_true, false_implies, true_implies, implies_true, if_true, if_false, ite_self]
    refine ⟨fun z => ih (i + 1) (by omega) (fun j hj => ?_), fun z => hn (fun a => z (a i (by omega)))⟩
    by_cases e2 : j = i
    · rw [e2]; exact z
    · exact h j (by omega)
theorem s_isWord_berry {σ : gM} {p : Nat} (ht : t ≤ 400) (hp : p ≤ t) (hc : CS f t σ) (hr : RCt f t p σ) {Q : Int32 → gM → Prop} (hy : isW f t 5 5 (tS f t p) → Q (nI 1) σ) (hn : ¬ isW f t 5 5 (tS f t p) → Q (nI 0) σ) : wT_isWord_berry σ Q := by
  obtain ⟨r4, r5, r6, -⟩ := hr
  have hs := tS_spec (f := f) hp
  have he := tEs_spec (f := f) hs.2
  have hK4 : tKs f t (tS f t p) ≤ 4 := by
    rcases tK_cases (f := f) (t := t) (tS f t p) with ⟨a1, a2, a3⟩ | ⟨a1, a2, a3, a4⟩ | ⟨a1, a2, a3, a4, a5, a6⟩ | ⟨a1, a2⟩ | ⟨a1, a2⟩ <;> omega
  generalize tS f t p = s at *
  unfold wT_isWord_berry
  simp (disch := first | assumption | omega | decide) only [r4, r5, r6, nI_eqI, nI_sub]
  refine ⟨fun z => ⟨fun z2 => ⟨5 + 1, s_isWord_berry_l ht hc r4 (by omega) (fun a => hy ⟨z, z2, a⟩) (fun a => hn (fun b => a b.2.2)) 5 0 (by omega) (fun j hj => absurd hj (by omega))⟩, fun z2 => hn (fun b => z2 b.2.1)⟩, fun z => hn (fun b => z b.1)⟩
theorem f_isWord_berry {σ : gM} (h6 : σ 18 6 = nI 4) {Q : Int32 → gM → Prop} (hn : Q (nI 0) σ) : wT_isWord_berry σ Q := by
  unfold wT_isWord_berry
  simp (disch := first | assumption | omega | decide) only [h6, nI_eqI, Nat.le_refl, Nat.reduceLeDiff, Nat.reduceLT, Nat.reduceEqDiff, Nat.reduceAdd, Nat.reduceMul, Nat.reduceSub, forall_eq, true_and, and_true, not_true_eq_false, not_false_eq_true, false_implies, true_implies, implies_true, if_true, if_false, ite_self]
  exact hn
theorem s_isWord_cloth_l {σ : gM} {s : Nat} (ht : t ≤ 400) (hc : CS f t σ) (h4 : σ 18 4 = nI s) (hs : s + 5 ≤ t) {Q : Int32 → gM → Prop} (hy : (∀ j, j < 5 → f (s + j) = gCh 6 j) → Q (nI 1) σ) (hn : ¬ (∀ j, j < 5 → f (s + j) = gCh 6 j) → Q (nI 0) σ) : ∀ (m i : Nat), i + m = 5 → (∀ j, j < i → f (s + j) = gCh 6 j) → wT_isWord_cloth_l27 Q (m + 1) (nI i) σ := by
  intro m
  induction m with
  | zero =>
    intro i hi h
    have : i = 5 := by omega
    subst this
    rw [wT_isWord_cloth_l27]
    simp (disch := first | assumption | omega | decide) only [nI_leI2, Nat.le_refl, Nat.reduceLeDiff, Nat.reduceLT, Nat.reduceEqDiff, Nat.reduceAdd, Nat.reduceMul, Nat.reduceSub, forall_eq, true_and, and_true, not_true_eq_false, not_false_eq_true, false_implies, true_implies, implies_true, if_true, if_false, ite_self]
    exact hy h
  | succ m ih =>
    intro i hi h
    have q : ¬ 5 ≤ i := by omega
    have e := hc.2 (s + i) (by omega)
    rw [wT_isWord_cloth_l27]
    simp (disch := first | assumption | omega | decide) only [h4, nI_add, nI_leI2, q, vinT, nI_clamp, e, Nat.le_refl, Nat.reduceLeDiff, Nat.reduceLT, Nat.reduceEqDiff, Nat.reduceAdd, Nat.reduceMul, Nat.reduceSub, forall_eq, true_and, and_true, not_true_eq_false, not_false_eq_true, false_implies, true_implies, implies_true, if_true, if_false, ite_self]
    refine ⟨fun z => ih (i + 1) (by omega) (fun j hj => ?_), fun z => hn (fun a => z (a i (by omega)))⟩
    by_cases e2 : j = i
    · rw [e2]; exact z
    · exact h j (by omega)
theorem s_isWord_cloth {σ : gM} {p : Nat} (ht : t ≤ 400) (hp : p ≤ t) (hc : CS f t σ) (hr : RCt f t p σ) {Q : Int32 → gM → Prop} (hy : isW f t 6 5 (tS f t p) → Q (nI 1) σ) (hn : ¬ isW f t 6 5 (tS f t p) → Q (nI 0) σ) : wT_isWord_cloth σ Q := by
  obtain ⟨r4, r5, r6, -⟩ := hr
  have hs := tS_spec (f := f) hp
  have he := tEs_spec (f := f) hs.2
  have hK4 : tKs f t (tS f t p) ≤ 4 := by
    rcases tK_cases (f := f) (t := t) (tS f t p) with ⟨a1, a2, a3⟩ | ⟨a1, a2, a3, a4⟩ | ⟨a1, a2, a3, a4, a5, a6⟩ | ⟨a1, a2⟩ | ⟨a1, a2⟩ <;> omega
  generalize tS f t p = s at *
  unfold wT_isWord_cloth
  simp (disch := first | assumption | omega | decide) only [r4, r5, r6, nI_eqI, nI_sub]
  refine ⟨fun z => ⟨fun z2 => ⟨5 + 1, s_isWord_cloth_l ht hc r4 (by omega) (fun a => hy ⟨z, z2, a⟩) (fun a => hn (fun b => a b.2.2)) 5 0 (by omega) (fun j hj => absurd hj (by omega))⟩, fun z2 => hn (fun b => z2 b.2.1)⟩, fun z => hn (fun b => z b.1)⟩
theorem f_isWord_cloth {σ : gM} (h6 : σ 18 6 = nI 4) {Q : Int32 → gM → Prop} (hn : Q (nI 0) σ) : wT_isWord_cloth σ Q := by
  unfold wT_isWord_cloth
  simp (disch := first | assumption | omega | decide) only [h6, nI_eqI, Nat.le_refl, Nat.reduceLeDiff, Nat.reduceLT, Nat.reduceEqDiff, Nat.reduceAdd, Nat.reduceMul, Nat.reduceSub, forall_eq, true_and, and_true, not_true_eq_false, not_false_eq_true, false_implies, true_implies, implies_true, if_true, if_false, ite_self]
  exact hn
theorem s_isWord_silk_l {σ : gM} {s : Nat} (ht : t ≤ 400) (hc : CS f t σ) (h4 : σ 18 4 = nI s) (hs : s + 4 ≤ t) {Q : Int32 → gM → Prop} (hy : (∀ j, j < 4 → f (s + j) = gCh 7 j) → Q (nI 1) σ) (hn : ¬ (∀ j, j < 4 → f (s + j) = gCh 7 j) → Q (nI 0) σ) : ∀ (m i : Nat), i + m = 4 → (∀ j, j < i → f (s + j) = gCh 7 j) → wT_isWord_silk_l27 Q (m + 1) (nI i) σ := by
  intro m
  induction m with
  | zero =>
    intro i hi h
    have : i = 4 := by omega
    subst this
    rw [wT_isWord_silk_l27]
    simp (disch := first | assumption | omega | decide) only [nI_leI2, Nat.le_refl, Nat.reduceLeDiff, Nat.reduceLT, Nat.reduceEqDiff, Nat.reduceAdd, Nat.reduceMul, Nat.reduceSub, forall_eq, true_and, and_true, not_true_eq_false, not_false_eq_true, false_implies, true_implies, implies_true, if_true, if_false, ite_self]
    exact hy h
  | succ m ih =>
    intro i hi h
    have q : ¬ 4 ≤ i := by omega
    have e := hc.2 (s + i) (by omega)
    rw [wT_isWord_silk_l27]
    simp (disch := first | assumption | omega | decide) only [h4, nI_add, nI_leI2, q, vinT, nI_clamp, e, Nat.le_refl, Nat.reduceLeDiff, Nat.reduceLT, Nat.reduceEqDiff, Nat.reduceAdd, Nat.reduceMul, Nat.reduceSub, forall_eq, true_and, and_true, not_true_eq_false, not_false_eq_true, false_implies, true_implies, implies_true, if_true, if_false, ite_self]
    refine ⟨fun z => ih (i + 1) (by omega) (fun j hj => ?_), fun z => hn (fun a => z (a i (by omega)))⟩
    by_cases e2 : j = i
    · rw [e2]; exact z
    · exact h j (by omega)
theorem s_isWord_silk {σ : gM} {p : Nat} (ht : t ≤ 400) (hp : p ≤ t) (hc : CS f t σ) (hr : RCt f t p σ) {Q : Int32 → gM → Prop} (hy : isW f t 7 4 (tS f t p) → Q (nI 1) σ) (hn : ¬ isW f t 7 4 (tS f t p) → Q (nI 0) σ) : wT_isWord_silk σ Q := by
  obtain ⟨r4, r5, r6, -⟩ := hr
  have hs := tS_spec (f := f) hp
  have he := tEs_spec (f := f) hs.2
  have hK4 : tKs f t (tS f t p) ≤ 4 := by
    rcases tK_cases (f := f) (t := t) (tS f t p) with ⟨a1, a2, a3⟩ | ⟨a1, a2, a3, a4⟩ | ⟨a1, a2, a3, a4, a5, a6⟩ | ⟨a1, a2⟩ | ⟨a1, a2⟩ <;> omega
  generalize tS f t p = s at *
  unfold wT_isWord_silk
  simp (disch := first | assumption | omega | decide) only [r4, r5, r6, nI_eqI, nI_sub]
  refine ⟨fun z => ⟨fun z2 => ⟨4 + 1, s_isWord_silk_l ht hc r4 (by omega) (fun a => hy ⟨z, z2, a⟩) (fun a => hn (fun b => a b.2.2)) 4 0 (by omega) (fun j hj => absurd hj (by omega))⟩, fun z2 => hn (fun b => z2 b.2.1)⟩, fun z => hn (fun b => z b.1)⟩
theorem f_isWord_silk {σ : gM} (h6 : σ 18 6 = nI 4) {Q : Int32 → gM → Prop} (hn : Q (nI 0) σ) : wT_isWord_silk σ Q := by
  unfold wT_isWord_silk
  simp (disch := first | assumption | omega | decide) only [h6, nI_eqI, Nat.le_refl, Nat.reduceLeDiff, Nat.reduceLT, Nat.reduceEqDiff, Nat.reduceAdd, Nat.reduceMul, Nat.reduceSub, forall_eq, true_and, and_true, not_true_eq_false, not_false_eq_true, false_implies, true_implies, implies_true, if_true, if_false, ite_self]
  exact hn
end Words
