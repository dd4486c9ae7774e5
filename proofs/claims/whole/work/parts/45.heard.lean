/-! HEARD: in how many ways, so many gone, so many of them from the left -/
def hw (A R : Nat → Nat → Bool) : Nat → Nat → Nat
  | 0, l => if l = 0 then 1 else 0
  | g + 1, l => (if 0 < l ∧ A g (l - 1) = true then hw A R g (l - 1) else 0) + (if l ≤ g ∧ R g l = true then hw A R g l else 0)
theorem hw_out {A R : Nat → Nat → Bool} : ∀ (g l : Nat), g < l → hw A R g l = 0
  | 0, l, h => by rw [hw, if_neg (by omega)]
  | g + 1, l, h => by
    rw [hw, hw_out g (l - 1) (by omega), ite_self, if_neg (by omega)]
theorem hw_le {A R : Nat → Nat → Bool} : ∀ (g l : Nat), hw A R g l ≤ 2 ^ g
  | 0, l => by rw [hw]; split <;> simp
  | g + 1, l => by
    have h1 := hw_le (A := A) (R := R) g (l - 1)
    have h2 := hw_le (A := A) (R := R) g l
    have e : 2 ^ (g + 1) = 2 ^ g + 2 ^ g := by rw [Nat.pow_succ]; omega
    rw [hw]
    split <;> split <;> omega
theorem hw_1024 {A R : Nat → Nat → Bool} {g : Nat} (l : Nat) (h : g ≤ 10) : hw A R g l ≤ 1024 := by
  have h1 := hw_le (A := A) (R := R) g l
  have h2 : (2 : Nat) ^ g ≤ 2 ^ 10 := Nat.pow_le_pow_right (by omega) h
  omega
def hA (N : Nat → Int32) (b nl : Nat) (hp : Nat → Nat) (it : Nat → Int32) (g l : Nat) : Bool := decide (g < nl) && decide (pVT N b (hp l) (nI 0) = it g)
def hR (N : Nat → Int32) (b nl : Nat) (hp : Nat → Nat) (it : Nat → Int32) (g l : Nat) : Bool := decide (g + 1 < nl) && decide (pVT N b (hp (nl - 1 - g + l)) (nI 0) = it g)
theorem hw_nl {N : Nat → Int32} {b nl : Nat} {hp : Nat → Nat} {it : Nat → Int32} {n : Nat} (l : Nat) (h : nl < n) : hw (hA N b nl hp it) (hR N b nl hp it) n l = 0 := by
  cases n with
  | zero => omega
  | succ g =>
    have h1 : hA N b nl hp it g (l - 1) = false := by unfold hA; rw [decide_eq_false (by omega)]; rfl
    have h2 : hR N b nl hp it g l = false := by unfold hR; rw [decide_eq_false (by omega)]; rfl
    rw [hw, h1, h2]
    simp
def sumN (f : Nat → Nat) : Nat → Nat → Nat → Nat
  | 0, _, a => a
  | m + 1, t, a => sumN f m (t + 1) (a + f t)
def oAnd (o : Option Nat) (B : Nat) : Nat := match o with
  | none => B
  | some v => v &&& B
def sB (f B : Nat → Nat) : Nat → Nat → Option Nat → Option Nat
  | 0, _, o => o
  | m + 1, t, o => sB f B m (t + 1) (if f t = 0 then o else some (oAnd o (B t)))
def encS (o : Option Nat) : Int32 := match o with
  | none => -1
  | some v => nI v
def ansS (o : Option Nat) : Int32 := match o with
  | none => -1000000
  | some v => nI v
theorem m1_and (x : Int32) : (-1 : Int32) &&& x = x := by
  apply Int32.toBitVec_inj.mp
  exact BitVec.allOnes_and
theorem encS_and {o : Option Nat} {B : Nat} : encS o &&& nI B = nI (oAnd o B) := by
  cases o with
  | none => exact m1_and _
  | some v => exact nI_and v B
theorem encS_ans {o : Option Nat} (h : ∀ v, o = some v → v < 65536) : (if encS o = (-1 : Int32) then (-1000000 : Int32) else encS o) = ansS o := by
  cases o with
  | none => rfl
  | some v =>
    have := nI_nm1 v (by have := h v rfl; omega)
    show (if nI v = (-1 : Int32) then (-1000000 : Int32) else nI v) = nI v
    rw [if_neg this]
theorem encS_ans2 {o : Option Nat} {s : Nat} (hs : s < 2147483648) (h : s = 0 ↔ o = none) : (if nI s = nI 0 then (-1000000 : Int32) else encS o) = ansS o := by
  cases o with
  | none => rw [h.mpr rfl]; rfl
  | some v =>
    have : ¬ nI s = nI 0 := fun q => by
      rw [nI_eqI hs (by omega)] at q
      exact absurd (h.mp q) (by simp)
    rw [if_neg this]
    rfl
theorem sumN_0 {f : Nat → Nat} : ∀ (m t a : Nat), (∀ j, t ≤ j → j < t + m → f j = 0) → sumN f m t a = a
  | 0, _, _, _ => rfl
  | m + 1, t, a, h => by
    rw [sumN, h t (by omega) (by omega), sumN_0 m (t + 1) _ (fun j h1 h2 => h j (by omega) (by omega))]
    rfl
theorem sB_0 {f B : Nat → Nat} : ∀ (m t : Nat) (o : Option Nat), (∀ j, t ≤ j → j < t + m → f j = 0) → sB f B m t o = o
  | 0, _, _, _ => rfl
  | m + 1, t, o, h => by
    rw [sB, if_pos (h t (by omega) (by omega)), sB_0 m (t + 1) o (fun j h1 h2 => h j (by omega) (by omega))]
/-- the bits of wares in a row -/
def obits (hp : Nat → Nat) : Nat → Nat → Nat → Nat
  | 0, _, a => a
  | m + 1, t, a => obits hp m (t + 1) (a ||| 1 * 2 ^ hp t)
theorem obits_or {hp : Nat → Nat} : ∀ (m t a : Nat), obits hp m t a = a ||| obits hp m t 0
  | 0, _, a => by rw [obits, obits, Nat.or_zero]
  | m + 1, t, a => by
    rw [obits, obits, obits_or m (t + 1) (a ||| 1 * 2 ^ hp t), obits_or m (t + 1) (0 ||| 1 * 2 ^ hp t), Nat.zero_or, Nat.or_assoc]
theorem obits_lt {hp : Nat → Nat} : ∀ (m t a : Nat), (∀ j, t ≤ j → j < t + m → hp j < 16) → a < 2 ^ 16 → obits hp m t a < 2 ^ 16
  | 0, _, _, _, h => h
  | m + 1, t, a, h, ha => by
    have h16 := h t (by omega) (by omega)
    have hs : (2 : Nat) ^ hp t < 2 ^ 16 := Nat.pow_lt_pow_right (by omega) h16
    exact obits_lt m (t + 1) _ (fun j h1 h2 => h j (by omega) (by omega)) (or_lt 16 ha (by omega))
def ombits (hp : Nat → Nat) (n nl l : Nat) : Nat → Nat → Nat → Nat
  | 0, _, a => a
  | m + 1, k, a => ombits hp n nl l m (k + 1) (if k < l ∨ nl - n + l ≤ k then a ||| 1 * 2 ^ hp k else a)
theorem ombits_add {hp : Nat → Nat} {n nl l : Nat} : ∀ (m m2 k a : Nat), ombits hp n nl l (m + m2) k a = ombits hp n nl l m2 (k + m) (ombits hp n nl l m k a)
  | 0, m2, k, a => by rw [Nat.zero_add]; rfl
  | m + 1, m2, k, a => by
    rw [show m + 1 + m2 = (m + m2) + 1 by omega, ombits, ombits_add m m2, ombits, show k + 1 + m = k + (m + 1) by omega]
theorem ombits_in {hp : Nat → Nat} {n nl l : Nat} : ∀ (m k a : Nat), (∀ j, k ≤ j → j < k + m → j < l ∨ nl - n + l ≤ j) → ombits hp n nl l m k a = obits hp m k a
  | 0, _, _, _ => rfl
  | m + 1, k, a, h => by
    rw [ombits, obits, if_pos (h k (by omega) (by omega)), ombits_in m (k + 1) _ (fun j h1 h2 => h j (by omega) (by omega))]
theorem ombits_out {hp : Nat → Nat} {n nl l : Nat} : ∀ (m k a : Nat), (∀ j, k ≤ j → j < k + m → ¬ (j < l ∨ nl - n + l ≤ j)) → ombits hp n nl l m k a = a
  | 0, _, _, _ => rfl
  | m + 1, k, a, h => by
    rw [ombits, if_neg (h k (by omega) (by omega)), ombits_out m (k + 1) _ (fun j h1 h2 => h j (by omega) (by omega))]
def hB (hp : Nat → Nat) (n nl l : Nat) : Nat := obits hp l 0 0 ||| obits hp (n - l) (nl - (n - l)) 0
theorem ombits_B {hp : Nat → Nat} {n nl l : Nat} (h1 : l ≤ n) (h2 : n ≤ nl) : ombits hp n nl l nl 0 0 = hB hp n nl l := by
  have e : nl = (l + (nl - n)) + (n - l) := by omega
  have key : ∀ m, m = (l + (nl - n)) + (n - l) → ombits hp n nl l m 0 0 = hB hp n nl l := fun m hm => by
    rw [hm, ombits_add (l + (nl - n)) (n - l), ombits_add l (nl - n), ombits_in l 0 0 (fun j a b => by omega), ombits_out (nl - n) _ _ (fun j a b => by omega), ombits_in (n - l) _ _ (fun j a b => by omega), obits_or]
    unfold hB
    rw [show 0 + (l + (nl - n)) = nl - (n - l) by omega]
  exact key nl e
theorem hB_lt {hp : Nat → Nat} {n nl l : Nat} (h1 : l ≤ n) (h2 : n ≤ nl) (hh : ∀ j, j < nl → hp j < 16) : hB hp n nl l < 65536 := or_lt 16 (obits_lt l 0 0 (fun j a b => hh j (by omega)) (by omega)) (obits_lt (n - l) _ 0 (fun j a b => hh j (by omega)) (by omega))
theorem sB_lt {f B : Nat → Nat} : ∀ (m t : Nat) (o : Option Nat), (∀ v, o = some v → v < 65536) → (∀ j, t ≤ j → j < t + m → f j = 0 ∨ B j < 65536) → ∀ v, sB f B m t o = some v → v < 65536
  | 0, _, _, h, _ => h
  | m + 1, t, o, h, hB => by
    rw [sB]
    refine sB_lt m (t + 1) _ (fun v hv => ?_) (fun j h1 h2 => hB j (by omega) (by omega))
    by_cases q : f t = 0
    · rw [if_pos q] at hv; exact h v hv
    · rw [if_neg q] at hv
      have hb : B t < 65536 := (hB t (by omega) (by omega)).resolve_left q
      cases o with
      | none => cases hv; exact hb
      | some w =>
        cases hv
        exact Nat.lt_of_le_of_lt Nat.and_le_right hb
def pF38 (σ0 σ : gM) : Prop := ∀ c, c ≠ 38 → σ c = σ0 c
section HearH
variable {k nb nw nl b : Nat} {N : Nat → Int32} {hp : Nat → Nat} {it : Nat → Int32} {σ σ0 : gM}
theorem eS_isLeft {l g : Nat} {Q : Int32 → gM → Prop} (hM : pMk σ 42 N nb nw nl) (hW : pWF k N nb nw nl hp) (hb : b < nb) (hlg : l ≤ g) (hg : g < 100) : wS_isLeft (nI b) (it g) (nI l) (nI g) σ Q = Q (if hA N b nl hp it g l = true then nI 1 else nI 0) σ := by
  have hn : nw ≤ 16 := hW.2.2.2.2.1
  have hl : nl ≤ nw := hW.2.2.2.2.2.1
  have e5 : σ 42 5 = nI nl := hM.2.2.2.2.1
  unfold wS_isLeft hA
  by_cases q : g < nl
  · have q2 : ¬ nl ≤ g := by omega
    have hh := hW.2.2.2.2.2.2.2.2.1 l (by omega)
    have eh : σ 51 l = nI (hp l) := (hM.2.2.2.2.2.2.2 l (by omega)).trans hh.2.1
    simp (disch := first | assumption | omega | decide) only [e5, eh, q, q2, nI_leI2, nI_ltI2, nI_eqI, nI_add, nI_sub, pk_mul, nI_clamp, vinT, Nat.add_sub_cancel, Nat.le_refl, Nat.reduceLeDiff, Nat.reduceLT, Nat.reduceEqDiff, Nat.reduceAdd, Nat.reduceMul, Nat.reduceSub, forall_eq, true_and, and_true, not_true_eq_false, not_false_eq_true, false_implies, true_implies, implies_true, if_true, if_false, ite_self, eK_valueTo hM hW hb hh.1, decide_true, Bool.true_and]
    by_cases e : pVT N b (hp l) (nI 0) = it g
    · simp [e]
    · simp [e]
  · have q2 : nl ≤ g := by omega
    simp (disch := first | assumption | omega | decide) only [e5, q, q2, nI_leI2, nI_ltI2, nI_eqI, nI_add, nI_sub, pk_mul, nI_clamp, vinT, Nat.add_sub_cancel, Nat.le_refl, Nat.reduceLeDiff, Nat.reduceLT, Nat.reduceEqDiff, Nat.reduceAdd, Nat.reduceMul, Nat.reduceSub, forall_eq, true_and, and_true, not_true_eq_false, not_false_eq_true, false_implies, true_implies, implies_true, if_true, if_false, ite_self, decide_false, Bool.false_and, Bool.false_eq_true]
theorem eS_isRight {l g : Nat} {Q : Int32 → gM → Prop} (hM : pMk σ 42 N nb nw nl) (hW : pWF k N nb nw nl hp) (hb : b < nb) (hlg : l ≤ g) (hg : g < 100) : wS_isRight (nI b) (it g) (nI l) (nI g) σ Q = Q (if hR N b nl hp it g l = true then nI 1 else nI 0) σ := by
  have hn : nw ≤ 16 := hW.2.2.2.2.1
  have hl : nl ≤ nw := hW.2.2.2.2.2.1
  have e5 : σ 42 5 = nI nl := hM.2.2.2.2.1
  unfold wS_isRight hR
  by_cases q : g + 1 < nl
  · have q2 : ¬ nl - 1 ≤ g := by omega
    have e3 : nl - 1 - (g - l) = nl - 1 - g + l := by omega
    have hh := hW.2.2.2.2.2.2.2.2.1 (nl - 1 - g + l) (by omega)
    have eh : σ 51 (nl - 1 - g + l) = nI (hp (nl - 1 - g + l)) := (hM.2.2.2.2.2.2.2 _ (by omega)).trans hh.2.1
    simp (disch := first | assumption | omega | decide) only [e5, nI_sub, e3]
    simp (disch := first | assumption | omega | decide) only [eh, q, q2, nI_leI2, nI_ltI2, nI_eqI, nI_add, nI_sub, pk_mul, nI_clamp, vinT, Nat.add_sub_cancel, Nat.le_refl, Nat.reduceLeDiff, Nat.reduceLT, Nat.reduceEqDiff, Nat.reduceAdd, Nat.reduceMul, Nat.reduceSub, forall_eq, true_and, and_true, not_true_eq_false, not_false_eq_true, false_implies, true_implies, implies_true, if_true, if_false, ite_self, eK_valueTo hM hW hb hh.1, decide_true, Bool.true_and]
    by_cases e : pVT N b (hp (nl - 1 - g + l)) (nI 0) = it g
    · simp [e]
    · simp [e]
  · have q2 : nI nl - nI 1 ≤ nI g := by
      rw [i_le, sub_I (by omega) (by omega), nI_I (by omega)]
      omega
    simp only [e5, q, q2, forall_eq, Nat.le_refl, Nat.reduceLeDiff, Nat.reduceLT, Nat.reduceEqDiff, Nat.reduceAdd, Nat.reduceMul, Nat.reduceSub, forall_eq, true_and, and_true, not_true_eq_false, not_false_eq_true, false_implies, true_implies, implies_true, if_true, if_false, ite_self, decide_false, Bool.false_and, Bool.false_eq_true]
theorem s_hear_in (hM : pMk σ0 42 N nb nw nl) (hW : pWF k N nb nw nl hp) (hb : b < nb) {r : Nat} {x4 x5 : Int32} {g : Nat} (hg : g < 10) {K : Int32 → Int32 → Int32 → Int32 → gM → Prop} {Q : gM → Prop} (hK : ∀ σ', pF38 σ0 σ' → (∀ j, j ≤ 10 → σ' 38 j = nI (hw (hA N b nl hp it) (hR N b nl hp it) (g + 1) j)) → K (nI b) x4 x5 (nI (g + 1)) σ') : ∀ (t : Nat) (σ : gM), t ≤ g + 2 → pF38 σ0 σ → (∀ j, j ≤ 10 → σ 38 j = nI (hw (hA N b nl hp it) (hR N b nl hp it) (if j < t then g else g + 1) j)) → wS_hear_row_l43 r Q K (t + 1) (nI b) x4 x5 (nI g) (it g) (nI t - nI 1) σ := by
  have n01 : ¬ nI 1 = nI 0 := by decide
  intro t
  induction t with
  | zero =>
    intro σ ht hF h
    have e : nI 0 - nI 1 < nI 0 := by rw [lt_sub (by omega) (by omega) (by omega)]; omega
    rw [wS_hear_row_l43]
    simp only [e, nI_add, Nat.le_refl, Nat.reduceLeDiff, Nat.reduceLT, Nat.reduceEqDiff, Nat.reduceAdd, Nat.reduceMul, Nat.reduceSub, forall_eq, true_and, and_true, not_true_eq_false, not_false_eq_true, false_implies, true_implies, implies_true, if_true, if_false, ite_self]
    exact hK σ hF (fun j hj => by have q := h j hj; rw [if_neg (by omega)] at q; exact q)
  | succ s ih =>
    intro σ ht hF h
    have hMf : pMk σ 42 N nb nw nl := pMk_fr (fun i _ _ => by rw [hF 42 (by omega)]) (fun c c1 c2 => hF c (by omega)) hM
    have fin : ∀ v, v = nI (hw (hA N b nl hp it) (hR N b nl hp it) (g + 1) s) → ∀ x, x = nI s - nI 1 → wS_hear_row_l43 r Q K (s + 1) (nI b) x4 x5 (nI g) (it g) x (gU σ 38 s v) := by
      intro v hv x hx
      subst hx
      refine ih _ (by omega) (fun c hc => by rw [gU_ne hc]; exact hF c hc) (fun j hj => ?_)
      by_cases e : j = s
      · subst e
        rw [gU_eq, if_neg (by omega)]; exact hv
      · rw [gU_off e, h j hj]
        by_cases e2 : j < s
        · rw [if_pos e2, if_pos (by omega)]
        · rw [if_neg e2, if_neg (by omega)]
    have hs : σ 38 s = nI (hw (hA N b nl hp it) (hR N b nl hp it) g s) := by have q := h s (by omega); rw [if_pos (by omega)] at q; exact q
    rw [wS_hear_row_l43]
    cases s with
    | zero =>
      have eR := fun Q => eS_isRight (it := it) (l := 0) (g := g) (Q := Q) hMf hW hb (Nat.zero_le _) (by omega)
      have hw0 : hw (hA N b nl hp it) (hR N b nl hp it) (g + 1) 0 = 0 + (if 0 ≤ g ∧ hR N b nl hp it g 0 = true then hw (hA N b nl hp it) (hR N b nl hp it) g 0 else 0) := by rw [hw, if_neg (by omega)]
      cases hr : hR N b nl hp it g 0 with
      | true =>
        rw [if_pos ⟨Nat.zero_le _, hr⟩] at hw0
        simp (disch := first | assumption | omega | decide) only [nI_leI2, nI_ltI2, nI_eqI, nI_add, nI_sub, pk_mul, nI_clamp, vinT, Nat.add_sub_cancel, Nat.le_refl, Nat.reduceLeDiff, Nat.reduceLT, Nat.reduceEqDiff, Nat.reduceAdd, Nat.reduceMul, Nat.reduceSub, forall_eq, true_and, and_true, not_true_eq_false, not_false_eq_true, false_implies, true_implies, implies_true, if_true, if_false, ite_self, Nat.not_lt_zero, wS_hear_row_b82, wS_hear_row_b83, eR, hr, n01, hs, add_m1, Nat.zero_add]
        exact fin _ (by rw [hw0, Nat.zero_add]) _ rfl
      | false =>
        rw [if_neg (by rw [hr]; simp)] at hw0
        simp (disch := first | assumption | omega | decide) only [nI_leI2, nI_ltI2, nI_eqI, nI_add, nI_sub, pk_mul, nI_clamp, vinT, Nat.add_sub_cancel, Nat.le_refl, Nat.reduceLeDiff, Nat.reduceLT, Nat.reduceEqDiff, Nat.reduceAdd, Nat.reduceMul, Nat.reduceSub, forall_eq, true_and, and_true, not_true_eq_false, not_false_eq_true, false_implies, true_implies, implies_true, if_true, if_false, ite_self, Nat.not_lt_zero, wS_hear_row_b82, wS_hear_row_b83, eR, hr, n01, hs, add_m1, Nat.zero_add, Bool.false_eq_true]
        exact fin _ (by rw [hw0]) _ rfl
    | succ s =>
      have eL := fun Q => eS_isLeft (it := it) (l := s) (g := g) (Q := Q) hMf hW hb (by omega) (by omega)
      have q0 : ¬ s + 1 ≤ 0 := by omega
      have hs2 : σ 38 s = nI (hw (hA N b nl hp it) (hR N b nl hp it) g s) := by have q := h s (by omega); rw [if_pos (by omega)] at q; exact q
      have fx : nI s = nI (s + 1) - nI 1 := by rw [nI_sub (by omega), Nat.add_sub_cancel]
      by_cases q : g < s + 1
      · have hw0 : hw (hA N b nl hp it) (hR N b nl hp it) (g + 1) (s + 1) = (if hA N b nl hp it g s = true then hw (hA N b nl hp it) (hR N b nl hp it) g s else 0) + 0 := by
          rw [hw, if_neg (c := s + 1 ≤ g ∧ _) (by omega)]
          simp
        cases ha : hA N b nl hp it g s with
        | true =>
          rw [if_pos ha] at hw0
          simp (disch := first | assumption | omega | decide) only [nI_leI2, nI_ltI2, nI_eqI, nI_add, nI_sub, pk_mul, nI_clamp, vinT, Nat.add_sub_cancel, Nat.le_refl, Nat.reduceLeDiff, Nat.reduceLT, Nat.reduceEqDiff, Nat.reduceAdd, Nat.reduceMul, Nat.reduceSub, forall_eq, true_and, and_true, not_true_eq_false, not_false_eq_true, false_implies, true_implies, implies_true, if_true, if_false, ite_self, Nat.not_lt_zero, eL, ha, n01, hs2, add_m1, q, q0]
          exact fin _ (by rw [hw0]) _ fx
        | false =>
          rw [if_neg (by rw [ha]; simp)] at hw0
          simp (disch := first | assumption | omega | decide) only [nI_leI2, nI_ltI2, nI_eqI, nI_add, nI_sub, pk_mul, nI_clamp, vinT, Nat.add_sub_cancel, Nat.le_refl, Nat.reduceLeDiff, Nat.reduceLT, Nat.reduceEqDiff, Nat.reduceAdd, Nat.reduceMul, Nat.reduceSub, forall_eq, true_and, and_true, not_true_eq_false, not_false_eq_true, false_implies, true_implies, implies_true, if_true, if_false, ite_self, Nat.not_lt_zero, eL, ha, n01, hs2, add_m1, q, q0, Bool.false_eq_true]
          exact fin _ (by rw [hw0]) _ fx
      · have eR := fun Q => eS_isRight (it := it) (l := s + 1) (g := g) (Q := Q) hMf hW hb (by omega) (by omega)
        have hw0 : hw (hA N b nl hp it) (hR N b nl hp it) (g + 1) (s + 1) = (if hA N b nl hp it g s = true then hw (hA N b nl hp it) (hR N b nl hp it) g s else 0) + (if hR N b nl hp it g (s + 1) = true then hw (hA N b nl hp it) (hR N b nl hp it) g (s + 1) else 0) := by
          rw [hw]
          simp [show s + 1 ≤ g by omega]
        cases ha : hA N b nl hp it g s <;> cases hr : hR N b nl hp it g (s + 1) <;>
        · simp only [ha, hr, if_true, if_false, Bool.false_eq_true] at hw0
          simp (disch := first | assumption | omega | decide) only [nI_leI2, nI_ltI2, nI_eqI, nI_add, nI_sub, pk_mul, nI_clamp, vinT, Nat.add_sub_cancel, Nat.le_refl, Nat.reduceLeDiff, Nat.reduceLT, Nat.reduceEqDiff, Nat.reduceAdd, Nat.reduceMul, Nat.reduceSub, forall_eq, true_and, and_true, not_true_eq_false, not_false_eq_true, false_implies, true_implies, implies_true, if_true, if_false, ite_self, Nat.not_lt_zero, eL, eR, ha, hr, n01, hs, hs2, add_m1, q, q0, Bool.false_eq_true]
          exact fin _ (by rw [hw0]) _ fx
theorem s_hear_out (hM : pMk σ0 42 N nb nw nl) (hW : pWF k N nb nw nl hp) (hb : b < nb) {r i n : Nat} (hr8 : r < 8) (hin : i + n ≤ 40) (hn10 : n ≤ 10) (hit : ∀ t, t < n → σ0 (2 + 2 * r + 1) (i + t) = it t) {Q : gM → Prop} (hQ : ∀ σ', pF38 σ0 σ' → (∀ j, j ≤ 10 → σ' 38 j = nI (hw (hA N b nl hp it) (hR N b nl hp it) n j)) → Q σ') : ∀ (m g : Nat) (σ : gM), g + m = n → pF38 σ0 σ → (∀ j, j ≤ 10 → σ 38 j = nI (hw (hA N b nl hp it) (hR N b nl hp it) g j)) → wS_hear_row_l18 r Q (m + 1) (nI b) (nI i) (nI n) (nI g) σ := by
  intro m
  induction m with
  | zero =>
    intro g σ hg hF h
    have : g = n := by omega
    subst this
    rw [wS_hear_row_l18]
    simp (disch := first | assumption | omega | decide) only [nI_leI2, nI_ltI2, nI_eqI, nI_add, nI_sub, pk_mul, nI_clamp, vinT, Nat.add_sub_cancel, Nat.le_refl, Nat.reduceLeDiff, Nat.reduceLT, Nat.reduceEqDiff, Nat.reduceAdd, Nat.reduceMul, Nat.reduceSub, forall_eq, true_and, and_true, not_true_eq_false, not_false_eq_true, false_implies, true_implies, implies_true, if_true, if_false, ite_self]
    exact hQ σ hF h
  | succ m ih =>
    intro g σ hg hF h
    have q : ¬ n ≤ g := by omega
    have he : σ (2 + 2 * r + 1) (i + g) = it g := by rw [hF _ (by omega)]; exact hit g (by omega)
    rw [wS_hear_row_l18]
    simp (disch := first | assumption | omega | decide) only [nI_leI2, nI_ltI2, nI_eqI, nI_add, nI_sub, pk_mul, nI_clamp, vinT, Nat.add_sub_cancel, Nat.le_refl, Nat.reduceLeDiff, Nat.reduceLT, Nat.reduceEqDiff, Nat.reduceAdd, Nat.reduceMul, Nat.reduceSub, forall_eq, true_and, and_true, not_true_eq_false, not_false_eq_true, false_implies, true_implies, implies_true, if_true, if_false, ite_self, q, he]
    refine ⟨g + 2 + 1, ?_⟩
    have key := s_hear_in (it := it) (r := r) (x4 := nI i) (x5 := nI n) (g := g) (Q := Q) (K := wS_hear_row_l18 r Q (m + 1)) hM hW hb (by omega) (fun σ' f1 f2 => ih (g + 1) σ' (by omega) f1 f2) (g + 2) σ (Nat.le_refl _) hF (fun j hj => by
      rw [h j hj]
      by_cases q : j < g + 2
      · rw [if_pos q]
      · rw [if_neg q, hw_out g j (by omega), hw_out (g + 1) j (by omega)])
    rw [nI_sub (by omega), show g + 2 - 1 = g + 1 by omega] at key
    exact key
theorem s_fill_38 {v : Int32} {Q : gM → Prop} : ∀ (m i : Nat) (σ σ0 : gM), i + m = 11 → σ = gFn σ0 38 0 i (fun _ => v) → Q (gFn σ0 38 0 11 (fun _ => v)) → wJA_fill_38_l5 Q (m + 1) v (nI i) (nI 11) σ := by
  intro m
  induction m with
  | zero =>
    intro i σ σ0 hi hσ h
    have : i = 11 := by omega
    subst this
    subst hσ
    simp (disch := first | assumption | omega | decide) only [wJA_fill_38_l5, li0, li1, li2, li3, li4, li5, li6, li7, li8, li9, li10, li11, li12, li13, li14, li16, li17, li20, li21, li22, li23, li24, li30, li32, li40, li48, li57, li59, li63, li86, li97, li99, li100, li102, li115, li122, li200, li255, li289, li320, li400, li720, li999, li1000, nI_add, pk_mul, nI_sub, nI_clamp, vinT, Nat.le_refl, Nat.reduceLeDiff, Nat.reduceLT, Nat.reduceEqDiff, Nat.reduceAdd, Nat.reduceMul, Nat.reduceSub, forall_eq, true_and, and_true, not_true_eq_false, not_false_eq_true, false_implies, true_implies, implies_true, if_true, if_false, ite_self, nI_eqI, nI_leI2, nI_ltI2]
    exact h
  | succ m ih =>
    intro i σ σ0 hi hσ h
    have h1 : ¬ 11 ≤ i := by omega
    rw [wJA_fill_38_l5]
    simp (disch := first | assumption | omega | decide) only [li0, li1, li2, li3, li4, li5, li6, li7, li8, li9, li10, li11, li12, li13, li14, li16, li17, li20, li21, li22, li23, li24, li30, li32, li40, li48, li57, li59, li63, li86, li97, li99, li100, li102, li115, li122, li200, li255, li289, li320, li400, li720, li999, li1000, nI_add, pk_mul, nI_sub, nI_clamp, vinT, Nat.le_refl, Nat.reduceLeDiff, Nat.reduceLT, Nat.reduceEqDiff, Nat.reduceAdd, Nat.reduceMul, Nat.reduceSub, forall_eq, true_and, and_true, not_true_eq_false, not_false_eq_true, false_implies, true_implies, implies_true, if_true, if_false, ite_self, nI_eqI, nI_leI2, nI_ltI2, h1]
    refine ih (i + 1) _ σ0 (by omega) ?_ h
    rw [hσ, ← gFn_succ, Nat.zero_add]
theorem s_hear (hM : pMk σ0 42 N nb nw nl) (hW : pWF k N nb nw nl hp) (hb : b < nb) {r i n : Nat} (hr8 : r < 8) (hin : i + n ≤ 40) (hn10 : n ≤ 10) (hit : ∀ t, t < n → σ0 (2 + 2 * r + 1) (i + t) = it t) {Q : gM → Prop} (hQ : ∀ σ', pF38 σ0 σ' → (∀ j, j ≤ 10 → σ' 38 j = nI (hw (hA N b nl hp it) (hR N b nl hp it) n j)) → Q σ') : wS_hear_row r (nI b) (nI i) (nI n) σ0 Q := by
  unfold wS_hear_row wJA_fill_38
  refine ⟨12, s_fill_38 11 0 _ σ0 (by omega) (gFn_0 _ _ _ _).symm ?_⟩
  simp only [forall_eq]
  refine ⟨n + 1, s_hear_out hM hW hb hr8 hin hn10 hit hQ n 0 _ (by omega) (fun c hc => by rw [gU_ne hc, gFn_ne hc]) (fun j hj => ?_)⟩
  by_cases e : j = 0
  · subst e
    rw [gU_eq]
    rfl
  · rw [gU_off e, gFn_in (by omega) (by omega), hw, if_neg e]
theorem s_waysOf {f : Nat → Nat} {n : Nat} (hn : n ≤ 10) {Q : Int32 → gM → Prop} (hf : ∀ j, j ≤ 10 → σ 38 j = nI (f j)) : ∀ (m t a : Nat), t + m = n + 1 → Q (nI (sumN f m t a)) σ → wS_waysOf_l4 Q (m + 1) (nI n) (nI a) (nI t) σ := by
  intro m
  induction m with
  | zero =>
    intro t a ht h
    have : n < t := by omega
    rw [wS_waysOf_l4]
    simp (disch := first | assumption | omega | decide) only [nI_leI2, nI_ltI2, nI_eqI, nI_add, nI_sub, pk_mul, nI_clamp, vinT, Nat.add_sub_cancel, Nat.le_refl, Nat.reduceLeDiff, Nat.reduceLT, Nat.reduceEqDiff, Nat.reduceAdd, Nat.reduceMul, Nat.reduceSub, forall_eq, true_and, and_true, not_true_eq_false, not_false_eq_true, false_implies, true_implies, implies_true, if_true, if_false, ite_self, this]
    exact h
  | succ m ih =>
    intro t a ht h
    have h1 : ¬ n < t := by omega
    have h2 := hf t (by omega)
    rw [wS_waysOf_l4]
    simp (disch := first | assumption | omega | decide) only [nI_leI2, nI_ltI2, nI_eqI, nI_add, nI_sub, pk_mul, nI_clamp, vinT, Nat.add_sub_cancel, Nat.le_refl, Nat.reduceLeDiff, Nat.reduceLT, Nat.reduceEqDiff, Nat.reduceAdd, Nat.reduceMul, Nat.reduceSub, forall_eq, true_and, and_true, not_true_eq_false, not_false_eq_true, false_implies, true_implies, implies_true, if_true, if_false, ite_self, h1, h2]
    exact ih (t + 1) _ (by omega) h
theorem s_bitsOf (hM : pMk σ 42 N nb nw nl) (hW : pWF k N nb nw nl hp) {lo cnt : Nat} (hlo : lo + cnt ≤ nl) {Q : Int32 → gM → Prop} : ∀ (m t a : Nat), t + m = lo + cnt → Q (nI (obits hp m t a)) σ → wS_bitsOf_l6 Q (m + 1) (nI lo) (nI cnt) (nI a) (nI t) σ := by
  have hn : nw ≤ 16 := hW.2.2.2.2.1
  have hl : nl ≤ nw := hW.2.2.2.2.2.1
  intro m
  induction m with
  | zero =>
    intro t a ht h
    have : lo + cnt ≤ t := by omega
    rw [wS_bitsOf_l6]
    simp (disch := first | assumption | omega | decide) only [nI_leI2, nI_ltI2, nI_eqI, nI_add, nI_sub, pk_mul, nI_clamp, vinT, Nat.add_sub_cancel, Nat.le_refl, Nat.reduceLeDiff, Nat.reduceLT, Nat.reduceEqDiff, Nat.reduceAdd, Nat.reduceMul, Nat.reduceSub, forall_eq, true_and, and_true, not_true_eq_false, not_false_eq_true, false_implies, true_implies, implies_true, if_true, if_false, ite_self, this]
    exact h
  | succ m ih =>
    intro t a ht h
    have h1 : ¬ lo + cnt ≤ t := by omega
    have hh := hW.2.2.2.2.2.2.2.2.1 t (by omega)
    have eh : σ 51 t = nI (hp t) := (hM.2.2.2.2.2.2.2 t (by omega)).trans hh.2.1
    have hs : (2 : Nat) ^ hp t < 2 ^ 16 := Nat.pow_lt_pow_right (by omega) (by omega)
    have esh : nI 1 <<< (nI (hp t) &&& 31) = nI (1 * 2 ^ hp t) := sh_l (by omega) (by omega)
    rw [wS_bitsOf_l6]
    simp (disch := first | assumption | omega | decide) only [nI_leI2, nI_ltI2, nI_eqI, nI_add, nI_sub, pk_mul, nI_clamp, vinT, Nat.add_sub_cancel, Nat.le_refl, Nat.reduceLeDiff, Nat.reduceLT, Nat.reduceEqDiff, Nat.reduceAdd, Nat.reduceMul, Nat.reduceSub, forall_eq, true_and, and_true, not_true_eq_false, not_false_eq_true, false_implies, true_implies, implies_true, if_true, if_false, ite_self, h1, eh, esh, nI_or]
    exact ih (t + 1) _ (by omega) h
theorem s_sure (hM : pMk σ 42 N nb nw nl) (hW : pWF k N nb nw nl hp) {f : Nat → Nat} {n : Nat} (hn10 : n ≤ 10) (hpos : nl < n → ∀ t, t ≤ n → f t = 0) (hfb : ∀ t, f t ≤ 1024) {Q : Int32 → gM → Prop} (hf : ∀ j, j ≤ 10 → σ 38 j = nI (f j)) : ∀ (m t : Nat) (o : Option Nat), t + m = n + 1 → (∀ v, o = some v → v < 65536) → Q (ansS (sB f (hB hp n nl) m t o)) σ → wS_surelyTaken_l5 Q (m + 1) (nI n) (encS o) (nI t) σ := by
  have hn : nw ≤ 16 := hW.2.2.2.2.1
  have hl : nl ≤ nw := hW.2.2.2.2.2.1
  have e5 : σ 42 5 = nI nl := hM.2.2.2.2.1
  intro m
  induction m with
  | zero =>
    intro t o ht ho h
    have : n < t := by omega
    rw [wS_surelyTaken_l5]
    simp (disch := first | assumption | omega | decide) only [nI_ltI2, this, Nat.le_refl, Nat.reduceLeDiff, Nat.reduceLT, Nat.reduceEqDiff, Nat.reduceAdd, Nat.reduceMul, Nat.reduceSub, forall_eq, true_and, and_true, not_true_eq_false, not_false_eq_true, false_implies, true_implies, implies_true, if_true, if_false, ite_self, encS_ans ho]
    exact h
  | succ m ih =>
    intro t o ht ho h
    have h1 : ¬ n < t := by omega
    have h2 := hf t (by omega)
    have h3 := hfb t
    rw [wS_surelyTaken_l5]
    rw [sB] at h
    by_cases q : f t = 0
    · rw [if_pos q] at h
      have q2 : f t ≤ 0 := by omega
      simp (disch := first | assumption | omega | decide) only [nI_leI2, nI_ltI2, nI_eqI, nI_add, nI_sub, pk_mul, nI_clamp, vinT, Nat.add_sub_cancel, Nat.le_refl, Nat.reduceLeDiff, Nat.reduceLT, Nat.reduceEqDiff, Nat.reduceAdd, Nat.reduceMul, Nat.reduceSub, forall_eq, true_and, and_true, not_true_eq_false, not_false_eq_true, false_implies, true_implies, implies_true, if_true, if_false, ite_self, h1, h2, q2]
      exact ih (t + 1) o (by omega) ho h
    · rw [if_neg q] at h
      have q2 : ¬ f t ≤ 0 := by omega
      have hnl : n ≤ nl := by
        rcases Nat.lt_or_ge nl n with z | z
        · exact absurd (hpos z t (by omega)) q
        · exact z
      have q3 : ¬ n < t := by omega
      simp (disch := first | assumption | omega | decide) only [nI_leI2, nI_ltI2, nI_eqI, nI_add, nI_sub, pk_mul, nI_clamp, vinT, Nat.add_sub_cancel, Nat.le_refl, Nat.reduceLeDiff, Nat.reduceLT, Nat.reduceEqDiff, Nat.reduceAdd, Nat.reduceMul, Nat.reduceSub, forall_eq, true_and, and_true, not_true_eq_false, not_false_eq_true, false_implies, true_implies, implies_true, if_true, if_false, ite_self, h1, h2, q2, wS_bitsOf]
      refine ⟨t + 1, s_bitsOf hM hW (lo := 0) (cnt := t) (by omega) t 0 0 (by omega) ?_⟩
      simp (disch := first | assumption | omega | decide) only [e5, nI_sub]
      refine ⟨n - t + 1, s_bitsOf hM hW (lo := nl - (n - t)) (cnt := n - t) (by omega) (n - t) _ 0 (by omega) ?_⟩
      simp (disch := first | assumption | omega | decide) only [nI_or, nI_add, forall_eq]
      have e : encS o &&& nI (obits hp t 0 0 ||| obits hp (n - t) (nl - (n - t)) 0) = encS (some (oAnd o (hB hp n nl t))) := encS_and
      rw [e]
      refine ih (t + 1) _ (by omega) (fun v hv => ?_) h
      have hb := hB_lt (hp := hp) (n := n) (nl := nl) (l := t) (by omega) hnl (fun j hj => by have := (hW.2.2.2.2.2.2.2.2.1 j hj).1; omega)
      cases o with
      | none => cases hv; exact hb
      | some w =>
        cases hv
        exact Nat.lt_of_le_of_lt Nat.and_le_right hb
end HearH
