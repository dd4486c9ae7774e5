theorem mA {a b c d : Prop} (h1 : a → c) (h2 : b → d) : a ∧ b → c ∧ d := fun h => ⟨h1 h.1, h2 h.2⟩
theorem mF {α : Sort _} {p q : α → Prop} (h : ∀ x, p x → q x) : (∀ x, p x) → ∀ x, q x := fun f x => h x (f x)
theorem mE {α : Type} {p q : α → Prop} (h : ∀ x, p x → q x) : (∃ x, p x) → ∃ x, q x := fun ⟨x, hx⟩ => ⟨x, h x hx⟩
theorem wH_isNoRow_mono {x1 : Int32} {σ : gM} {Q Q' : Int32 → gM → Prop} (hQ : ∀ y0 y1, Q y0 y1 → Q' y0 y1) : wH_isNoRow x1 σ Q → wH_isNoRow x1 σ Q' := by
  unfold wH_isNoRow
  repeat' (first | exact hQ _ _ | with_reducible exact id | with_reducible refine mA ?_ ?_ | with_reducible refine mE fun _ => ?_ | with_reducible refine mF fun _ => ?_)
theorem wJA_fill_row_l5_mono {r : Nat} {Q Q' : gM → Prop} (hQ : ∀ y0, Q y0 → Q' y0) : ∀ (z0 : Nat) (z1 : Int32) (z2 : Int32) (z3 : Int32) (z4 : gM), wJA_fill_row_l5 r Q z0 z1 z2 z3 z4 → wJA_fill_row_l5 r Q' z0 z1 z2 z3 z4 := by
  intro z0
  induction z0 with
  | zero => intro z1 z2 z3 z4 h; exact h
  | succ z0 ih =>
    intro z1 z2 z3 z4
    rw [wJA_fill_row_l5, wJA_fill_row_l5]
    repeat' (first | exact hQ _ | exact ih _ _ _ _ | with_reducible exact id | with_reducible refine mA ?_ ?_ | with_reducible refine mE fun _ => ?_ | with_reducible refine mF fun _ => ?_)
theorem wJA_fill_row_mono {r : Nat} {x1 : Int32} {σ : gM} {Q Q' : gM → Prop} (hQ : ∀ y0, Q y0 → Q' y0) : wJA_fill_row r x1 σ Q → wJA_fill_row r x1 σ Q' := by
  unfold wJA_fill_row
  repeat' (first | exact hQ _ | with_reducible exact id | with_reducible refine wJA_fill_row_l5_mono (fun _ => ?_) _ _ _ _ _ | with_reducible refine mA ?_ ?_ | with_reducible refine mE fun _ => ?_ | with_reducible refine mF fun _ => ?_)
theorem wR_begin_mono {r : Nat} {x1 : Int32} {x2 : Int32} {σ : gM} {Q Q' : gM → Prop} (hQ : ∀ y0, Q y0 → Q' y0) : wR_begin r x1 x2 σ Q → wR_begin r x1 x2 σ Q' := by
  unfold wR_begin
  repeat' (first | exact hQ _ | with_reducible exact id | with_reducible refine wJA_fill_row_mono (fun _ => ?_) | with_reducible refine mA ?_ ?_ | with_reducible refine mE fun _ => ?_ | with_reducible refine mF fun _ => ?_)
theorem wH_unfound_mono {x1 : Int32} {σ : gM} {Q Q' : Int32 → gM → Prop} (hQ : ∀ y0 y1, Q y0 y1 → Q' y0 y1) : wH_unfound x1 σ Q → wH_unfound x1 σ Q' := by
  unfold wH_unfound
  repeat' (first | exact hQ _ _ | with_reducible exact id | with_reducible refine mA ?_ ?_ | with_reducible refine mE fun _ => ?_ | with_reducible refine mF fun _ => ?_)
theorem wH_found_mono {x1 : Int32} {σ : gM} {Q Q' : Int32 → gM → Prop} (hQ : ∀ y0 y1, Q y0 y1 → Q' y0 y1) : wH_found x1 σ Q → wH_found x1 σ Q' := by
  unfold wH_found
  repeat' (first | exact hQ _ _ | with_reducible exact id | with_reducible refine mA ?_ ?_ | with_reducible refine mE fun _ => ?_ | with_reducible refine mF fun _ => ?_)
theorem wH_row_mono {x1 : Int32} {x2 : Int32} {x3 : Int32} {σ : gM} {Q Q' : Int32 → gM → Prop} (hQ : ∀ y0 y1, Q y0 y1 → Q' y0 y1) : wH_row x1 x2 x3 σ Q → wH_row x1 x2 x3 σ Q' := by
  unfold wH_row
  repeat' (first | exact hQ _ _ | with_reducible exact id | with_reducible refine wH_isNoRow_mono (fun _ _ => ?_) | with_reducible refine wR_begin_mono (fun _ => ?_) | with_reducible refine wH_unfound_mono (fun _ _ => ?_) | with_reducible refine wH_found_mono (fun _ _ => ?_) | with_reducible refine mA ?_ ?_ | with_reducible refine mE fun _ => ?_ | with_reducible refine mF fun _ => ?_)
theorem wR_reaches_mono {r : Nat} {x1 : Int32} {x2 : Int32} {σ : gM} {Q Q' : Int32 → gM → Prop} (hQ : ∀ y0 y1, Q y0 y1 → Q' y0 y1) : wR_reaches r x1 x2 σ Q → wR_reaches r x1 x2 σ Q' := by
  unfold wR_reaches
  repeat' (first | exact hQ _ _ | with_reducible exact id | with_reducible refine mA ?_ ?_ | with_reducible refine mE fun _ => ?_ | with_reducible refine mF fun _ => ?_)
theorem wH_findingOf_mono {x1 : Int32} {x2 : Int32} {x3 : Int32} {σ : gM} {Q Q' : Int32 → gM → Prop} (hQ : ∀ y0 y1, Q y0 y1 → Q' y0 y1) : wH_findingOf x1 x2 x3 σ Q → wH_findingOf x1 x2 x3 σ Q' := by
  unfold wH_findingOf
  repeat' (first | exact hQ _ _ | with_reducible exact id | with_reducible refine wR_reaches_mono (fun _ _ => ?_) | with_reducible refine mA ?_ ?_ | with_reducible refine mE fun _ => ?_ | with_reducible refine mF fun _ => ?_)
theorem wR_cutToLane_mono {r : Nat} {x1 : Int32} {σ : gM} {Q Q' : Int32 → gM → Prop} (hQ : ∀ y0 y1, Q y0 y1 → Q' y0 y1) : wR_cutToLane r x1 σ Q → wR_cutToLane r x1 σ Q' := by
  unfold wR_cutToLane
  repeat' (first | exact hQ _ _ | with_reducible exact id | with_reducible refine mA ?_ ?_ | with_reducible refine mE fun _ => ?_ | with_reducible refine mF fun _ => ?_)
theorem wR_put_mono {r : Nat} {x1 : Int32} {x2 : Int32} {σ : gM} {Q Q' : Int32 → gM → Prop} (hQ : ∀ y0 y1, Q y0 y1 → Q' y0 y1) : wR_put r x1 x2 σ Q → wR_put r x1 x2 σ Q' := by
  unfold wR_put
  repeat' (first | exact hQ _ _ | with_reducible exact id | with_reducible refine wR_cutToLane_mono (fun _ _ => ?_) | with_reducible refine mA ?_ ?_ | with_reducible refine mE fun _ => ?_ | with_reducible refine mF fun _ => ?_)
theorem wH_set_mono {x1 : Int32} {x2 : Int32} {x3 : Int32} {σ : gM} {Q Q' : Int32 → gM → Prop} (hQ : ∀ y0 y1, Q y0 y1 → Q' y0 y1) : wH_set x1 x2 x3 σ Q → wH_set x1 x2 x3 σ Q' := by
  unfold wH_set
  repeat' (first | exact hQ _ _ | with_reducible exact id | with_reducible refine wH_isNoRow_mono (fun _ _ => ?_) | with_reducible refine wH_findingOf_mono (fun _ _ => ?_) | with_reducible refine wR_put_mono (fun _ _ => ?_) | with_reducible refine wH_unfound_mono (fun _ _ => ?_) | with_reducible refine wH_found_mono (fun _ _ => ?_) | with_reducible refine mA ?_ ?_ | with_reducible refine mE fun _ => ?_ | with_reducible refine mF fun _ => ?_)
theorem wH_copy_mono {x1 : Int32} {x2 : Int32} {x3 : Int32} {x4 : Int32} {x5 : Int32} {σ : gM} {Q Q' : Int32 → gM → Prop} (hQ : ∀ y0 y1, Q y0 y1 → Q' y0 y1) : wH_copy x1 x2 x3 x4 x5 σ Q → wH_copy x1 x2 x3 x4 x5 σ Q' := by
  unfold wH_copy
  repeat' (first | exact hQ _ _ | with_reducible exact id | with_reducible refine wH_isNoRow_mono (fun _ _ => ?_) | with_reducible refine wH_found_mono (fun _ _ => ?_) | with_reducible refine wR_reaches_mono (fun _ _ => ?_) | with_reducible refine wH_unfound_mono (fun _ _ => ?_) | with_reducible refine mA ?_ ?_ | with_reducible refine mE fun _ => ?_ | with_reducible refine mF fun _ => ?_)
theorem wH_drop_mono {x1 : Int32} {σ : gM} {Q Q' : Int32 → gM → Prop} (hQ : ∀ y0 y1, Q y0 y1 → Q' y0 y1) : wH_drop x1 σ Q → wH_drop x1 σ Q' := by
  unfold wH_drop
  repeat' (first | exact hQ _ _ | with_reducible exact id | with_reducible refine wH_isNoRow_mono (fun _ _ => ?_) | with_reducible refine wH_found_mono (fun _ _ => ?_) | with_reducible refine wH_unfound_mono (fun _ _ => ?_) | with_reducible refine mA ?_ ?_ | with_reducible refine mE fun _ => ?_ | with_reducible refine mF fun _ => ?_)
theorem wT_append_mono {x1 : Int32} {σ : gM} {Q Q' : gM → Prop} (hQ : ∀ y0, Q y0 → Q' y0) : wT_append x1 σ Q → wT_append x1 σ Q' := by
  unfold wT_append
  repeat' (first | exact hQ _ | with_reducible exact id | with_reducible refine mA ?_ ?_ | with_reducible refine mE fun _ => ?_ | with_reducible refine mF fun _ => ?_)
theorem wH_feed_l37_mono  {Q Q' : Int32 → gM → Prop} (hQ : ∀ y0 y1, Q y0 y1 → Q' y0 y1) : ∀ (z0 : Nat) (z1 : Int64) (z2 : Int32) (z3 : gM), wH_feed_l37 Q z0 z1 z2 z3 → wH_feed_l37 Q' z0 z1 z2 z3 := by
  intro z0
  induction z0 with
  | zero => intro z1 z2 z3 h; exact h
  | succ z0 ih =>
    intro z1 z2 z3
    rw [wH_feed_l37, wH_feed_l37]
    repeat' (first | exact hQ _ _ | exact ih _ _ _ | with_reducible exact id | with_reducible refine wT_append_mono (fun _ => ?_) | with_reducible refine mA ?_ ?_ | with_reducible refine mE fun _ => ?_ | with_reducible refine mF fun _ => ?_)
theorem wH_feed_mono {x1 : Int64} {x3 : Int32} {σ : gM} {Q Q' : Int32 → gM → Prop} (hQ : ∀ y0 y1, Q y0 y1 → Q' y0 y1) : wH_feed x1 x3 σ Q → wH_feed x1 x3 σ Q' := by
  unfold wH_feed
  repeat' (first | exact hQ _ _ | with_reducible exact id | with_reducible refine wH_feed_l37_mono (fun _ _ => ?_) _ _ _ _ | with_reducible refine mA ?_ ?_ | with_reducible refine mE fun _ => ?_ | with_reducible refine mF fun _ => ?_)
theorem wK52_clear_mono {σ : gM} {Q Q' : gM → Prop} (hQ : ∀ y0, Q y0 → Q' y0) : wK52_clear σ Q → wK52_clear σ Q' := by
  unfold wK52_clear
  repeat' (first | exact hQ _ | with_reducible exact id | with_reducible refine mA ?_ ?_ | with_reducible refine mE fun _ => ?_ | with_reducible refine mF fun _ => ?_)
theorem wT_isLetter_mono {x0 : Int32} {σ : gM} {Q Q' : Int32 → gM → Prop} (hQ : ∀ y0 y1, Q y0 y1 → Q' y0 y1) : wT_isLetter x0 σ Q → wT_isLetter x0 σ Q' := by
  unfold wT_isLetter
  repeat' (first | exact hQ _ _ | with_reducible exact id | with_reducible refine mA ?_ ?_ | with_reducible refine mE fun _ => ?_ | with_reducible refine mF fun _ => ?_)
theorem wT_isFigure_mono {x0 : Int32} {σ : gM} {Q Q' : Int32 → gM → Prop} (hQ : ∀ y0 y1, Q y0 y1 → Q' y0 y1) : wT_isFigure x0 σ Q → wT_isFigure x0 σ Q' := by
  unfold wT_isFigure
  repeat' (first | exact hQ _ _ | with_reducible exact id | with_reducible refine mA ?_ ?_ | with_reducible refine mE fun _ => ?_ | with_reducible refine mF fun _ => ?_)
theorem wT_stepNumber_l5_mono  {Q Q' : gM → Prop} (hQ : ∀ y0, Q y0 → Q' y0) : ∀ (z0 : Nat) (z1 : gM), wT_stepNumber_l5 Q z0 z1 → wT_stepNumber_l5 Q' z0 z1 := by
  intro z0
  induction z0 with
  | zero => intro z1 h; exact h
  | succ z0 ih =>
    intro z1
    rw [wT_stepNumber_l5, wT_stepNumber_l5]
    repeat' (first | exact hQ _ | exact ih _ | with_reducible exact id | with_reducible refine wT_isFigure_mono (fun _ _ => ?_) | with_reducible refine mA ?_ ?_ | with_reducible refine mE fun _ => ?_ | with_reducible refine mF fun _ => ?_)
theorem wT_stepNumber_mono {σ : gM} {Q Q' : gM → Prop} (hQ : ∀ y0, Q y0 → Q' y0) : wT_stepNumber σ Q → wT_stepNumber σ Q' := by
  unfold wT_stepNumber
  repeat' (first | exact hQ _ | with_reducible exact id | with_reducible refine wT_stepNumber_l5_mono (fun _ => ?_) _ _ | with_reducible refine mA ?_ ?_ | with_reducible refine mE fun _ => ?_ | with_reducible refine mF fun _ => ?_)
theorem wT_stepName_l0_mono  {Q Q' : gM → Prop} (hQ : ∀ y0, Q y0 → Q' y0) : ∀ (z0 : Nat) (z1 : gM), wT_stepName_l0 Q z0 z1 → wT_stepName_l0 Q' z0 z1 := by
  intro z0
  induction z0 with
  | zero => intro z1 h; exact h
  | succ z0 ih =>
    intro z1
    rw [wT_stepName_l0, wT_stepName_l0]
    repeat' (first | exact hQ _ | exact ih _ | with_reducible exact id | with_reducible refine wT_isLetter_mono (fun _ _ => ?_) | with_reducible refine mA ?_ ?_ | with_reducible refine mE fun _ => ?_ | with_reducible refine mF fun _ => ?_)
theorem wT_stepName_mono {σ : gM} {Q Q' : gM → Prop} (hQ : ∀ y0, Q y0 → Q' y0) : wT_stepName σ Q → wT_stepName σ Q' := by
  unfold wT_stepName
  repeat' (first | exact hQ _ | with_reducible exact id | with_reducible refine wT_stepName_l0_mono (fun _ => ?_) _ _ | with_reducible refine mA ?_ ?_ | with_reducible refine mE fun _ => ?_ | with_reducible refine mF fun _ => ?_)
theorem wT_isBlank_mono {x0 : Int32} {σ : gM} {Q Q' : Int32 → gM → Prop} (hQ : ∀ y0 y1, Q y0 y1 → Q' y0 y1) : wT_isBlank x0 σ Q → wT_isBlank x0 σ Q' := by
  unfold wT_isBlank
  repeat' (first | exact hQ _ _ | with_reducible exact id | with_reducible refine mA ?_ ?_ | with_reducible refine mE fun _ => ?_ | with_reducible refine mF fun _ => ?_)
theorem wT_step_b47_mono {σ : gM} {Q Q' : gM → Prop} (hQ : ∀ y0, Q y0 → Q' y0) : wT_step_b47 Q σ → wT_step_b47 Q' σ := by
  unfold wT_step_b47
  repeat' (first | exact hQ _ | with_reducible exact id | with_reducible refine wT_isLetter_mono (fun _ _ => ?_) | with_reducible refine wT_isFigure_mono (fun _ _ => ?_) | with_reducible refine wT_stepNumber_mono (fun _ => ?_) | with_reducible refine wT_stepName_mono (fun _ => ?_) | with_reducible refine mA ?_ ?_ | with_reducible refine mE fun _ => ?_ | with_reducible refine mF fun _ => ?_)
theorem wT_step_l8_mono  {Q Q' : gM → Prop} (hQ : ∀ y0, Q y0 → Q' y0) : ∀ (z0 : Nat) (z1 : gM), wT_step_l8 Q z0 z1 → wT_step_l8 Q' z0 z1 := by
  intro z0
  induction z0 with
  | zero => intro z1 h; exact h
  | succ z0 ih =>
    intro z1
    rw [wT_step_l8, wT_step_l8]
    repeat' (first | exact hQ _ | exact ih _ | with_reducible exact id | with_reducible refine wT_step_b47_mono (fun _ => ?_) | with_reducible refine wT_isBlank_mono (fun _ _ => ?_) | with_reducible refine mA ?_ ?_ | with_reducible refine mE fun _ => ?_ | with_reducible refine mF fun _ => ?_)
theorem wT_step_mono {σ : gM} {Q Q' : gM → Prop} (hQ : ∀ y0, Q y0 → Q' y0) : wT_step σ Q → wT_step σ Q' := by
  unfold wT_step
  repeat' (first | exact hQ _ | with_reducible exact id | with_reducible refine wT_step_l8_mono (fun _ => ?_) _ _ | with_reducible refine mA ?_ ?_ | with_reducible refine mE fun _ => ?_ | with_reducible refine mF fun _ => ?_)
theorem wT_isWord_law_l27_mono  {Q Q' : Int32 → gM → Prop} (hQ : ∀ y0 y1, Q y0 y1 → Q' y0 y1) : ∀ (z0 : Nat) (z1 : Int32) (z2 : gM), wT_isWord_law_l27 Q z0 z1 z2 → wT_isWord_law_l27 Q' z0 z1 z2 := by
  intro z0
  induction z0 with
  | zero => intro z1 z2 h; exact h
  | succ z0 ih =>
    intro z1 z2
    rw [wT_isWord_law_l27, wT_isWord_law_l27]
    repeat' (first | exact hQ _ _ | exact ih _ _ | with_reducible exact id | with_reducible refine mA ?_ ?_ | with_reducible refine mE fun _ => ?_ | with_reducible refine mF fun _ => ?_)
theorem wT_isWord_law_mono {σ : gM} {Q Q' : Int32 → gM → Prop} (hQ : ∀ y0 y1, Q y0 y1 → Q' y0 y1) : wT_isWord_law σ Q → wT_isWord_law σ Q' := by
  unfold wT_isWord_law
  repeat' (first | exact hQ _ _ | with_reducible exact id | with_reducible refine wT_isWord_law_l27_mono (fun _ _ => ?_) _ _ _ | with_reducible refine mA ?_ ?_ | with_reducible refine mE fun _ => ?_ | with_reducible refine mF fun _ => ?_)
theorem wT_fail_mono {x1 : Int32} {σ : gM} {Q Q' : gM → Prop} (hQ : ∀ y0, Q y0 → Q' y0) : wT_fail x1 σ Q → wT_fail x1 σ Q' := by
  unfold wT_fail
  repeat' (first | exact hQ _ | with_reducible exact id | with_reducible refine mA ?_ ?_ | with_reducible refine mE fun _ => ?_ | with_reducible refine mF fun _ => ?_)
theorem wT_readNumber_mono {x1 : Int32} {σ : gM} {Q Q' : Int32 → gM → Prop} (hQ : ∀ y0 y1, Q y0 y1 → Q' y0 y1) : wT_readNumber x1 σ Q → wT_readNumber x1 σ Q' := by
  unfold wT_readNumber
  repeat' (first | exact hQ _ _ | with_reducible exact id | with_reducible refine wT_step_mono (fun _ => ?_) | with_reducible refine wT_fail_mono (fun _ => ?_) | with_reducible refine mA ?_ ?_ | with_reducible refine mE fun _ => ?_ | with_reducible refine mF fun _ => ?_)
theorem wT_readSign_mono {σ : gM} {Q Q' : gM → Prop} (hQ : ∀ y0, Q y0 → Q' y0) : wT_readSign σ Q → wT_readSign σ Q' := by
  unfold wT_readSign
  repeat' (first | exact hQ _ | with_reducible exact id | with_reducible refine wT_step_mono (fun _ => ?_) | with_reducible refine wT_fail_mono (fun _ => ?_) | with_reducible refine mA ?_ ?_ | with_reducible refine mE fun _ => ?_ | with_reducible refine mF fun _ => ?_)
theorem wT_readLaw_52_mono {σ : gM} {Q Q' : gM → Prop} (hQ : ∀ y0, Q y0 → Q' y0) : wT_readLaw_52 σ Q → wT_readLaw_52 σ Q' := by
  unfold wT_readLaw_52
  repeat' (first | exact hQ _ | with_reducible exact id | with_reducible refine wT_isWord_law_mono (fun _ _ => ?_) | with_reducible refine wT_fail_mono (fun _ => ?_) | with_reducible refine wT_readNumber_mono (fun _ _ => ?_) | with_reducible refine wT_readSign_mono (fun _ => ?_) | with_reducible refine wT_step_mono (fun _ => ?_) | with_reducible refine mA ?_ ?_ | with_reducible refine mE fun _ => ?_ | with_reducible refine mF fun _ => ?_)
theorem wT_isWord_ware_l27_mono  {Q Q' : Int32 → gM → Prop} (hQ : ∀ y0 y1, Q y0 y1 → Q' y0 y1) : ∀ (z0 : Nat) (z1 : Int32) (z2 : gM), wT_isWord_ware_l27 Q z0 z1 z2 → wT_isWord_ware_l27 Q' z0 z1 z2 := by
  intro z0
  induction z0 with
  | zero => intro z1 z2 h; exact h
  | succ z0 ih =>
    intro z1 z2
    rw [wT_isWord_ware_l27, wT_isWord_ware_l27]
    repeat' (first | exact hQ _ _ | exact ih _ _ | with_reducible exact id | with_reducible refine mA ?_ ?_ | with_reducible refine mE fun _ => ?_ | with_reducible refine mF fun _ => ?_)
theorem wT_isWord_ware_mono {σ : gM} {Q Q' : Int32 → gM → Prop} (hQ : ∀ y0 y1, Q y0 y1 → Q' y0 y1) : wT_isWord_ware σ Q → wT_isWord_ware σ Q' := by
  unfold wT_isWord_ware
  repeat' (first | exact hQ _ _ | with_reducible exact id | with_reducible refine wT_isWord_ware_l27_mono (fun _ _ => ?_) _ _ _ | with_reducible refine mA ?_ ?_ | with_reducible refine mE fun _ => ?_ | with_reducible refine mF fun _ => ?_)
theorem wT_wordOf_mono {x0 : Int32} {σ : gM} {Q Q' : Nat → gM → Prop} (hQ : ∀ y0 y1, Q y0 y1 → Q' y0 y1) : wT_wordOf x0 σ Q → wT_wordOf x0 σ Q' := by
  unfold wT_wordOf
  repeat' (first | exact hQ _ _ | with_reducible exact id | with_reducible refine mA ?_ ?_ | with_reducible refine mE fun _ => ?_ | with_reducible refine mF fun _ => ?_)
theorem wT_isWord_fruit_l27_mono  {Q Q' : Int32 → gM → Prop} (hQ : ∀ y0 y1, Q y0 y1 → Q' y0 y1) : ∀ (z0 : Nat) (z1 : Int32) (z2 : gM), wT_isWord_fruit_l27 Q z0 z1 z2 → wT_isWord_fruit_l27 Q' z0 z1 z2 := by
  intro z0
  induction z0 with
  | zero => intro z1 z2 h; exact h
  | succ z0 ih =>
    intro z1 z2
    rw [wT_isWord_fruit_l27, wT_isWord_fruit_l27]
    repeat' (first | exact hQ _ _ | exact ih _ _ | with_reducible exact id | with_reducible refine mA ?_ ?_ | with_reducible refine mE fun _ => ?_ | with_reducible refine mF fun _ => ?_)
theorem wT_isWord_fruit_mono {σ : gM} {Q Q' : Int32 → gM → Prop} (hQ : ∀ y0 y1, Q y0 y1 → Q' y0 y1) : wT_isWord_fruit σ Q → wT_isWord_fruit σ Q' := by
  unfold wT_isWord_fruit
  repeat' (first | exact hQ _ _ | with_reducible exact id | with_reducible refine wT_isWord_fruit_l27_mono (fun _ _ => ?_) _ _ _ | with_reducible refine mA ?_ ?_ | with_reducible refine mE fun _ => ?_ | with_reducible refine mF fun _ => ?_)
theorem wT_isWord_melon_l27_mono  {Q Q' : Int32 → gM → Prop} (hQ : ∀ y0 y1, Q y0 y1 → Q' y0 y1) : ∀ (z0 : Nat) (z1 : Int32) (z2 : gM), wT_isWord_melon_l27 Q z0 z1 z2 → wT_isWord_melon_l27 Q' z0 z1 z2 := by
  intro z0
  induction z0 with
  | zero => intro z1 z2 h; exact h
  | succ z0 ih =>
    intro z1 z2
    rw [wT_isWord_melon_l27, wT_isWord_melon_l27]
    repeat' (first | exact hQ _ _ | exact ih _ _ | with_reducible exact id | with_reducible refine mA ?_ ?_ | with_reducible refine mE fun _ => ?_ | with_reducible refine mF fun _ => ?_)
theorem wT_isWord_melon_mono {σ : gM} {Q Q' : Int32 → gM → Prop} (hQ : ∀ y0 y1, Q y0 y1 → Q' y0 y1) : wT_isWord_melon σ Q → wT_isWord_melon σ Q' := by
  unfold wT_isWord_melon
  repeat' (first | exact hQ _ _ | with_reducible exact id | with_reducible refine wT_isWord_melon_l27_mono (fun _ _ => ?_) _ _ _ | with_reducible refine mA ?_ ?_ | with_reducible refine mE fun _ => ?_ | with_reducible refine mF fun _ => ?_)
theorem wT_isWord_berry_l27_mono  {Q Q' : Int32 → gM → Prop} (hQ : ∀ y0 y1, Q y0 y1 → Q' y0 y1) : ∀ (z0 : Nat) (z1 : Int32) (z2 : gM), wT_isWord_berry_l27 Q z0 z1 z2 → wT_isWord_berry_l27 Q' z0 z1 z2 := by
  intro z0
  induction z0 with
  | zero => intro z1 z2 h; exact h
  | succ z0 ih =>
    intro z1 z2
    rw [wT_isWord_berry_l27, wT_isWord_berry_l27]
    repeat' (first | exact hQ _ _ | exact ih _ _ | with_reducible exact id | with_reducible refine mA ?_ ?_ | with_reducible refine mE fun _ => ?_ | with_reducible refine mF fun _ => ?_)
theorem wT_isWord_berry_mono {σ : gM} {Q Q' : Int32 → gM → Prop} (hQ : ∀ y0 y1, Q y0 y1 → Q' y0 y1) : wT_isWord_berry σ Q → wT_isWord_berry σ Q' := by
  unfold wT_isWord_berry
  repeat' (first | exact hQ _ _ | with_reducible exact id | with_reducible refine wT_isWord_berry_l27_mono (fun _ _ => ?_) _ _ _ | with_reducible refine mA ?_ ?_ | with_reducible refine mE fun _ => ?_ | with_reducible refine mF fun _ => ?_)
theorem wT_isWord_cloth_l27_mono  {Q Q' : Int32 → gM → Prop} (hQ : ∀ y0 y1, Q y0 y1 → Q' y0 y1) : ∀ (z0 : Nat) (z1 : Int32) (z2 : gM), wT_isWord_cloth_l27 Q z0 z1 z2 → wT_isWord_cloth_l27 Q' z0 z1 z2 := by
  intro z0
  induction z0 with
  | zero => intro z1 z2 h; exact h
  | succ z0 ih =>
    intro z1 z2
    rw [wT_isWord_cloth_l27, wT_isWord_cloth_l27]
    repeat' (first | exact hQ _ _ | exact ih _ _ | with_reducible exact id | with_reducible refine mA ?_ ?_ | with_reducible refine mE fun _ => ?_ | with_reducible refine mF fun _ => ?_)
theorem wT_isWord_cloth_mono {σ : gM} {Q Q' : Int32 → gM → Prop} (hQ : ∀ y0 y1, Q y0 y1 → Q' y0 y1) : wT_isWord_cloth σ Q → wT_isWord_cloth σ Q' := by
  unfold wT_isWord_cloth
  repeat' (first | exact hQ _ _ | with_reducible exact id | with_reducible refine wT_isWord_cloth_l27_mono (fun _ _ => ?_) _ _ _ | with_reducible refine mA ?_ ?_ | with_reducible refine mE fun _ => ?_ | with_reducible refine mF fun _ => ?_)
theorem wT_isWord_silk_l27_mono  {Q Q' : Int32 → gM → Prop} (hQ : ∀ y0 y1, Q y0 y1 → Q' y0 y1) : ∀ (z0 : Nat) (z1 : Int32) (z2 : gM), wT_isWord_silk_l27 Q z0 z1 z2 → wT_isWord_silk_l27 Q' z0 z1 z2 := by
  intro z0
  induction z0 with
  | zero => intro z1 z2 h; exact h
  | succ z0 ih =>
    intro z1 z2
    rw [wT_isWord_silk_l27, wT_isWord_silk_l27]
    repeat' (first | exact hQ _ _ | exact ih _ _ | with_reducible exact id | with_reducible refine mA ?_ ?_ | with_reducible refine mE fun _ => ?_ | with_reducible refine mF fun _ => ?_)
theorem wT_isWord_silk_mono {σ : gM} {Q Q' : Int32 → gM → Prop} (hQ : ∀ y0 y1, Q y0 y1 → Q' y0 y1) : wT_isWord_silk σ Q → wT_isWord_silk σ Q' := by
  unfold wT_isWord_silk
  repeat' (first | exact hQ _ _ | with_reducible exact id | with_reducible refine wT_isWord_silk_l27_mono (fun _ _ => ?_) _ _ _ | with_reducible refine mA ?_ ?_ | with_reducible refine mE fun _ => ?_ | with_reducible refine mF fun _ => ?_)
theorem wT_readSort_l2_mono  {Q Q' : Int32 → gM → Prop} (hQ : ∀ y0 y1, Q y0 y1 → Q' y0 y1) : ∀ (z0 : Nat) (z1 : Int32) (z2 : gM), wT_readSort_l2 Q z0 z1 z2 → wT_readSort_l2 Q' z0 z1 z2 := by
  intro z0
  induction z0 with
  | zero => intro z1 z2 h; exact h
  | succ z0 ih =>
    intro z1 z2
    rw [wT_readSort_l2, wT_readSort_l2]
    repeat' (first | exact hQ _ _ | exact ih _ _ | with_reducible exact id | with_reducible refine wT_fail_mono (fun _ => ?_) | with_reducible refine wT_wordOf_mono (fun _ _ => ?_) | with_reducible refine wT_isWord_fruit_mono (fun _ _ => ?_) | with_reducible refine wT_step_mono (fun _ => ?_) | with_reducible refine wT_isWord_melon_mono (fun _ _ => ?_) | with_reducible refine wT_isWord_berry_mono (fun _ _ => ?_) | with_reducible refine wT_isWord_cloth_mono (fun _ _ => ?_) | with_reducible refine wT_isWord_silk_mono (fun _ _ => ?_) | with_reducible refine mA ?_ ?_ | with_reducible refine mE fun _ => ?_ | with_reducible refine mF fun _ => ?_)
theorem wT_readSort_mono {σ : gM} {Q Q' : Int32 → gM → Prop} (hQ : ∀ y0 y1, Q y0 y1 → Q' y0 y1) : wT_readSort σ Q → wT_readSort σ Q' := by
  unfold wT_readSort
  repeat' (first | exact hQ _ _ | with_reducible exact id | with_reducible refine wT_readSort_l2_mono (fun _ _ => ?_) _ _ _ | with_reducible refine mA ?_ ?_ | with_reducible refine mE fun _ => ?_ | with_reducible refine mF fun _ => ?_)
theorem wK52_putAt_mono {x1 : Int32} {x2 : Int32} {σ : gM} {Q Q' : gM → Prop} (hQ : ∀ y0, Q y0 → Q' y0) : wK52_putAt x1 x2 σ Q → wK52_putAt x1 x2 σ Q' := by
  unfold wK52_putAt
  repeat' (first | exact hQ _ | with_reducible exact id | with_reducible refine mA ?_ ?_ | with_reducible refine mE fun _ => ?_ | with_reducible refine mF fun _ => ?_)
theorem wK52_addWare_mono {x1 : Int32} {x2 : Int32} {x3 : Int32} {x4 : Int32} {σ : gM} {Q Q' : Int32 → gM → Prop} (hQ : ∀ y0 y1, Q y0 y1 → Q' y0 y1) : wK52_addWare x1 x2 x3 x4 σ Q → wK52_addWare x1 x2 x3 x4 σ Q' := by
  unfold wK52_addWare
  repeat' (first | exact hQ _ _ | with_reducible exact id | with_reducible refine wK52_putAt_mono (fun _ => ?_) | with_reducible refine mA ?_ ?_ | with_reducible refine mE fun _ => ?_ | with_reducible refine mF fun _ => ?_)
theorem wT_readWare_52_mono {σ : gM} {Q Q' : gM → Prop} (hQ : ∀ y0, Q y0 → Q' y0) : wT_readWare_52 σ Q → wT_readWare_52 σ Q' := by
  unfold wT_readWare_52
  repeat' (first | exact hQ _ | with_reducible exact id | with_reducible refine wT_fail_mono (fun _ => ?_) | with_reducible refine wT_step_mono (fun _ => ?_) | with_reducible refine wT_readSort_mono (fun _ _ => ?_) | with_reducible refine wT_readNumber_mono (fun _ _ => ?_) | with_reducible refine wT_readSign_mono (fun _ => ?_) | with_reducible refine wK52_addWare_mono (fun _ _ => ?_) | with_reducible refine mA ?_ ?_ | with_reducible refine mE fun _ => ?_ | with_reducible refine mF fun _ => ?_)
theorem wT_isWord_buyer_l27_mono  {Q Q' : Int32 → gM → Prop} (hQ : ∀ y0 y1, Q y0 y1 → Q' y0 y1) : ∀ (z0 : Nat) (z1 : Int32) (z2 : gM), wT_isWord_buyer_l27 Q z0 z1 z2 → wT_isWord_buyer_l27 Q' z0 z1 z2 := by
  intro z0
  induction z0 with
  | zero => intro z1 z2 h; exact h
  | succ z0 ih =>
    intro z1 z2
    rw [wT_isWord_buyer_l27, wT_isWord_buyer_l27]
    repeat' (first | exact hQ _ _ | exact ih _ _ | with_reducible exact id | with_reducible refine mA ?_ ?_ | with_reducible refine mE fun _ => ?_ | with_reducible refine mF fun _ => ?_)
theorem wT_isWord_buyer_mono {σ : gM} {Q Q' : Int32 → gM → Prop} (hQ : ∀ y0 y1, Q y0 y1 → Q' y0 y1) : wT_isWord_buyer σ Q → wT_isWord_buyer σ Q' := by
  unfold wT_isWord_buyer
  repeat' (first | exact hQ _ _ | with_reducible exact id | with_reducible refine wT_isWord_buyer_l27_mono (fun _ _ => ?_) _ _ _ | with_reducible refine mA ?_ ?_ | with_reducible refine mE fun _ => ?_ | with_reducible refine mF fun _ => ?_)
theorem wK52_addBuyer_mono {x1 : Int32} {x2 : Int32} {σ : gM} {Q Q' : gM → Prop} (hQ : ∀ y0, Q y0 → Q' y0) : wK52_addBuyer x1 x2 σ Q → wK52_addBuyer x1 x2 σ Q' := by
  unfold wK52_addBuyer
  repeat' (first | exact hQ _ | with_reducible exact id | with_reducible refine mA ?_ ?_ | with_reducible refine mE fun _ => ?_ | with_reducible refine mF fun _ => ?_)
theorem wT_readBuyer_52_mono {σ : gM} {Q Q' : gM → Prop} (hQ : ∀ y0, Q y0 → Q' y0) : wT_readBuyer_52 σ Q → wT_readBuyer_52 σ Q' := by
  unfold wT_readBuyer_52
  repeat' (first | exact hQ _ | with_reducible exact id | with_reducible refine wT_fail_mono (fun _ => ?_) | with_reducible refine wT_step_mono (fun _ => ?_) | with_reducible refine wT_readNumber_mono (fun _ _ => ?_) | with_reducible refine wT_readSign_mono (fun _ => ?_) | with_reducible refine wK52_addBuyer_mono (fun _ => ?_) | with_reducible refine mA ?_ ?_ | with_reducible refine mE fun _ => ?_ | with_reducible refine mF fun _ => ?_)
theorem wT_readInto_52_b81_mono {σ : gM} {Q Q' : Int32 → gM → Prop} (hQ : ∀ y0 y1, Q y0 y1 → Q' y0 y1) : wT_readInto_52_b81 Q σ → wT_readInto_52_b81 Q' σ := by
  unfold wT_readInto_52_b81
  repeat' (first | exact hQ _ _ | with_reducible exact id | with_reducible refine wT_fail_mono (fun _ => ?_) | with_reducible refine mA ?_ ?_ | with_reducible refine mE fun _ => ?_ | with_reducible refine mF fun _ => ?_)
theorem wT_readInto_52_l54_mono  {Q Q' : Int32 → gM → Prop} (hQ : ∀ y0 y1, Q y0 y1 → Q' y0 y1) : ∀ (z0 : Nat) (z1 : Int32) (z2 : gM), wT_readInto_52_l54 Q z0 z1 z2 → wT_readInto_52_l54 Q' z0 z1 z2 := by
  intro z0
  induction z0 with
  | zero => intro z1 z2 h; exact h
  | succ z0 ih =>
    intro z1 z2
    rw [wT_readInto_52_l54, wT_readInto_52_l54]
    repeat' (first | exact hQ _ _ | exact ih _ _ | with_reducible exact id | with_reducible refine wT_readInto_52_b81_mono (fun _ _ => ?_) | with_reducible refine wT_isWord_ware_mono (fun _ _ => ?_) | with_reducible refine wT_readWare_52_mono (fun _ => ?_) | with_reducible refine mA ?_ ?_ | with_reducible refine mE fun _ => ?_ | with_reducible refine mF fun _ => ?_)
theorem wT_readInto_52_b52_mono {σ : gM} {Q Q' : Int32 → gM → Prop} (hQ : ∀ y0 y1, Q y0 y1 → Q' y0 y1) : wT_readInto_52_b52 Q σ → wT_readInto_52_b52 Q' σ := by
  unfold wT_readInto_52_b52
  repeat' (first | exact hQ _ _ | with_reducible exact id | with_reducible refine wT_readInto_52_l54_mono (fun _ _ => ?_) _ _ _ | with_reducible refine mA ?_ ?_ | with_reducible refine mE fun _ => ?_ | with_reducible refine mF fun _ => ?_)
theorem wT_readInto_52_l25_mono  {Q Q' : Int32 → gM → Prop} (hQ : ∀ y0 y1, Q y0 y1 → Q' y0 y1) : ∀ (z0 : Nat) (z1 : Int32) (z2 : gM), wT_readInto_52_l25 Q z0 z1 z2 → wT_readInto_52_l25 Q' z0 z1 z2 := by
  intro z0
  induction z0 with
  | zero => intro z1 z2 h; exact h
  | succ z0 ih =>
    intro z1 z2
    rw [wT_readInto_52_l25, wT_readInto_52_l25]
    repeat' (first | exact hQ _ _ | exact ih _ _ | with_reducible exact id | with_reducible refine wT_readInto_52_b52_mono (fun _ _ => ?_) | with_reducible refine wT_isWord_buyer_mono (fun _ _ => ?_) | with_reducible refine wT_readBuyer_52_mono (fun _ => ?_) | with_reducible refine mA ?_ ?_ | with_reducible refine mE fun _ => ?_ | with_reducible refine mF fun _ => ?_)
theorem wT_readInto_52_mono {σ : gM} {Q Q' : Int32 → gM → Prop} (hQ : ∀ y0 y1, Q y0 y1 → Q' y0 y1) : wT_readInto_52 σ Q → wT_readInto_52 σ Q' := by
  unfold wT_readInto_52
  repeat' (first | exact hQ _ _ | with_reducible exact id | with_reducible refine wK52_clear_mono (fun _ => ?_) | with_reducible refine wT_step_mono (fun _ => ?_) | with_reducible refine wT_readLaw_52_mono (fun _ => ?_) | with_reducible refine wT_readInto_52_l25_mono (fun _ _ => ?_) _ _ _ | with_reducible refine mA ?_ ?_ | with_reducible refine mE fun _ => ?_ | with_reducible refine mF fun _ => ?_)
theorem wK42_become_52_mono {σ : gM} {Q Q' : gM → Prop} (hQ : ∀ y0, Q y0 → Q' y0) : wK42_become_52 σ Q → wK42_become_52 σ Q' := by
  unfold wK42_become_52
  repeat' (first | exact hQ _ | with_reducible exact id | with_reducible refine mA ?_ ?_ | with_reducible refine mE fun _ => ?_ | with_reducible refine mF fun _ => ?_)
theorem wA_forget_mono {σ : gM} {Q Q' : gM → Prop} (hQ : ∀ y0, Q y0 → Q' y0) : wA_forget σ Q → wA_forget σ Q' := by
  unfold wA_forget
  repeat' (first | exact hQ _ | with_reducible exact id | with_reducible refine mA ?_ ?_ | with_reducible refine mE fun _ => ?_ | with_reducible refine mF fun _ => ?_)
theorem wH_market_mono {σ : gM} {Q Q' : Int32 → gM → Prop} (hQ : ∀ y0 y1, Q y0 y1 → Q' y0 y1) : wH_market σ Q → wH_market σ Q' := by
  unfold wH_market
  repeat' (first | exact hQ _ _ | with_reducible exact id | with_reducible refine wT_readInto_52_mono (fun _ _ => ?_) | with_reducible refine wK42_become_52_mono (fun _ => ?_) | with_reducible refine wA_forget_mono (fun _ => ?_) | with_reducible refine mA ?_ ?_ | with_reducible refine mE fun _ => ?_ | with_reducible refine mF fun _ => ?_)
theorem wH_fault_mono {σ : gM} {Q Q' : Int32 → gM → Prop} (hQ : ∀ y0 y1, Q y0 y1 → Q' y0 y1) : wH_fault σ Q → wH_fault σ Q' := by
  unfold wH_fault
  repeat' (first | exact hQ _ _ | with_reducible exact id | with_reducible refine mA ?_ ?_ | with_reducible refine mE fun _ => ?_ | with_reducible refine mF fun _ => ?_)
theorem wH_isNoBuyer_mono {x1 : Int32} {σ : gM} {Q Q' : Int32 → gM → Prop} (hQ : ∀ y0 y1, Q y0 y1 → Q' y0 y1) : wH_isNoBuyer x1 σ Q → wH_isNoBuyer x1 σ Q' := by
  unfold wH_isNoBuyer
  repeat' (first | exact hQ _ _ | with_reducible exact id | with_reducible refine mA ?_ ?_ | with_reducible refine mE fun _ => ?_ | with_reducible refine mF fun _ => ?_)
theorem wH_isNoEnd_mono {x1 : Int32} {σ : gM} {Q Q' : Int32 → gM → Prop} (hQ : ∀ y0 y1, Q y0 y1 → Q' y0 y1) : wH_isNoEnd x1 σ Q → wH_isNoEnd x1 σ Q' := by
  unfold wH_isNoEnd
  repeat' (first | exact hQ _ _ | with_reducible exact id | with_reducible refine mA ?_ ?_ | with_reducible refine mE fun _ => ?_ | with_reducible refine mF fun _ => ?_)
theorem wK42_wareAt_mono {x1 : Int32} {σ : gM} {Q Q' : Int32 → gM → Prop} (hQ : ∀ y0 y1, Q y0 y1 → Q' y0 y1) : wK42_wareAt x1 σ Q → wK42_wareAt x1 σ Q' := by
  unfold wK42_wareAt
  repeat' (first | exact hQ _ _ | with_reducible exact id | with_reducible refine mA ?_ ?_ | with_reducible refine mE fun _ => ?_ | with_reducible refine mF fun _ => ?_)
theorem wK_ripened_mono {x0 : Int32} {x1 : Int32} {x2 : Int32} {σ : gM} {Q Q' : Int32 → gM → Prop} (hQ : ∀ y0 y1, Q y0 y1 → Q' y0 y1) : wK_ripened x0 x1 x2 σ Q → wK_ripened x0 x1 x2 σ Q' := by
  unfold wK_ripened
  repeat' (first | exact hQ _ _ | with_reducible exact id | with_reducible refine mA ?_ ?_ | with_reducible refine mE fun _ => ?_ | with_reducible refine mF fun _ => ?_)
theorem wK42_valueIn_mono {x1 : Int32} {x2 : Int32} {σ : gM} {Q Q' : Int32 → gM → Prop} (hQ : ∀ y0 y1, Q y0 y1 → Q' y0 y1) : wK42_valueIn x1 x2 σ Q → wK42_valueIn x1 x2 σ Q' := by
  unfold wK42_valueIn
  repeat' (first | exact hQ _ _ | with_reducible exact id | with_reducible refine wK_ripened_mono (fun _ _ => ?_) | with_reducible refine mA ?_ ?_ | with_reducible refine mE fun _ => ?_ | with_reducible refine mF fun _ => ?_)
