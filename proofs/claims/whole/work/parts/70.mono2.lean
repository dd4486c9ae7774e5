theorem wS_fewestTill_mono {x2 : Int32} {σ : gM} {Q Q' : Int32 → gM → Prop} (hQ : ∀ y0 y1, Q y0 y1 → Q' y0 y1) : wS_fewestTill x2 σ Q → wS_fewestTill x2 σ Q' := by
  unfold wS_fewestTill
  repeat' (first | exact hQ _ _ | with_reducible exact id | with_reducible refine mA ?_ ?_ | with_reducible refine mE fun _ => ?_ | with_reducible refine mF fun _ => ?_)
theorem wS_leastAhead_l8_mono  {Q Q' : Int32 → gM → Prop} (hQ : ∀ y0 y1, Q y0 y1 → Q' y0 y1) : ∀ (z0 : Nat) (z1 : Int32) (z2 : Int32) (z3 : Int32) (z4 : Int32) (z5 : gM), wS_leastAhead_l8 Q z0 z1 z2 z3 z4 z5 → wS_leastAhead_l8 Q' z0 z1 z2 z3 z4 z5 := by
  intro z0
  induction z0 with
  | zero => intro z1 z2 z3 z4 z5 h; exact h
  | succ z0 ih =>
    intro z1 z2 z3 z4 z5
    rw [wS_leastAhead_l8, wS_leastAhead_l8]
    repeat' (first | exact hQ _ _ | exact ih _ _ _ _ _ | with_reducible exact id | with_reducible refine wK42_valueIn_mono (fun _ _ => ?_) | with_reducible refine mA ?_ ?_ | with_reducible refine mE fun _ => ?_ | with_reducible refine mF fun _ => ?_)
theorem wS_leastAhead_mono {x2 : Int32} {σ : gM} {Q Q' : Int32 → gM → Prop} (hQ : ∀ y0 y1, Q y0 y1 → Q' y0 y1) : wS_leastAhead x2 σ Q → wS_leastAhead x2 σ Q' := by
  unfold wS_leastAhead
  repeat' (first | exact hQ _ _ | with_reducible exact id | with_reducible refine wS_leastAhead_l8_mono (fun _ _ => ?_) _ _ _ _ _ _ | with_reducible refine mA ?_ ?_ | with_reducible refine mE fun _ => ?_ | with_reducible refine mF fun _ => ?_)
theorem wH_reach_mono {x1 : Int32} {x2 : Int32} {σ : gM} {Q Q' : Int32 → gM → Prop} (hQ : ∀ y0 y1, Q y0 y1 → Q' y0 y1) : wH_reach x1 x2 σ Q → wH_reach x1 x2 σ Q' := by
  unfold wH_reach
  repeat' (first | exact hQ _ _ | with_reducible exact id | with_reducible refine wH_isNoWare_mono (fun _ _ => ?_) | with_reducible refine wK42_placeOf_mono (fun _ _ => ?_) | with_reducible refine wS_fewestTill_mono (fun _ _ => ?_) | with_reducible refine wS_leastAhead_mono (fun _ _ => ?_) | with_reducible refine mA ?_ ?_ | with_reducible refine mE fun _ => ?_ | with_reducible refine mF fun _ => ?_)
theorem wJA_fill_36_l5_mono  {Q Q' : gM → Prop} (hQ : ∀ y0, Q y0 → Q' y0) : ∀ (z0 : Nat) (z1 : Int32) (z2 : Int32) (z3 : Int32) (z4 : gM), wJA_fill_36_l5 Q z0 z1 z2 z3 z4 → wJA_fill_36_l5 Q' z0 z1 z2 z3 z4 := by
  intro z0
  induction z0 with
  | zero => intro z1 z2 z3 z4 h; exact h
  | succ z0 ih =>
    intro z1 z2 z3 z4
    rw [wJA_fill_36_l5, wJA_fill_36_l5]
    repeat' (first | exact hQ _ | exact ih _ _ _ _ | with_reducible exact id | with_reducible refine mA ?_ ?_ | with_reducible refine mE fun _ => ?_ | with_reducible refine mF fun _ => ?_)
theorem wJA_fill_36_mono {x1 : Int32} {σ : gM} {Q Q' : gM → Prop} (hQ : ∀ y0, Q y0 → Q' y0) : wJA_fill_36 x1 σ Q → wJA_fill_36 x1 σ Q' := by
  unfold wJA_fill_36
  repeat' (first | exact hQ _ | with_reducible exact id | with_reducible refine wJA_fill_36_l5_mono (fun _ => ?_) _ _ _ _ _ | with_reducible refine mA ?_ ?_ | with_reducible refine mE fun _ => ?_ | with_reducible refine mF fun _ => ?_)
theorem wJA_fill_37_l5_mono  {Q Q' : gM → Prop} (hQ : ∀ y0, Q y0 → Q' y0) : ∀ (z0 : Nat) (z1 : Int32) (z2 : Int32) (z3 : Int32) (z4 : gM), wJA_fill_37_l5 Q z0 z1 z2 z3 z4 → wJA_fill_37_l5 Q' z0 z1 z2 z3 z4 := by
  intro z0
  induction z0 with
  | zero => intro z1 z2 z3 z4 h; exact h
  | succ z0 ih =>
    intro z1 z2 z3 z4
    rw [wJA_fill_37_l5, wJA_fill_37_l5]
    repeat' (first | exact hQ _ | exact ih _ _ _ _ | with_reducible exact id | with_reducible refine mA ?_ ?_ | with_reducible refine mE fun _ => ?_ | with_reducible refine mF fun _ => ?_)
theorem wJA_fill_37_mono {x1 : Int32} {σ : gM} {Q Q' : gM → Prop} (hQ : ∀ y0, Q y0 → Q' y0) : wJA_fill_37 x1 σ Q → wJA_fill_37 x1 σ Q' := by
  unfold wJA_fill_37
  repeat' (first | exact hQ _ | with_reducible exact id | with_reducible refine wJA_fill_37_l5_mono (fun _ => ?_) _ _ _ _ _ | with_reducible refine mA ?_ ?_ | with_reducible refine mE fun _ => ?_ | with_reducible refine mF fun _ => ?_)
theorem wS_harvestFor_l37_mono  {Q Q' : gM → Prop} (hQ : ∀ y0, Q y0 → Q' y0) {K18 K18' : Int32 → Int32 → gM → Prop} (hK18 : ∀ y0 y1 y2, K18 y0 y1 y2 → K18' y0 y1 y2) : ∀ (z0 : Nat) (z1 : Int32) (z2 : Int32) (z3 : Int32) (z4 : Int32) (z5 : gM), wS_harvestFor_l37 Q K18 z0 z1 z2 z3 z4 z5 → wS_harvestFor_l37 Q' K18' z0 z1 z2 z3 z4 z5 := by
  intro z0
  induction z0 with
  | zero => intro z1 z2 z3 z4 z5 h; exact h
  | succ z0 ih =>
    intro z1 z2 z3 z4 z5
    rw [wS_harvestFor_l37, wS_harvestFor_l37]
    repeat' (first | exact hQ _ | exact hK18 _ _ _ | exact ih _ _ _ _ _ | with_reducible exact id | with_reducible refine wK42_valueTo_mono (fun _ _ => ?_) | with_reducible refine mA ?_ ?_ | with_reducible refine mE fun _ => ?_ | with_reducible refine mF fun _ => ?_)
theorem wS_harvestFor_l18_mono  {Q Q' : gM → Prop} (hQ : ∀ y0, Q y0 → Q' y0) : ∀ (z0 : Nat) (z1 : Int32) (z2 : Int32) (z3 : gM), wS_harvestFor_l18 Q z0 z1 z2 z3 → wS_harvestFor_l18 Q' z0 z1 z2 z3 := by
  intro z0
  induction z0 with
  | zero => intro z1 z2 z3 h; exact h
  | succ z0 ih =>
    intro z1 z2 z3
    rw [wS_harvestFor_l18, wS_harvestFor_l18]
    repeat' (first | exact hQ _ | exact ih _ _ _ | with_reducible exact id | with_reducible refine wS_harvestFor_l37_mono (fun _ => ?_) (fun _ _ _ => ?_) _ _ _ _ _ _ | with_reducible refine mA ?_ ?_ | with_reducible refine mE fun _ => ?_ | with_reducible refine mF fun _ => ?_)
theorem wS_harvestFor_mono {x2 : Int32} {σ : gM} {Q Q' : gM → Prop} (hQ : ∀ y0, Q y0 → Q' y0) : wS_harvestFor x2 σ Q → wS_harvestFor x2 σ Q' := by
  unfold wS_harvestFor
  repeat' (first | exact hQ _ | with_reducible exact id | with_reducible refine wJA_fill_36_mono (fun _ => ?_) | with_reducible refine wJA_fill_37_mono (fun _ => ?_) | with_reducible refine wS_harvestFor_l18_mono (fun _ => ?_) _ _ _ _ | with_reducible refine mA ?_ ?_ | with_reducible refine mE fun _ => ?_ | with_reducible refine mF fun _ => ?_)
theorem wH_harvest_mono {x1 : Int32} {x2 : Int32} {σ : gM} {Q Q' : Int32 → gM → Prop} (hQ : ∀ y0 y1, Q y0 y1 → Q' y0 y1) : wH_harvest x1 x2 σ Q → wH_harvest x1 x2 σ Q' := by
  unfold wH_harvest
  repeat' (first | exact hQ _ _ | with_reducible exact id | with_reducible refine wH_isNoBuyer_mono (fun _ _ => ?_) | with_reducible refine wS_harvestFor_mono (fun _ => ?_) | with_reducible refine mA ?_ ?_ | with_reducible refine mE fun _ => ?_ | with_reducible refine mF fun _ => ?_)
theorem wS_firstWrong_row_b57_mono {r : Nat} {x3 : Int32} {x4 : Int32} {x5 : Int32} {x6 : Int32} {x7 : Int32} {x8 : Int32} {σ : gM} {Q Q' : Int32 → gM → Prop} (hQ : ∀ y0 y1, Q y0 y1 → Q' y0 y1) {K14 K14' : Int32 → Int32 → Int32 → Int32 → Int32 → gM → Prop} (hK14 : ∀ y0 y1 y2 y3 y4 y5, K14 y0 y1 y2 y3 y4 y5 → K14' y0 y1 y2 y3 y4 y5) : wS_firstWrong_row_b57 r Q K14 x3 x4 x5 x6 x7 x8 σ → wS_firstWrong_row_b57 r Q' K14' x3 x4 x5 x6 x7 x8 σ := by
  unfold wS_firstWrong_row_b57
  repeat' (first | exact hQ _ _ | exact hK14 _ _ _ _ _ _ | with_reducible exact id | with_reducible refine mA ?_ ?_ | with_reducible refine mE fun _ => ?_ | with_reducible refine mF fun _ => ?_)
theorem wS_firstWrong_row_l14_mono {r : Nat} {Q Q' : Int32 → gM → Prop} (hQ : ∀ y0 y1, Q y0 y1 → Q' y0 y1) : ∀ (z0 : Nat) (z1 : Int32) (z2 : Int32) (z3 : Int32) (z4 : Int32) (z5 : Int32) (z6 : gM), wS_firstWrong_row_l14 r Q z0 z1 z2 z3 z4 z5 z6 → wS_firstWrong_row_l14 r Q' z0 z1 z2 z3 z4 z5 z6 := by
  intro z0
  induction z0 with
  | zero => intro z1 z2 z3 z4 z5 z6 h; exact h
  | succ z0 ih =>
    intro z1 z2 z3 z4 z5 z6
    rw [wS_firstWrong_row_l14, wS_firstWrong_row_l14]
    repeat' (first | exact hQ _ _ | exact ih _ _ _ _ _ _ | with_reducible exact id | with_reducible refine wS_firstWrong_row_b57_mono (fun _ _ => ?_) (fun _ _ _ _ _ _ => ?_) | with_reducible refine mA ?_ ?_ | with_reducible refine mE fun _ => ?_ | with_reducible refine mF fun _ => ?_)
theorem wS_firstWrong_row_mono {r : Nat} {x3 : Int32} {x4 : Int32} {σ : gM} {Q Q' : Int32 → gM → Prop} (hQ : ∀ y0 y1, Q y0 y1 → Q' y0 y1) : wS_firstWrong_row r x3 x4 σ Q → wS_firstWrong_row r x3 x4 σ Q' := by
  unfold wS_firstWrong_row
  repeat' (first | exact hQ _ _ | with_reducible exact id | with_reducible refine wS_firstWrong_row_l14_mono (fun _ _ => ?_) _ _ _ _ _ _ _ | with_reducible refine mA ?_ ?_ | with_reducible refine mE fun _ => ?_ | with_reducible refine mF fun _ => ?_)
theorem wH_judge_mono {x1 : Int32} {x2 : Int32} {x3 : Int32} {σ : gM} {Q Q' : Int32 → gM → Prop} (hQ : ∀ y0 y1, Q y0 y1 → Q' y0 y1) : wH_judge x1 x2 x3 σ Q → wH_judge x1 x2 x3 σ Q' := by
  unfold wH_judge
  repeat' (first | exact hQ _ _ | with_reducible exact id | with_reducible refine wH_isNoRow_mono (fun _ _ => ?_) | with_reducible refine wH_findingOf_mono (fun _ _ => ?_) | with_reducible refine wR_isBelow_mono (fun _ _ => ?_) | with_reducible refine wS_firstWrong_row_mono (fun _ _ => ?_) | with_reducible refine wH_unfound_mono (fun _ _ => ?_) | with_reducible refine wH_found_mono (fun _ _ => ?_) | with_reducible refine mA ?_ ?_ | with_reducible refine mE fun _ => ?_ | with_reducible refine mF fun _ => ?_)
theorem wJA_fill_38_l5_mono  {Q Q' : gM → Prop} (hQ : ∀ y0, Q y0 → Q' y0) : ∀ (z0 : Nat) (z1 : Int32) (z2 : Int32) (z3 : Int32) (z4 : gM), wJA_fill_38_l5 Q z0 z1 z2 z3 z4 → wJA_fill_38_l5 Q' z0 z1 z2 z3 z4 := by
  intro z0
  induction z0 with
  | zero => intro z1 z2 z3 z4 h; exact h
  | succ z0 ih =>
    intro z1 z2 z3 z4
    rw [wJA_fill_38_l5, wJA_fill_38_l5]
    repeat' (first | exact hQ _ | exact ih _ _ _ _ | with_reducible exact id | with_reducible refine mA ?_ ?_ | with_reducible refine mE fun _ => ?_ | with_reducible refine mF fun _ => ?_)
theorem wJA_fill_38_mono {x1 : Int32} {σ : gM} {Q Q' : gM → Prop} (hQ : ∀ y0, Q y0 → Q' y0) : wJA_fill_38 x1 σ Q → wJA_fill_38 x1 σ Q' := by
  unfold wJA_fill_38
  repeat' (first | exact hQ _ | with_reducible exact id | with_reducible refine wJA_fill_38_l5_mono (fun _ => ?_) _ _ _ _ _ | with_reducible refine mA ?_ ?_ | with_reducible refine mE fun _ => ?_ | with_reducible refine mF fun _ => ?_)
theorem wS_isRight_mono {x2 : Int32} {x3 : Int32} {x4 : Int32} {x5 : Int32} {σ : gM} {Q Q' : Int32 → gM → Prop} (hQ : ∀ y0 y1, Q y0 y1 → Q' y0 y1) : wS_isRight x2 x3 x4 x5 σ Q → wS_isRight x2 x3 x4 x5 σ Q' := by
  unfold wS_isRight
  repeat' (first | exact hQ _ _ | with_reducible exact id | with_reducible refine wK42_valueTo_mono (fun _ _ => ?_) | with_reducible refine mA ?_ ?_ | with_reducible refine mE fun _ => ?_ | with_reducible refine mF fun _ => ?_)
theorem wS_isLeft_mono {x2 : Int32} {x3 : Int32} {x4 : Int32} {x5 : Int32} {σ : gM} {Q Q' : Int32 → gM → Prop} (hQ : ∀ y0 y1, Q y0 y1 → Q' y0 y1) : wS_isLeft x2 x3 x4 x5 σ Q → wS_isLeft x2 x3 x4 x5 σ Q' := by
  unfold wS_isLeft
  repeat' (first | exact hQ _ _ | with_reducible exact id | with_reducible refine wK42_valueTo_mono (fun _ _ => ?_) | with_reducible refine mA ?_ ?_ | with_reducible refine mE fun _ => ?_ | with_reducible refine mF fun _ => ?_)
theorem wS_hear_row_b83_mono {r : Nat} {x2 : Int32} {x4 : Int32} {x5 : Int32} {x6 : Int32} {x7 : Int32} {x8 : Int32} {s0 : Int32} {σ : gM} {Q Q' : gM → Prop} (hQ : ∀ y0, Q y0 → Q' y0) {K18 K18' : Int32 → Int32 → Int32 → Int32 → gM → Prop} (hK18 : ∀ y0 y1 y2 y3 y4, K18 y0 y1 y2 y3 y4 → K18' y0 y1 y2 y3 y4) {K43 K43' : Int32 → Int32 → Int32 → Int32 → Int32 → Int32 → gM → Prop} (hK43 : ∀ y0 y1 y2 y3 y4 y5 y6, K43 y0 y1 y2 y3 y4 y5 y6 → K43' y0 y1 y2 y3 y4 y5 y6) : wS_hear_row_b83 r Q K18 K43 x2 x4 x5 x6 x7 x8 s0 σ → wS_hear_row_b83 r Q' K18' K43' x2 x4 x5 x6 x7 x8 s0 σ := by
  unfold wS_hear_row_b83
  repeat' (first | exact hQ _ | exact hK18 _ _ _ _ _ | exact hK43 _ _ _ _ _ _ _ | with_reducible exact id | with_reducible refine wS_isRight_mono (fun _ _ => ?_) | with_reducible refine mA ?_ ?_ | with_reducible refine mE fun _ => ?_ | with_reducible refine mF fun _ => ?_)
theorem wS_hear_row_b82_mono {r : Nat} {x2 : Int32} {x4 : Int32} {x5 : Int32} {x6 : Int32} {x7 : Int32} {x8 : Int32} {σ : gM} {Q Q' : gM → Prop} (hQ : ∀ y0, Q y0 → Q' y0) {K18 K18' : Int32 → Int32 → Int32 → Int32 → gM → Prop} (hK18 : ∀ y0 y1 y2 y3 y4, K18 y0 y1 y2 y3 y4 → K18' y0 y1 y2 y3 y4) {K43 K43' : Int32 → Int32 → Int32 → Int32 → Int32 → Int32 → gM → Prop} (hK43 : ∀ y0 y1 y2 y3 y4 y5 y6, K43 y0 y1 y2 y3 y4 y5 y6 → K43' y0 y1 y2 y3 y4 y5 y6) : wS_hear_row_b82 r Q K18 K43 x2 x4 x5 x6 x7 x8 σ → wS_hear_row_b82 r Q' K18' K43' x2 x4 x5 x6 x7 x8 σ := by
  unfold wS_hear_row_b82
  repeat' (first | exact hQ _ | exact hK18 _ _ _ _ _ | exact hK43 _ _ _ _ _ _ _ | with_reducible exact id | with_reducible refine wS_hear_row_b83_mono (fun _ => ?_) (fun _ _ _ _ _ => ?_) (fun _ _ _ _ _ _ _ => ?_) | with_reducible refine mA ?_ ?_ | with_reducible refine mE fun _ => ?_ | with_reducible refine mF fun _ => ?_)
theorem wS_hear_row_l43_mono {r : Nat} {Q Q' : gM → Prop} (hQ : ∀ y0, Q y0 → Q' y0) {K18 K18' : Int32 → Int32 → Int32 → Int32 → gM → Prop} (hK18 : ∀ y0 y1 y2 y3 y4, K18 y0 y1 y2 y3 y4 → K18' y0 y1 y2 y3 y4) : ∀ (z0 : Nat) (z1 : Int32) (z2 : Int32) (z3 : Int32) (z4 : Int32) (z5 : Int32) (z6 : Int32) (z7 : gM), wS_hear_row_l43 r Q K18 z0 z1 z2 z3 z4 z5 z6 z7 → wS_hear_row_l43 r Q' K18' z0 z1 z2 z3 z4 z5 z6 z7 := by
  intro z0
  induction z0 with
  | zero => intro z1 z2 z3 z4 z5 z6 z7 h; exact h
  | succ z0 ih =>
    intro z1 z2 z3 z4 z5 z6 z7
    rw [wS_hear_row_l43, wS_hear_row_l43]
    repeat' (first | exact hQ _ | exact hK18 _ _ _ _ _ | exact ih _ _ _ _ _ _ _ | with_reducible exact id | with_reducible refine wS_hear_row_b82_mono (fun _ => ?_) (fun _ _ _ _ _ => ?_) (fun _ _ _ _ _ _ _ => ?_) | with_reducible refine wS_isLeft_mono (fun _ _ => ?_) | with_reducible refine wS_isRight_mono (fun _ _ => ?_) | with_reducible refine mA ?_ ?_ | with_reducible refine mE fun _ => ?_ | with_reducible refine mF fun _ => ?_)
theorem wS_hear_row_l18_mono {r : Nat} {Q Q' : gM → Prop} (hQ : ∀ y0, Q y0 → Q' y0) : ∀ (z0 : Nat) (z1 : Int32) (z2 : Int32) (z3 : Int32) (z4 : Int32) (z5 : gM), wS_hear_row_l18 r Q z0 z1 z2 z3 z4 z5 → wS_hear_row_l18 r Q' z0 z1 z2 z3 z4 z5 := by
  intro z0
  induction z0 with
  | zero => intro z1 z2 z3 z4 z5 h; exact h
  | succ z0 ih =>
    intro z1 z2 z3 z4 z5
    rw [wS_hear_row_l18, wS_hear_row_l18]
    repeat' (first | exact hQ _ | exact ih _ _ _ _ _ | with_reducible exact id | with_reducible refine wS_hear_row_l43_mono (fun _ => ?_) (fun _ _ _ _ _ => ?_) _ _ _ _ _ _ _ _ | with_reducible refine mA ?_ ?_ | with_reducible refine mE fun _ => ?_ | with_reducible refine mF fun _ => ?_)
theorem wS_hear_row_mono {r : Nat} {x2 : Int32} {x4 : Int32} {x5 : Int32} {σ : gM} {Q Q' : gM → Prop} (hQ : ∀ y0, Q y0 → Q' y0) : wS_hear_row r x2 x4 x5 σ Q → wS_hear_row r x2 x4 x5 σ Q' := by
  unfold wS_hear_row
  repeat' (first | exact hQ _ | with_reducible exact id | with_reducible refine wJA_fill_38_mono (fun _ => ?_) | with_reducible refine wS_hear_row_l18_mono (fun _ => ?_) _ _ _ _ _ _ | with_reducible refine mA ?_ ?_ | with_reducible refine mE fun _ => ?_ | with_reducible refine mF fun _ => ?_)
theorem wS_waysOf_l4_mono  {Q Q' : Int32 → gM → Prop} (hQ : ∀ y0 y1, Q y0 y1 → Q' y0 y1) : ∀ (z0 : Nat) (z1 : Int32) (z2 : Int32) (z3 : Int32) (z4 : gM), wS_waysOf_l4 Q z0 z1 z2 z3 z4 → wS_waysOf_l4 Q' z0 z1 z2 z3 z4 := by
  intro z0
  induction z0 with
  | zero => intro z1 z2 z3 z4 h; exact h
  | succ z0 ih =>
    intro z1 z2 z3 z4
    rw [wS_waysOf_l4, wS_waysOf_l4]
    repeat' (first | exact hQ _ _ | exact ih _ _ _ _ | with_reducible exact id | with_reducible refine mA ?_ ?_ | with_reducible refine mE fun _ => ?_ | with_reducible refine mF fun _ => ?_)
theorem wS_waysOf_mono {x1 : Int32} {σ : gM} {Q Q' : Int32 → gM → Prop} (hQ : ∀ y0 y1, Q y0 y1 → Q' y0 y1) : wS_waysOf x1 σ Q → wS_waysOf x1 σ Q' := by
  unfold wS_waysOf
  repeat' (first | exact hQ _ _ | with_reducible exact id | with_reducible refine wS_waysOf_l4_mono (fun _ _ => ?_) _ _ _ _ _ | with_reducible refine mA ?_ ?_ | with_reducible refine mE fun _ => ?_ | with_reducible refine mF fun _ => ?_)
theorem wS_bitsOf_l6_mono  {Q Q' : Int32 → gM → Prop} (hQ : ∀ y0 y1, Q y0 y1 → Q' y0 y1) : ∀ (z0 : Nat) (z1 : Int32) (z2 : Int32) (z3 : Int32) (z4 : Int32) (z5 : gM), wS_bitsOf_l6 Q z0 z1 z2 z3 z4 z5 → wS_bitsOf_l6 Q' z0 z1 z2 z3 z4 z5 := by
  intro z0
  induction z0 with
  | zero => intro z1 z2 z3 z4 z5 h; exact h
  | succ z0 ih =>
    intro z1 z2 z3 z4 z5
    rw [wS_bitsOf_l6, wS_bitsOf_l6]
    repeat' (first | exact hQ _ _ | exact ih _ _ _ _ _ | with_reducible exact id | with_reducible refine mA ?_ ?_ | with_reducible refine mE fun _ => ?_ | with_reducible refine mF fun _ => ?_)
theorem wS_bitsOf_mono {x2 : Int32} {x3 : Int32} {σ : gM} {Q Q' : Int32 → gM → Prop} (hQ : ∀ y0 y1, Q y0 y1 → Q' y0 y1) : wS_bitsOf x2 x3 σ Q → wS_bitsOf x2 x3 σ Q' := by
  unfold wS_bitsOf
  repeat' (first | exact hQ _ _ | with_reducible exact id | with_reducible refine wS_bitsOf_l6_mono (fun _ _ => ?_) _ _ _ _ _ _ | with_reducible refine mA ?_ ?_ | with_reducible refine mE fun _ => ?_ | with_reducible refine mF fun _ => ?_)
theorem wS_surelyTaken_l5_mono  {Q Q' : Int32 → gM → Prop} (hQ : ∀ y0 y1, Q y0 y1 → Q' y0 y1) : ∀ (z0 : Nat) (z1 : Int32) (z2 : Int32) (z3 : Int32) (z4 : gM), wS_surelyTaken_l5 Q z0 z1 z2 z3 z4 → wS_surelyTaken_l5 Q' z0 z1 z2 z3 z4 := by
  intro z0
  induction z0 with
  | zero => intro z1 z2 z3 z4 h; exact h
  | succ z0 ih =>
    intro z1 z2 z3 z4
    rw [wS_surelyTaken_l5, wS_surelyTaken_l5]
    repeat' (first | exact hQ _ _ | exact ih _ _ _ _ | with_reducible exact id | with_reducible refine wS_bitsOf_mono (fun _ _ => ?_) | with_reducible refine mA ?_ ?_ | with_reducible refine mE fun _ => ?_ | with_reducible refine mF fun _ => ?_)
theorem wS_surelyTaken_mono {x2 : Int32} {σ : gM} {Q Q' : Int32 → gM → Prop} (hQ : ∀ y0 y1, Q y0 y1 → Q' y0 y1) : wS_surelyTaken x2 σ Q → wS_surelyTaken x2 σ Q' := by
  unfold wS_surelyTaken
  repeat' (first | exact hQ _ _ | with_reducible exact id | with_reducible refine wS_surelyTaken_l5_mono (fun _ _ => ?_) _ _ _ _ _ | with_reducible refine mA ?_ ?_ | with_reducible refine mE fun _ => ?_ | with_reducible refine mF fun _ => ?_)
theorem wH_heard_mono {x1 : Int32} {x2 : Int32} {x3 : Int32} {x4 : Int32} {x5 : Int32} {σ : gM} {Q Q' : Int32 → gM → Prop} (hQ : ∀ y0 y1, Q y0 y1 → Q' y0 y1) : wH_heard x1 x2 x3 x4 x5 σ Q → wH_heard x1 x2 x3 x4 x5 σ Q' := by
  unfold wH_heard
  repeat' (first | exact hQ _ _ | with_reducible exact id | with_reducible refine wH_isNoBuyer_mono (fun _ _ => ?_) | with_reducible refine wH_isNoRow_mono (fun _ _ => ?_) | with_reducible refine wH_findingOf_mono (fun _ _ => ?_) | with_reducible refine wS_hear_row_mono (fun _ => ?_) | with_reducible refine wS_waysOf_mono (fun _ _ => ?_) | with_reducible refine wH_unfound_mono (fun _ _ => ?_) | with_reducible refine wS_surelyTaken_mono (fun _ _ => ?_) | with_reducible refine wH_found_mono (fun _ _ => ?_) | with_reducible refine mA ?_ ?_ | with_reducible refine mE fun _ => ?_ | with_reducible refine mF fun _ => ?_)
theorem wS_addUp_l9_mono  {Q Q' : gM → Prop} (hQ : ∀ y0, Q y0 → Q' y0) : ∀ (z0 : Nat) (z1 : Int32) (z2 : Int32) (z3 : gM), wS_addUp_l9 Q z0 z1 z2 z3 → wS_addUp_l9 Q' z0 z1 z2 z3 := by
  intro z0
  induction z0 with
  | zero => intro z1 z2 z3 h; exact h
  | succ z0 ih =>
    intro z1 z2 z3
    rw [wS_addUp_l9, wS_addUp_l9]
    repeat' (first | exact hQ _ | exact ih _ _ _ | with_reducible exact id | with_reducible refine wK42_valueTo_mono (fun _ _ => ?_) | with_reducible refine mA ?_ ?_ | with_reducible refine mE fun _ => ?_ | with_reducible refine mF fun _ => ?_)
theorem wS_addUp_mono {x2 : Int32} {σ : gM} {Q Q' : gM → Prop} (hQ : ∀ y0, Q y0 → Q' y0) : wS_addUp x2 σ Q → wS_addUp x2 σ Q' := by
  unfold wS_addUp
  repeat' (first | exact hQ _ | with_reducible exact id | with_reducible refine wS_addUp_l9_mono (fun _ => ?_) _ _ _ _ | with_reducible refine mA ?_ ?_ | with_reducible refine mE fun _ => ?_ | with_reducible refine mF fun _ => ?_)
theorem wS_mostOfStall_l26_mono  {Q Q' : Int32 → gM → Prop} (hQ : ∀ y0 y1, Q y0 y1 → Q' y0 y1) : ∀ (z0 : Nat) (z1 : Int32) (z2 : Int32) (z3 : Int32) (z4 : Int32) (z5 : Int32) (z6 : Int32) (z7 : gM), wS_mostOfStall_l26 Q z0 z1 z2 z3 z4 z5 z6 z7 → wS_mostOfStall_l26 Q' z0 z1 z2 z3 z4 z5 z6 z7 := by
  intro z0
  induction z0 with
  | zero => intro z1 z2 z3 z4 z5 z6 z7 h; exact h
  | succ z0 ih =>
    intro z1 z2 z3 z4 z5 z6 z7
    rw [wS_mostOfStall_l26, wS_mostOfStall_l26]
    repeat' (first | exact hQ _ _ | exact ih _ _ _ _ _ _ _ | with_reducible exact id | with_reducible refine mA ?_ ?_ | with_reducible refine mE fun _ => ?_ | with_reducible refine mF fun _ => ?_)
theorem wS_mostOfStall_mono {x1 : Int32} {x2 : Int32} {x3 : Int32} {σ : gM} {Q Q' : Int32 → gM → Prop} (hQ : ∀ y0 y1, Q y0 y1 → Q' y0 y1) : wS_mostOfStall x1 x2 x3 σ Q → wS_mostOfStall x1 x2 x3 σ Q' := by
  unfold wS_mostOfStall
  repeat' (first | exact hQ _ _ | with_reducible exact id | with_reducible refine wS_mostOfStall_l26_mono (fun _ _ => ?_) _ _ _ _ _ _ _ _ | with_reducible refine mA ?_ ?_ | with_reducible refine mE fun _ => ?_ | with_reducible refine mF fun _ => ?_)
theorem wS_mostApart_l28_mono  {Q Q' : Int32 → gM → Prop} (hQ : ∀ y0 y1, Q y0 y1 → Q' y0 y1) : ∀ (z0 : Nat) (z1 : Int32) (z2 : Int32) (z3 : Int32) (z4 : Int32) (z5 : Int32) (z6 : gM), wS_mostApart_l28 Q z0 z1 z2 z3 z4 z5 z6 → wS_mostApart_l28 Q' z0 z1 z2 z3 z4 z5 z6 := by
  intro z0
  induction z0 with
  | zero => intro z1 z2 z3 z4 z5 z6 h; exact h
  | succ z0 ih =>
    intro z1 z2 z3 z4 z5 z6
    rw [wS_mostApart_l28, wS_mostApart_l28]
    repeat' (first | exact hQ _ _ | exact ih _ _ _ _ _ _ | with_reducible exact id | with_reducible refine wS_mostOfStall_mono (fun _ _ => ?_) | with_reducible refine mA ?_ ?_ | with_reducible refine mE fun _ => ?_ | with_reducible refine mF fun _ => ?_)
theorem wS_mostApart_mono {x2 : Int32} {x3 : Int32} {x4 : Int32} {σ : gM} {Q Q' : Int32 → gM → Prop} (hQ : ∀ y0 y1, Q y0 y1 → Q' y0 y1) : wS_mostApart x2 x3 x4 σ Q → wS_mostApart x2 x3 x4 σ Q' := by
  unfold wS_mostApart
  repeat' (first | exact hQ _ _ | with_reducible exact id | with_reducible refine wS_addUp_mono (fun _ => ?_) | with_reducible refine wS_mostApart_l28_mono (fun _ _ => ?_) _ _ _ _ _ _ _ | with_reducible refine mA ?_ ?_ | with_reducible refine mE fun _ => ?_ | with_reducible refine mF fun _ => ?_)
theorem wH_apart_mono {x1 : Int32} {x2 : Int32} {x3 : Int32} {σ : gM} {Q Q' : Int32 → gM → Prop} (hQ : ∀ y0 y1, Q y0 y1 → Q' y0 y1) : wH_apart x1 x2 x3 σ Q → wH_apart x1 x2 x3 σ Q' := by
  unfold wH_apart
  repeat' (first | exact hQ _ _ | with_reducible exact id | with_reducible refine wH_isNoBuyer_mono (fun _ _ => ?_) | with_reducible refine wS_mostApart_mono (fun _ _ => ?_) | with_reducible refine mA ?_ ?_ | with_reducible refine mE fun _ => ?_ | with_reducible refine mF fun _ => ?_)
theorem wK62_become_42_mono {σ : gM} {Q Q' : gM → Prop} (hQ : ∀ y0, Q y0 → Q' y0) : wK62_become_42 σ Q → wK62_become_42 σ Q' := by
  unfold wK62_become_42
  repeat' (first | exact hQ _ | with_reducible exact id | with_reducible refine mA ?_ ?_ | with_reducible refine mE fun _ => ?_ | with_reducible refine mF fun _ => ?_)
theorem wK72_become_42_mono {σ : gM} {Q Q' : gM → Prop} (hQ : ∀ y0, Q y0 → Q' y0) : wK72_become_42 σ Q → wK72_become_42 σ Q' := by
  unfold wK72_become_42
  repeat' (first | exact hQ _ | with_reducible exact id | with_reducible refine mA ?_ ?_ | with_reducible refine mE fun _ => ?_ | with_reducible refine mF fun _ => ?_)
theorem wH_image_mono {x1 : Int32} {σ : gM} {Q Q' : Int32 → gM → Prop} (hQ : ∀ y0 y1, Q y0 y1 → Q' y0 y1) : wH_image x1 σ Q → wH_image x1 σ Q' := by
  unfold wH_image
  repeat' (first | exact hQ _ _ | with_reducible exact id | with_reducible refine wK62_become_42_mono (fun _ => ?_) | with_reducible refine wK72_become_42_mono (fun _ => ?_) | with_reducible refine mA ?_ ?_ | with_reducible refine mE fun _ => ?_ | with_reducible refine mF fun _ => ?_)
theorem wK42_become_62_mono {σ : gM} {Q Q' : gM → Prop} (hQ : ∀ y0, Q y0 → Q' y0) : wK42_become_62 σ Q → wK42_become_62 σ Q' := by
  unfold wK42_become_62
  repeat' (first | exact hQ _ | with_reducible exact id | with_reducible refine mA ?_ ?_ | with_reducible refine mE fun _ => ?_ | with_reducible refine mF fun _ => ?_)
theorem wK42_become_72_mono {σ : gM} {Q Q' : gM → Prop} (hQ : ∀ y0, Q y0 → Q' y0) : wK42_become_72 σ Q → wK42_become_72 σ Q' := by
  unfold wK42_become_72
  repeat' (first | exact hQ _ | with_reducible exact id | with_reducible refine mA ?_ ?_ | with_reducible refine mE fun _ => ?_ | with_reducible refine mF fun _ => ?_)
theorem wH_restore_mono {x1 : Int32} {σ : gM} {Q Q' : Int32 → gM → Prop} (hQ : ∀ y0 y1, Q y0 y1 → Q' y0 y1) : wH_restore x1 σ Q → wH_restore x1 σ Q' := by
  unfold wH_restore
  repeat' (first | exact hQ _ _ | with_reducible exact id | with_reducible refine wK42_become_62_mono (fun _ => ?_) | with_reducible refine wA_forget_mono (fun _ => ?_) | with_reducible refine wK42_become_72_mono (fun _ => ?_) | with_reducible refine mA ?_ ?_ | with_reducible refine mE fun _ => ?_ | with_reducible refine mF fun _ => ?_)
theorem wH_kind_mono {x1 : Int32} {σ : gM} {Q Q' : Int32 → gM → Prop} (hQ : ∀ y0 y1, Q y0 y1 → Q' y0 y1) : wH_kind x1 σ Q → wH_kind x1 σ Q' := by
  unfold wH_kind
  repeat' (first | exact hQ _ _ | with_reducible exact id | with_reducible refine wH_isNoWare_mono (fun _ _ => ?_) | with_reducible refine mA ?_ ?_ | with_reducible refine mE fun _ => ?_ | with_reducible refine mF fun _ => ?_)
theorem wH_as_mono {x1 : Int32} {x2 : Int32} {σ : gM} {Q Q' : Int32 → gM → Prop} (hQ : ∀ y0 y1, Q y0 y1 → Q' y0 y1) : wH_as x1 x2 σ Q → wH_as x1 x2 σ Q' := by
  unfold wH_as
  repeat' (first | exact hQ _ _ | with_reducible exact id | with_reducible refine wH_isNoWare_mono (fun _ _ => ?_) | with_reducible refine wH_isSuch_mono (fun _ _ => ?_) | with_reducible refine wH_found_mono (fun _ _ => ?_) | with_reducible refine wH_unfound_mono (fun _ _ => ?_) | with_reducible refine mA ?_ ?_ | with_reducible refine mE fun _ => ?_ | with_reducible refine mF fun _ => ?_)
theorem wH_leave_mono {x1 : Int32} {σ : gM} {Q Q' : gM → Prop} (hQ : ∀ y0, Q y0 → Q' y0) : wH_leave x1 σ Q → wH_leave x1 σ Q' := by
  unfold wH_leave
  repeat' (first | exact hQ _ | with_reducible exact id | with_reducible refine mA ?_ ?_ | with_reducible refine mE fun _ => ?_ | with_reducible refine mF fun _ => ?_)
theorem wH_sizeLent_mono {x1 : Int32} {σ : gM} {Q Q' : Int32 → gM → Prop} (hQ : ∀ y0 y1, Q y0 y1 → Q' y0 y1) : wH_sizeLent x1 σ Q → wH_sizeLent x1 σ Q' := by
  unfold wH_sizeLent
  repeat' (first | exact hQ _ _ | with_reducible exact id | with_reducible refine wH_leave_mono (fun _ => ?_) | with_reducible refine mA ?_ ?_ | with_reducible refine mE fun _ => ?_ | with_reducible refine mF fun _ => ?_)
theorem wH_sizeOfCloth_b29_mono {x1 : Int32} {x2 : Int32} {σ : gM} {Q Q' : Int32 → gM → Prop} (hQ : ∀ y0 y1, Q y0 y1 → Q' y0 y1) : wH_sizeOfCloth_b29 Q x1 x2 σ → wH_sizeOfCloth_b29 Q' x1 x2 σ := by
  unfold wH_sizeOfCloth_b29
  repeat' (first | exact hQ _ _ | with_reducible exact id | with_reducible refine wH_leave_mono (fun _ => ?_) | with_reducible refine wH_sizeLent_mono (fun _ _ => ?_) | with_reducible refine mA ?_ ?_ | with_reducible refine mE fun _ => ?_ | with_reducible refine mF fun _ => ?_)
theorem wH_sizeOfCloth_mono {x1 : Int32} {σ : gM} {Q Q' : Int32 → gM → Prop} (hQ : ∀ y0 y1, Q y0 y1 → Q' y0 y1) : wH_sizeOfCloth x1 σ Q → wH_sizeOfCloth x1 σ Q' := by
  unfold wH_sizeOfCloth
  repeat' (first | exact hQ _ _ | with_reducible exact id | with_reducible refine wH_sizeOfCloth_b29_mono (fun _ _ => ?_) | with_reducible refine wH_leave_mono (fun _ => ?_) | with_reducible refine mA ?_ ?_ | with_reducible refine mE fun _ => ?_ | with_reducible refine mF fun _ => ?_)
theorem wH_markLent_mono {x1 : Int32} {σ : gM} {Q Q' : Int32 → gM → Prop} (hQ : ∀ y0 y1, Q y0 y1 → Q' y0 y1) : wH_markLent x1 σ Q → wH_markLent x1 σ Q' := by
  unfold wH_markLent
  repeat' (first | exact hQ _ _ | with_reducible exact id | with_reducible refine wH_leave_mono (fun _ => ?_) | with_reducible refine mA ?_ ?_ | with_reducible refine mE fun _ => ?_ | with_reducible refine mF fun _ => ?_)
theorem wH_markOfCloth_mono {x1 : Int32} {σ : gM} {Q Q' : Int32 → gM → Prop} (hQ : ∀ y0 y1, Q y0 y1 → Q' y0 y1) : wH_markOfCloth x1 σ Q → wH_markOfCloth x1 σ Q' := by
  unfold wH_markOfCloth
  repeat' (first | exact hQ _ _ | with_reducible exact id | with_reducible refine wH_leave_mono (fun _ => ?_) | with_reducible refine wH_markLent_mono (fun _ _ => ?_) | with_reducible refine wH_sizeOfCloth_mono (fun _ _ => ?_) | with_reducible refine mA ?_ ?_ | with_reducible refine mE fun _ => ?_ | with_reducible refine mF fun _ => ?_)
theorem wH_markOfFruit_b35_mono {x1 : Int32} {x2 : Int32} {σ : gM} {Q Q' : Int32 → gM → Prop} (hQ : ∀ y0 y1, Q y0 y1 → Q' y0 y1) : wH_markOfFruit_b35 Q x1 x2 σ → wH_markOfFruit_b35 Q' x1 x2 σ := by
  unfold wH_markOfFruit_b35
  repeat' (first | exact hQ _ _ | with_reducible exact id | with_reducible refine wH_leave_mono (fun _ => ?_) | with_reducible refine wH_markLent_mono (fun _ _ => ?_) | with_reducible refine mA ?_ ?_ | with_reducible refine mE fun _ => ?_ | with_reducible refine mF fun _ => ?_)
theorem wH_markOfFruit_mono {x1 : Int32} {σ : gM} {Q Q' : Int32 → gM → Prop} (hQ : ∀ y0 y1, Q y0 y1 → Q' y0 y1) : wH_markOfFruit x1 σ Q → wH_markOfFruit x1 σ Q' := by
  unfold wH_markOfFruit
  repeat' (first | exact hQ _ _ | with_reducible exact id | with_reducible refine wH_leave_mono (fun _ => ?_) | with_reducible refine wH_markOfFruit_b35_mono (fun _ _ => ?_) | with_reducible refine mA ?_ ?_ | with_reducible refine mE fun _ => ?_ | with_reducible refine mF fun _ => ?_)
theorem wH_sizeOfFruit_b29_mono {x1 : Int32} {x2 : Int32} {σ : gM} {Q Q' : Int32 → gM → Prop} (hQ : ∀ y0 y1, Q y0 y1 → Q' y0 y1) : wH_sizeOfFruit_b29 Q x1 x2 σ → wH_sizeOfFruit_b29 Q' x1 x2 σ := by
  unfold wH_sizeOfFruit_b29
  repeat' (first | exact hQ _ _ | with_reducible exact id | with_reducible refine wH_leave_mono (fun _ => ?_) | with_reducible refine wH_sizeLent_mono (fun _ _ => ?_) | with_reducible refine wH_markOfFruit_mono (fun _ _ => ?_) | with_reducible refine mA ?_ ?_ | with_reducible refine mE fun _ => ?_ | with_reducible refine mF fun _ => ?_)
theorem wH_sizeOfFruit_mono {x1 : Int32} {σ : gM} {Q Q' : Int32 → gM → Prop} (hQ : ∀ y0 y1, Q y0 y1 → Q' y0 y1) : wH_sizeOfFruit x1 σ Q → wH_sizeOfFruit x1 σ Q' := by
  unfold wH_sizeOfFruit
  repeat' (first | exact hQ _ _ | with_reducible exact id | with_reducible refine wH_sizeOfFruit_b29_mono (fun _ _ => ?_) | with_reducible refine wH_leave_mono (fun _ => ?_) | with_reducible refine mA ?_ ?_ | with_reducible refine mE fun _ => ?_ | with_reducible refine mF fun _ => ?_)
theorem wH_ask_mono {x1 : Int32} {x2 : Int32} {σ : gM} {Q Q' : Int32 → gM → Prop} (hQ : ∀ y0 y1, Q y0 y1 → Q' y0 y1) : wH_ask x1 x2 σ Q → wH_ask x1 x2 σ Q' := by
  unfold wH_ask
  repeat' (first | exact hQ _ _ | with_reducible exact id | with_reducible refine wH_isNoWare_mono (fun _ _ => ?_) | with_reducible refine wH_isSuch_mono (fun _ _ => ?_) | with_reducible refine wH_sizeOfCloth_mono (fun _ _ => ?_) | with_reducible refine wH_markOfCloth_mono (fun _ _ => ?_) | with_reducible refine wH_sizeOfFruit_mono (fun _ _ => ?_) | with_reducible refine wH_markOfFruit_mono (fun _ _ => ?_) | with_reducible refine mA ?_ ?_ | with_reducible refine mE fun _ => ?_ | with_reducible refine mF fun _ => ?_)
theorem wH_trace_mono {x1 : Int32} {σ : gM} {Q Q' : Int32 → gM → Prop} (hQ : ∀ y0 y1, Q y0 y1 → Q' y0 y1) : wH_trace x1 σ Q → wH_trace x1 σ Q' := by
  unfold wH_trace
  repeat' (first | exact hQ _ _ | with_reducible exact id | with_reducible refine mA ?_ ?_ | with_reducible refine mE fun _ => ?_ | with_reducible refine mF fun _ => ?_)
theorem wH_rowsThere_l4_mono  {Q Q' : Int32 → gM → Prop} (hQ : ∀ y0 y1, Q y0 y1 → Q' y0 y1) : ∀ (z0 : Nat) (z1 : Int32) (z2 : Int32) (z3 : gM), wH_rowsThere_l4 Q z0 z1 z2 z3 → wH_rowsThere_l4 Q' z0 z1 z2 z3 := by
  intro z0
  induction z0 with
  | zero => intro z1 z2 z3 h; exact h
  | succ z0 ih =>
    intro z1 z2 z3
    rw [wH_rowsThere_l4, wH_rowsThere_l4]
    repeat' (first | exact hQ _ _ | exact ih _ _ _ | with_reducible exact id | with_reducible refine mA ?_ ?_ | with_reducible refine mE fun _ => ?_ | with_reducible refine mF fun _ => ?_)
theorem wH_rowsThere_mono {σ : gM} {Q Q' : Int32 → gM → Prop} (hQ : ∀ y0 y1, Q y0 y1 → Q' y0 y1) : wH_rowsThere σ Q → wH_rowsThere σ Q' := by
  unfold wH_rowsThere
  repeat' (first | exact hQ _ _ | with_reducible exact id | with_reducible refine wH_rowsThere_l4_mono (fun _ _ => ?_) _ _ _ _ | with_reducible refine mA ?_ ?_ | with_reducible refine mE fun _ => ?_ | with_reducible refine mF fun _ => ?_)
theorem wH_count_mono {x1 : Int32} {σ : gM} {Q Q' : Int32 → gM → Prop} (hQ : ∀ y0 y1, Q y0 y1 → Q' y0 y1) : wH_count x1 σ Q → wH_count x1 σ Q' := by
  unfold wH_count
  repeat' (first | exact hQ _ _ | with_reducible exact id | with_reducible refine wH_rowsThere_mono (fun _ _ => ?_) | with_reducible refine mA ?_ ?_ | with_reducible refine mE fun _ => ?_ | with_reducible refine mF fun _ => ?_)
theorem wH_status_mono {σ : gM} {Q Q' : Int32 → gM → Prop} (hQ : ∀ y0 y1, Q y0 y1 → Q' y0 y1) : wH_status σ Q → wH_status σ Q' := by
  unfold wH_status
  repeat' (first | exact hQ _ _ | with_reducible exact id | with_reducible refine mA ?_ ?_ | with_reducible refine mE fun _ => ?_ | with_reducible refine mF fun _ => ?_)
theorem wM_in_mono {x0 : Int32} {x1 : Int32} {x2 : Int32} {σ : gM} {Q Q' : Int32 → gM → Prop} (hQ : ∀ y0 y1, Q y0 y1 → Q' y0 y1) : wM_in x0 x1 x2 σ Q → wM_in x0 x1 x2 σ Q' := by
  unfold wM_in
  repeat' (first | exact hQ _ _ | with_reducible exact id | with_reducible refine mA ?_ ?_ | with_reducible refine mE fun _ => ?_ | with_reducible refine mF fun _ => ?_)
theorem wM_isRow_mono {x0 : Int32} {σ : gM} {Q Q' : Int32 → gM → Prop} (hQ : ∀ y0 y1, Q y0 y1 → Q' y0 y1) : wM_isRow x0 σ Q → wM_isRow x0 σ Q' := by
  unfold wM_isRow
  repeat' (first | exact hQ _ _ | with_reducible exact id | with_reducible refine wM_in_mono (fun _ _ => ?_) | with_reducible refine mA ?_ ?_ | with_reducible refine mE fun _ => ?_ | with_reducible refine mF fun _ => ?_)
theorem wM_did_mono {x1 : Int32} {σ : gM} {Q Q' : Int32 → gM → Prop} (hQ : ∀ y0 y1, Q y0 y1 → Q' y0 y1) : wM_did x1 σ Q → wM_did x1 σ Q' := by
  unfold wM_did
  repeat' (first | exact hQ _ _ | with_reducible exact id | with_reducible refine mA ?_ ?_ | with_reducible refine mE fun _ => ?_ | with_reducible refine mF fun _ => ?_)
theorem wM_finds_mono {x1 : Int32} {σ : gM} {Q Q' : Int32 → gM → Prop} (hQ : ∀ y0 y1, Q y0 y1 → Q' y0 y1) : wM_finds x1 σ Q → wM_finds x1 σ Q' := by
  unfold wM_finds
  repeat' (first | exact hQ _ _ | with_reducible exact id | with_reducible refine mA ?_ ?_ | with_reducible refine mE fun _ => ?_ | with_reducible refine mF fun _ => ?_)
theorem wM_row_l52_mono  {Q Q' : Int32 → gM → Prop} (hQ : ∀ y0 y1, Q y0 y1 → Q' y0 y1) : ∀ (z0 : Nat) (z1 : Int32) (z2 : Int32) (z3 : Int32) (z4 : gM), wM_row_l52 Q z0 z1 z2 z3 z4 → wM_row_l52 Q' z0 z1 z2 z3 z4 := by
  intro z0
  induction z0 with
  | zero => intro z1 z2 z3 z4 h; exact h
  | succ z0 ih =>
    intro z1 z2 z3 z4
    rw [wM_row_l52, wM_row_l52]
    repeat' (first | exact hQ _ _ | exact ih _ _ _ _ | with_reducible exact id | with_reducible refine wM_did_mono (fun _ _ => ?_) | with_reducible refine mA ?_ ?_ | with_reducible refine mE fun _ => ?_ | with_reducible refine mF fun _ => ?_)
theorem wM_row_mono {x1 : Int32} {x2 : Int32} {x3 : Int32} {σ : gM} {Q Q' : Int32 → gM → Prop} (hQ : ∀ y0 y1, Q y0 y1 → Q' y0 y1) : wM_row x1 x2 x3 σ Q → wM_row x1 x2 x3 σ Q' := by
  unfold wM_row
  repeat' (first | exact hQ _ _ | with_reducible exact id | with_reducible refine wM_isRow_mono (fun _ _ => ?_) | with_reducible refine wM_in_mono (fun _ _ => ?_) | with_reducible refine wM_row_l52_mono (fun _ _ => ?_) _ _ _ _ _ | with_reducible refine wM_finds_mono (fun _ _ => ?_) | with_reducible refine mA ?_ ?_ | with_reducible refine mE fun _ => ?_ | with_reducible refine mF fun _ => ?_)
theorem wM_isNull_mono {x1 : Int32} {σ : gM} {Q Q' : Int32 → gM → Prop} (hQ : ∀ y0 y1, Q y0 y1 → Q' y0 y1) : wM_isNull x1 σ Q → wM_isNull x1 σ Q' := by
  unfold wM_isNull
  repeat' (first | exact hQ _ _ | with_reducible exact id | with_reducible refine mA ?_ ?_ | with_reducible refine mE fun _ => ?_ | with_reducible refine mF fun _ => ?_)
