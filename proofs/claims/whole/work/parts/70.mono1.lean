theorem wA_keep_mono {x1 : Int32} {x2 : Int32} {x3 : Int32} {σ : gM} {Q Q' : gM → Prop} (hQ : ∀ y0, Q y0 → Q' y0) : wA_keep x1 x2 x3 σ Q → wA_keep x1 x2 x3 σ Q' := by
  unfold wA_keep
  repeat' (first | exact hQ _ | with_reducible exact id | with_reducible refine mA ?_ ?_ | with_reducible refine mE fun _ => ?_ | with_reducible refine mF fun _ => ?_)
theorem wH_isSuch_mono {x0 : Int32} {x1 : Int32} {σ : gM} {Q Q' : Int32 → gM → Prop} (hQ : ∀ y0 y1, Q y0 y1 → Q' y0 y1) : wH_isSuch x0 x1 σ Q → wH_isSuch x0 x1 σ Q' := by
  unfold wH_isSuch
  repeat' (first | exact hQ _ _ | with_reducible exact id | with_reducible refine mA ?_ ?_ | with_reducible refine mE fun _ => ?_ | with_reducible refine mF fun _ => ?_)
theorem wK42_valueTo_mono {x1 : Int32} {x2 : Int32} {x3 : Int32} {σ : gM} {Q Q' : Int32 → gM → Prop} (hQ : ∀ y0 y1, Q y0 y1 → Q' y0 y1) : wK42_valueTo x1 x2 x3 σ Q → wK42_valueTo x1 x2 x3 σ Q' := by
  unfold wK42_valueTo
  repeat' (first | exact hQ _ _ | with_reducible exact id | with_reducible refine wK42_valueIn_mono (fun _ _ => ?_) | with_reducible refine wH_isSuch_mono (fun _ _ => ?_) | with_reducible refine mA ?_ ?_ | with_reducible refine mE fun _ => ?_ | with_reducible refine mF fun _ => ?_)
theorem wK42_removeAt_mono {x1 : Int32} {σ : gM} {Q Q' : gM → Prop} (hQ : ∀ y0, Q y0 → Q' y0) : wK42_removeAt x1 σ Q → wK42_removeAt x1 σ Q' := by
  unfold wK42_removeAt
  repeat' (first | exact hQ _ | with_reducible exact id | with_reducible refine mA ?_ ?_ | with_reducible refine mE fun _ => ?_ | with_reducible refine mF fun _ => ?_)
theorem wK42_sell_mono {x1 : Int32} {x2 : Int32} {σ : gM} {Q Q' : Int32 → gM → Prop} (hQ : ∀ y0 y1, Q y0 y1 → Q' y0 y1) : wK42_sell x1 x2 σ Q → wK42_sell x1 x2 σ Q' := by
  unfold wK42_sell
  repeat' (first | exact hQ _ _ | with_reducible exact id | with_reducible refine wK42_wareAt_mono (fun _ _ => ?_) | with_reducible refine wK42_valueTo_mono (fun _ _ => ?_) | with_reducible refine wK42_valueIn_mono (fun _ _ => ?_) | with_reducible refine wK42_removeAt_mono (fun _ => ?_) | with_reducible refine mA ?_ ?_ | with_reducible refine mE fun _ => ?_ | with_reducible refine mF fun _ => ?_)
theorem wH_take_mono {x1 : Int32} {x2 : Int32} {σ : gM} {Q Q' : Int32 → gM → Prop} (hQ : ∀ y0 y1, Q y0 y1 → Q' y0 y1) : wH_take x1 x2 σ Q → wH_take x1 x2 σ Q' := by
  unfold wH_take
  repeat' (first | exact hQ _ _ | with_reducible exact id | with_reducible refine wH_isNoBuyer_mono (fun _ _ => ?_) | with_reducible refine wH_isNoEnd_mono (fun _ _ => ?_) | with_reducible refine wK42_wareAt_mono (fun _ _ => ?_) | with_reducible refine wK42_valueIn_mono (fun _ _ => ?_) | with_reducible refine wA_keep_mono (fun _ => ?_) | with_reducible refine wK42_sell_mono (fun _ _ => ?_) | with_reducible refine mA ?_ ?_ | with_reducible refine mE fun _ => ?_ | with_reducible refine mF fun _ => ?_)
theorem wK42_putAt_mono {x1 : Int32} {x2 : Int32} {σ : gM} {Q Q' : gM → Prop} (hQ : ∀ y0, Q y0 → Q' y0) : wK42_putAt x1 x2 σ Q → wK42_putAt x1 x2 σ Q' := by
  unfold wK42_putAt
  repeat' (first | exact hQ _ | with_reducible exact id | with_reducible refine mA ?_ ?_ | with_reducible refine mE fun _ => ?_ | with_reducible refine mF fun _ => ?_)
theorem wK42_addWare_mono {x1 : Int32} {x2 : Int32} {x3 : Int32} {x4 : Int32} {σ : gM} {Q Q' : Int32 → gM → Prop} (hQ : ∀ y0 y1, Q y0 y1 → Q' y0 y1) : wK42_addWare x1 x2 x3 x4 σ Q → wK42_addWare x1 x2 x3 x4 σ Q' := by
  unfold wK42_addWare
  repeat' (first | exact hQ _ _ | with_reducible exact id | with_reducible refine wK42_putAt_mono (fun _ => ?_) | with_reducible refine mA ?_ ?_ | with_reducible refine mE fun _ => ?_ | with_reducible refine mF fun _ => ?_)
theorem wH_lay_mono {x1 : Int32} {x2 : Int32} {x3 : Int32} {σ : gM} {Q Q' : Int32 → gM → Prop} (hQ : ∀ y0 y1, Q y0 y1 → Q' y0 y1) : wH_lay x1 x2 x3 σ Q → wH_lay x1 x2 x3 σ Q' := by
  unfold wH_lay
  repeat' (first | exact hQ _ _ | with_reducible exact id | with_reducible refine wH_isNoEnd_mono (fun _ _ => ?_) | with_reducible refine wK42_addWare_mono (fun _ _ => ?_) | with_reducible refine wA_keep_mono (fun _ => ?_) | with_reducible refine mA ?_ ?_ | with_reducible refine mE fun _ => ?_ | with_reducible refine mF fun _ => ?_)
theorem wK42_rottenIn_l4_mono  {Q Q' : Int32 → gM → Prop} (hQ : ∀ y0 y1, Q y0 y1 → Q' y0 y1) : ∀ (z0 : Nat) (z1 : Int32) (z2 : Int32) (z3 : Int32) (z4 : gM), wK42_rottenIn_l4 Q z0 z1 z2 z3 z4 → wK42_rottenIn_l4 Q' z0 z1 z2 z3 z4 := by
  intro z0
  induction z0 with
  | zero => intro z1 z2 z3 z4 h; exact h
  | succ z0 ih =>
    intro z1 z2 z3 z4
    rw [wK42_rottenIn_l4, wK42_rottenIn_l4]
    repeat' (first | exact hQ _ _ | exact ih _ _ _ _ | with_reducible exact id | with_reducible refine wK42_valueIn_mono (fun _ _ => ?_) | with_reducible refine mA ?_ ?_ | with_reducible refine mE fun _ => ?_ | with_reducible refine mF fun _ => ?_)
theorem wK42_rottenIn_mono {x1 : Int32} {σ : gM} {Q Q' : Int32 → gM → Prop} (hQ : ∀ y0 y1, Q y0 y1 → Q' y0 y1) : wK42_rottenIn x1 σ Q → wK42_rottenIn x1 σ Q' := by
  unfold wK42_rottenIn
  repeat' (first | exact hQ _ _ | with_reducible exact id | with_reducible refine wK42_rottenIn_l4_mono (fun _ _ => ?_) _ _ _ _ _ | with_reducible refine mA ?_ ?_ | with_reducible refine mE fun _ => ?_ | with_reducible refine mF fun _ => ?_)
theorem wK42_passDays_l12_mono  {Q Q' : gM → Prop} (hQ : ∀ y0, Q y0 → Q' y0) : ∀ (z0 : Nat) (z1 : Int32) (z2 : Int32) (z3 : gM), wK42_passDays_l12 Q z0 z1 z2 z3 → wK42_passDays_l12 Q' z0 z1 z2 z3 := by
  intro z0
  induction z0 with
  | zero => intro z1 z2 z3 h; exact h
  | succ z0 ih =>
    intro z1 z2 z3
    rw [wK42_passDays_l12, wK42_passDays_l12]
    repeat' (first | exact hQ _ | exact ih _ _ _ | with_reducible exact id | with_reducible refine mA ?_ ?_ | with_reducible refine mE fun _ => ?_ | with_reducible refine mF fun _ => ?_)
theorem wK42_passDays_mono {x1 : Int32} {σ : gM} {Q Q' : gM → Prop} (hQ : ∀ y0, Q y0 → Q' y0) : wK42_passDays x1 σ Q → wK42_passDays x1 σ Q' := by
  unfold wK42_passDays
  repeat' (first | exact hQ _ | with_reducible exact id | with_reducible refine wK42_passDays_l12_mono (fun _ => ?_) _ _ _ _ | with_reducible refine mA ?_ ?_ | with_reducible refine mE fun _ => ?_ | with_reducible refine mF fun _ => ?_)
theorem wH_day_mono {σ : gM} {Q Q' : Int32 → gM → Prop} (hQ : ∀ y0 y1, Q y0 y1 → Q' y0 y1) : wH_day σ Q → wH_day σ Q' := by
  unfold wH_day
  repeat' (first | exact hQ _ _ | with_reducible exact id | with_reducible refine wK42_rottenIn_mono (fun _ _ => ?_) | with_reducible refine wA_keep_mono (fun _ => ?_) | with_reducible refine wK42_passDays_mono (fun _ => ?_) | with_reducible refine mA ?_ ?_ | with_reducible refine mE fun _ => ?_ | with_reducible refine mF fun _ => ?_)
theorem wA_takeBack_mono {σ : gM} {Q Q' : Int32 → gM → Prop} (hQ : ∀ y0 y1, Q y0 y1 → Q' y0 y1) : wA_takeBack σ Q → wA_takeBack σ Q' := by
  unfold wA_takeBack
  repeat' (first | exact hQ _ _ | with_reducible exact id | with_reducible refine mA ?_ ?_ | with_reducible refine mE fun _ => ?_ | with_reducible refine mF fun _ => ?_)
theorem wK42_unsell_mono {x1 : Int32} {x2 : Int32} {σ : gM} {Q Q' : gM → Prop} (hQ : ∀ y0, Q y0 → Q' y0) : wK42_unsell x1 x2 σ Q → wK42_unsell x1 x2 σ Q' := by
  unfold wK42_unsell
  repeat' (first | exact hQ _ | with_reducible exact id | with_reducible refine wK42_valueIn_mono (fun _ _ => ?_) | with_reducible refine wK42_valueTo_mono (fun _ _ => ?_) | with_reducible refine wK42_putAt_mono (fun _ => ?_) | with_reducible refine mA ?_ ?_ | with_reducible refine mE fun _ => ?_ | with_reducible refine mF fun _ => ?_)
theorem wK42_removeNewest_mono {x1 : Int32} {σ : gM} {Q Q' : gM → Prop} (hQ : ∀ y0, Q y0 → Q' y0) : wK42_removeNewest x1 σ Q → wK42_removeNewest x1 σ Q' := by
  unfold wK42_removeNewest
  repeat' (first | exact hQ _ | with_reducible exact id | with_reducible refine wK42_removeAt_mono (fun _ => ?_) | with_reducible refine mA ?_ ?_ | with_reducible refine mE fun _ => ?_ | with_reducible refine mF fun _ => ?_)
theorem wH_undo_mono {σ : gM} {Q Q' : Int32 → gM → Prop} (hQ : ∀ y0 y1, Q y0 y1 → Q' y0 y1) : wH_undo σ Q → wH_undo σ Q' := by
  unfold wH_undo
  repeat' (first | exact hQ _ _ | with_reducible exact id | with_reducible refine wA_takeBack_mono (fun _ _ => ?_) | with_reducible refine wK42_unsell_mono (fun _ => ?_) | with_reducible refine wK42_removeNewest_mono (fun _ => ?_) | with_reducible refine wK42_passDays_mono (fun _ => ?_) | with_reducible refine mA ?_ ?_ | with_reducible refine mE fun _ => ?_ | with_reducible refine mF fun _ => ?_)
theorem wH_isNoWare_mono {x1 : Int32} {σ : gM} {Q Q' : Int32 → gM → Prop} (hQ : ∀ y0 y1, Q y0 y1 → Q' y0 y1) : wH_isNoWare x1 σ Q → wH_isNoWare x1 σ Q' := by
  unfold wH_isNoWare
  repeat' (first | exact hQ _ _ | with_reducible exact id | with_reducible refine mA ?_ ?_ | with_reducible refine mE fun _ => ?_ | with_reducible refine mF fun _ => ?_)
theorem wK42_placeOf_l2_mono  {Q Q' : Int32 → gM → Prop} (hQ : ∀ y0 y1, Q y0 y1 → Q' y0 y1) : ∀ (z0 : Nat) (z1 : Int32) (z2 : Int32) (z3 : gM), wK42_placeOf_l2 Q z0 z1 z2 z3 → wK42_placeOf_l2 Q' z0 z1 z2 z3 := by
  intro z0
  induction z0 with
  | zero => intro z1 z2 z3 h; exact h
  | succ z0 ih =>
    intro z1 z2 z3
    rw [wK42_placeOf_l2, wK42_placeOf_l2]
    repeat' (first | exact hQ _ _ | exact ih _ _ _ | with_reducible exact id | with_reducible refine mA ?_ ?_ | with_reducible refine mE fun _ => ?_ | with_reducible refine mF fun _ => ?_)
theorem wK42_placeOf_mono {x1 : Int32} {σ : gM} {Q Q' : Int32 → gM → Prop} (hQ : ∀ y0 y1, Q y0 y1 → Q' y0 y1) : wK42_placeOf x1 σ Q → wK42_placeOf x1 σ Q' := by
  unfold wK42_placeOf
  repeat' (first | exact hQ _ _ | with_reducible exact id | with_reducible refine wK42_placeOf_l2_mono (fun _ _ => ?_) _ _ _ _ | with_reducible refine mA ?_ ?_ | with_reducible refine mE fun _ => ?_ | with_reducible refine mF fun _ => ?_)
theorem wH_ware_mono {x1 : Int32} {x2 : Int32} {σ : gM} {Q Q' : Int32 → gM → Prop} (hQ : ∀ y0 y1, Q y0 y1 → Q' y0 y1) : wH_ware x1 x2 σ Q → wH_ware x1 x2 σ Q' := by
  unfold wH_ware
  repeat' (first | exact hQ _ _ | with_reducible exact id | with_reducible refine wH_isNoWare_mono (fun _ _ => ?_) | with_reducible refine wK42_valueIn_mono (fun _ _ => ?_) | with_reducible refine wK42_placeOf_mono (fun _ _ => ?_) | with_reducible refine mA ?_ ?_ | with_reducible refine mE fun _ => ?_ | with_reducible refine mF fun _ => ?_)
theorem wH_buyer_mono {x1 : Int32} {x2 : Int32} {σ : gM} {Q Q' : Int32 → gM → Prop} (hQ : ∀ y0 y1, Q y0 y1 → Q' y0 y1) : wH_buyer x1 x2 σ Q → wH_buyer x1 x2 σ Q' := by
  unfold wH_buyer
  repeat' (first | exact hQ _ _ | with_reducible exact id | with_reducible refine wH_isNoBuyer_mono (fun _ _ => ?_) | with_reducible refine mA ?_ ?_ | with_reducible refine mE fun _ => ?_ | with_reducible refine mF fun _ => ?_)
theorem wH_worth_mono {x1 : Int32} {x2 : Int32} {σ : gM} {Q Q' : Int32 → gM → Prop} (hQ : ∀ y0 y1, Q y0 y1 → Q' y0 y1) : wH_worth x1 x2 σ Q → wH_worth x1 x2 σ Q' := by
  unfold wH_worth
  repeat' (first | exact hQ _ _ | with_reducible exact id | with_reducible refine wH_isNoWare_mono (fun _ _ => ?_) | with_reducible refine wH_isNoBuyer_mono (fun _ _ => ?_) | with_reducible refine wK42_valueTo_mono (fun _ _ => ?_) | with_reducible refine mA ?_ ?_ | with_reducible refine mE fun _ => ?_ | with_reducible refine mF fun _ => ?_)
theorem wH_areNoTwo_mono {x1 : Int32} {x2 : Int32} {σ : gM} {Q Q' : Int32 → gM → Prop} (hQ : ∀ y0 y1, Q y0 y1 → Q' y0 y1) : wH_areNoTwo x1 x2 σ Q → wH_areNoTwo x1 x2 σ Q' := by
  unfold wH_areNoTwo
  repeat' (first | exact hQ _ _ | with_reducible exact id | with_reducible refine wH_isNoBuyer_mono (fun _ _ => ?_) | with_reducible refine mA ?_ ?_ | with_reducible refine mE fun _ => ?_ | with_reducible refine mF fun _ => ?_)
theorem wD_seat_l19_mono  {Q Q' : gM → Prop} (hQ : ∀ y0, Q y0 → Q' y0) : ∀ (z0 : Nat) (z1 : Int32) (z2 : Int32) (z3 : Int32) (z4 : gM), wD_seat_l19 Q z0 z1 z2 z3 z4 → wD_seat_l19 Q' z0 z1 z2 z3 z4 := by
  intro z0
  induction z0 with
  | zero => intro z1 z2 z3 z4 h; exact h
  | succ z0 ih =>
    intro z1 z2 z3 z4
    rw [wD_seat_l19, wD_seat_l19]
    repeat' (first | exact hQ _ | exact ih _ _ _ _ | with_reducible exact id | with_reducible refine wK42_valueTo_mono (fun _ _ => ?_) | with_reducible refine mA ?_ ?_ | with_reducible refine mE fun _ => ?_ | with_reducible refine mF fun _ => ?_)
theorem wD_seat_mono {x2 : Int32} {x3 : Int32} {σ : gM} {Q Q' : gM → Prop} (hQ : ∀ y0, Q y0 → Q' y0) : wD_seat x2 x3 σ Q → wD_seat x2 x3 σ Q' := by
  unfold wD_seat
  repeat' (first | exact hQ _ | with_reducible exact id | with_reducible refine wD_seat_l19_mono (fun _ => ?_) _ _ _ _ _ | with_reducible refine mA ?_ ?_ | with_reducible refine mE fun _ => ?_ | with_reducible refine mF fun _ => ?_)
theorem wD_lineUpFrom_l2_mono  {Q Q' : gM → Prop} (hQ : ∀ y0, Q y0 → Q' y0) : ∀ (z0 : Nat) (z1 : Int32) (z2 : Int32) (z3 : gM), wD_lineUpFrom_l2 Q z0 z1 z2 z3 → wD_lineUpFrom_l2 Q' z0 z1 z2 z3 := by
  intro z0
  induction z0 with
  | zero => intro z1 z2 z3 h; exact h
  | succ z0 ih =>
    intro z1 z2 z3
    rw [wD_lineUpFrom_l2, wD_lineUpFrom_l2]
    repeat' (first | exact hQ _ | exact ih _ _ _ | with_reducible exact id | with_reducible refine mA ?_ ?_ | with_reducible refine mE fun _ => ?_ | with_reducible refine mF fun _ => ?_)
theorem wD_lineUpFrom_mono {x1 : Int32} {σ : gM} {Q Q' : gM → Prop} (hQ : ∀ y0, Q y0 → Q' y0) : wD_lineUpFrom x1 σ Q → wD_lineUpFrom x1 σ Q' := by
  unfold wD_lineUpFrom
  repeat' (first | exact hQ _ | with_reducible exact id | with_reducible refine wD_lineUpFrom_l2_mono (fun _ => ?_) _ _ _ _ | with_reducible refine mA ?_ ?_ | with_reducible refine mE fun _ => ?_ | with_reducible refine mF fun _ => ?_)
theorem wD_clearGains_31_32_l2_mono  {Q Q' : gM → Prop} (hQ : ∀ y0, Q y0 → Q' y0) : ∀ (z0 : Nat) (z1 : Int32) (z2 : gM), wD_clearGains_31_32_l2 Q z0 z1 z2 → wD_clearGains_31_32_l2 Q' z0 z1 z2 := by
  intro z0
  induction z0 with
  | zero => intro z1 z2 h; exact h
  | succ z0 ih =>
    intro z1 z2
    rw [wD_clearGains_31_32_l2, wD_clearGains_31_32_l2]
    repeat' (first | exact hQ _ | exact ih _ _ | with_reducible exact id | with_reducible refine mA ?_ ?_ | with_reducible refine mE fun _ => ?_ | with_reducible refine mF fun _ => ?_)
theorem wD_clearGains_31_32_mono {σ : gM} {Q Q' : gM → Prop} (hQ : ∀ y0, Q y0 → Q' y0) : wD_clearGains_31_32 σ Q → wD_clearGains_31_32 σ Q' := by
  unfold wD_clearGains_31_32
  repeat' (first | exact hQ _ | with_reducible exact id | with_reducible refine wD_clearGains_31_32_l2_mono (fun _ => ?_) _ _ _ | with_reducible refine mA ?_ ?_ | with_reducible refine mE fun _ => ?_ | with_reducible refine mF fun _ => ?_)
theorem wD_isTurnOfA_mono {x1 : Int32} {σ : gM} {Q Q' : Int32 → gM → Prop} (hQ : ∀ y0 y1, Q y0 y1 → Q' y0 y1) : wD_isTurnOfA x1 σ Q → wD_isTurnOfA x1 σ Q' := by
  unfold wD_isTurnOfA
  repeat' (first | exact hQ _ _ | with_reducible exact id | with_reducible refine mA ?_ ?_ | with_reducible refine mE fun _ => ?_ | with_reducible refine mF fun _ => ?_)
theorem wD_takeEnd_31_32_mono {x3 : Int32} {x4 : Int32} {x5 : Int32} {σ : gM} {Q Q' : Int32 → gM → Prop} (hQ : ∀ y0 y1, Q y0 y1 → Q' y0 y1) : wD_takeEnd_31_32 x3 x4 x5 σ Q → wD_takeEnd_31_32 x3 x4 x5 σ Q' := by
  unfold wD_takeEnd_31_32
  repeat' (first | exact hQ _ _ | with_reducible exact id | with_reducible refine mA ?_ ?_ | with_reducible refine mE fun _ => ?_ | with_reducible refine mF fun _ => ?_)
theorem wD_play_l41_mono  {Q Q' : gM → Prop} (hQ : ∀ y0, Q y0 → Q' y0) {K20 K20' : Int32 → gM → Prop} (hK20 : ∀ y0 y1, K20 y0 y1 → K20' y0 y1) : ∀ (z0 : Nat) (z1 : Int32) (z2 : Int32) (z3 : Int32) (z4 : gM), wD_play_l41 Q K20 z0 z1 z2 z3 z4 → wD_play_l41 Q' K20' z0 z1 z2 z3 z4 := by
  intro z0
  induction z0 with
  | zero => intro z1 z2 z3 z4 h; exact h
  | succ z0 ih =>
    intro z1 z2 z3 z4
    rw [wD_play_l41, wD_play_l41]
    repeat' (first | exact hQ _ | exact hK20 _ _ | exact ih _ _ _ _ | with_reducible exact id | with_reducible refine wD_takeEnd_31_32_mono (fun _ _ => ?_) | with_reducible refine mA ?_ ?_ | with_reducible refine mE fun _ => ?_ | with_reducible refine mF fun _ => ?_)
theorem wD_play_l20_mono  {Q Q' : gM → Prop} (hQ : ∀ y0, Q y0 → Q' y0) : ∀ (z0 : Nat) (z1 : Int32) (z2 : gM), wD_play_l20 Q z0 z1 z2 → wD_play_l20 Q' z0 z1 z2 := by
  intro z0
  induction z0 with
  | zero => intro z1 z2 h; exact h
  | succ z0 ih =>
    intro z1 z2
    rw [wD_play_l20, wD_play_l20]
    repeat' (first | exact hQ _ | exact ih _ _ | with_reducible exact id | with_reducible refine wD_isTurnOfA_mono (fun _ _ => ?_) | with_reducible refine wD_play_l41_mono (fun _ => ?_) (fun _ _ => ?_) _ _ _ _ _ | with_reducible refine mA ?_ ?_ | with_reducible refine mE fun _ => ?_ | with_reducible refine mF fun _ => ?_)
theorem wD_play_mono {σ : gM} {Q Q' : gM → Prop} (hQ : ∀ y0, Q y0 → Q' y0) : wD_play σ Q → wD_play σ Q' := by
  unfold wD_play
  repeat' (first | exact hQ _ | with_reducible exact id | with_reducible refine wD_clearGains_31_32_mono (fun _ => ?_) | with_reducible refine wD_play_l20_mono (fun _ => ?_) _ _ _ | with_reducible refine mA ?_ ?_ | with_reducible refine mE fun _ => ?_ | with_reducible refine mF fun _ => ?_)
theorem wD_gainOfA_mono {σ : gM} {Q Q' : Int32 → gM → Prop} (hQ : ∀ y0 y1, Q y0 y1 → Q' y0 y1) : wD_gainOfA σ Q → wD_gainOfA σ Q' := by
  unfold wD_gainOfA
  repeat' (first | exact hQ _ _ | with_reducible exact id | with_reducible refine mA ?_ ?_ | with_reducible refine mE fun _ => ?_ | with_reducible refine mF fun _ => ?_)
theorem wD_gainOfB_mono {σ : gM} {Q Q' : Int32 → gM → Prop} (hQ : ∀ y0 y1, Q y0 y1 → Q' y0 y1) : wD_gainOfB σ Q → wD_gainOfB σ Q' := by
  unfold wD_gainOfB
  repeat' (first | exact hQ _ _ | with_reducible exact id | with_reducible refine mA ?_ ?_ | with_reducible refine mE fun _ => ?_ | with_reducible refine mF fun _ => ?_)
theorem wH_best_mono {x1 : Int32} {x2 : Int32} {x3 : Int32} {σ : gM} {Q Q' : Int32 → gM → Prop} (hQ : ∀ y0 y1, Q y0 y1 → Q' y0 y1) : wH_best x1 x2 x3 σ Q → wH_best x1 x2 x3 σ Q' := by
  unfold wH_best
  repeat' (first | exact hQ _ _ | with_reducible exact id | with_reducible refine wH_areNoTwo_mono (fun _ _ => ?_) | with_reducible refine wD_seat_mono (fun _ => ?_) | with_reducible refine wD_lineUpFrom_mono (fun _ => ?_) | with_reducible refine wD_play_mono (fun _ => ?_) | with_reducible refine wD_gainOfA_mono (fun _ _ => ?_) | with_reducible refine wD_gainOfB_mono (fun _ _ => ?_) | with_reducible refine mA ?_ ?_ | with_reducible refine mE fun _ => ?_ | with_reducible refine mF fun _ => ?_)
theorem wD_clearGains_33_34_l2_mono  {Q Q' : gM → Prop} (hQ : ∀ y0, Q y0 → Q' y0) : ∀ (z0 : Nat) (z1 : Int32) (z2 : gM), wD_clearGains_33_34_l2 Q z0 z1 z2 → wD_clearGains_33_34_l2 Q' z0 z1 z2 := by
  intro z0
  induction z0 with
  | zero => intro z1 z2 h; exact h
  | succ z0 ih =>
    intro z1 z2
    rw [wD_clearGains_33_34_l2, wD_clearGains_33_34_l2]
    repeat' (first | exact hQ _ | exact ih _ _ | with_reducible exact id | with_reducible refine mA ?_ ?_ | with_reducible refine mE fun _ => ?_ | with_reducible refine mF fun _ => ?_)
theorem wD_clearGains_33_34_mono {σ : gM} {Q Q' : gM → Prop} (hQ : ∀ y0, Q y0 → Q' y0) : wD_clearGains_33_34 σ Q → wD_clearGains_33_34 σ Q' := by
  unfold wD_clearGains_33_34
  repeat' (first | exact hQ _ | with_reducible exact id | with_reducible refine wD_clearGains_33_34_l2_mono (fun _ => ?_) _ _ _ | with_reducible refine mA ?_ ?_ | with_reducible refine mE fun _ => ?_ | with_reducible refine mF fun _ => ?_)
theorem wD_takeEnd_33_34_mono {x3 : Int32} {x4 : Int32} {x5 : Int32} {σ : gM} {Q Q' : Int32 → gM → Prop} (hQ : ∀ y0 y1, Q y0 y1 → Q' y0 y1) : wD_takeEnd_33_34 x3 x4 x5 σ Q → wD_takeEnd_33_34 x3 x4 x5 σ Q' := by
  unfold wD_takeEnd_33_34
  repeat' (first | exact hQ _ _ | with_reducible exact id | with_reducible refine mA ?_ ?_ | with_reducible refine mE fun _ => ?_ | with_reducible refine mF fun _ => ?_)
theorem wD_playWithPass_l61_mono  {Q Q' : gM → Prop} (hQ : ∀ y0, Q y0 → Q' y0) {K26 K26' : Int32 → gM → Prop} (hK26 : ∀ y0 y1, K26 y0 y1 → K26' y0 y1) : ∀ (z0 : Nat) (z1 : Int32) (z2 : Int32) (z3 : Int32) (z4 : Int32) (z5 : gM), wD_playWithPass_l61 Q K26 z0 z1 z2 z3 z4 z5 → wD_playWithPass_l61 Q' K26' z0 z1 z2 z3 z4 z5 := by
  intro z0
  induction z0 with
  | zero => intro z1 z2 z3 z4 z5 h; exact h
  | succ z0 ih =>
    intro z1 z2 z3 z4 z5
    rw [wD_playWithPass_l61, wD_playWithPass_l61]
    repeat' (first | exact hQ _ | exact hK26 _ _ | exact ih _ _ _ _ _ | with_reducible exact id | with_reducible refine wD_takeEnd_33_34_mono (fun _ _ => ?_) | with_reducible refine wD_takeEnd_31_32_mono (fun _ _ => ?_) | with_reducible refine mA ?_ ?_ | with_reducible refine mE fun _ => ?_ | with_reducible refine mF fun _ => ?_)
theorem wD_playWithPass_l26_mono  {Q Q' : gM → Prop} (hQ : ∀ y0, Q y0 → Q' y0) : ∀ (z0 : Nat) (z1 : Int32) (z2 : gM), wD_playWithPass_l26 Q z0 z1 z2 → wD_playWithPass_l26 Q' z0 z1 z2 := by
  intro z0
  induction z0 with
  | zero => intro z1 z2 h; exact h
  | succ z0 ih =>
    intro z1 z2
    rw [wD_playWithPass_l26, wD_playWithPass_l26]
    repeat' (first | exact hQ _ | exact ih _ _ | with_reducible exact id | with_reducible refine wD_isTurnOfA_mono (fun _ _ => ?_) | with_reducible refine wD_playWithPass_l61_mono (fun _ => ?_) (fun _ _ => ?_) _ _ _ _ _ _ | with_reducible refine mA ?_ ?_ | with_reducible refine mE fun _ => ?_ | with_reducible refine mF fun _ => ?_)
theorem wD_playWithPass_mono {σ : gM} {Q Q' : gM → Prop} (hQ : ∀ y0, Q y0 → Q' y0) : wD_playWithPass σ Q → wD_playWithPass σ Q' := by
  unfold wD_playWithPass
  repeat' (first | exact hQ _ | with_reducible exact id | with_reducible refine wD_clearGains_31_32_mono (fun _ => ?_) | with_reducible refine wD_clearGains_33_34_mono (fun _ => ?_) | with_reducible refine wD_playWithPass_l26_mono (fun _ => ?_) _ _ _ | with_reducible refine mA ?_ ?_ | with_reducible refine mE fun _ => ?_ | with_reducible refine mF fun _ => ?_)
theorem wH_passBy_mono {x1 : Int32} {x2 : Int32} {σ : gM} {Q Q' : Int32 → gM → Prop} (hQ : ∀ y0 y1, Q y0 y1 → Q' y0 y1) : wH_passBy x1 x2 σ Q → wH_passBy x1 x2 σ Q' := by
  unfold wH_passBy
  repeat' (first | exact hQ _ _ | with_reducible exact id | with_reducible refine wH_areNoTwo_mono (fun _ _ => ?_) | with_reducible refine wD_seat_mono (fun _ => ?_) | with_reducible refine wD_lineUpFrom_mono (fun _ => ?_) | with_reducible refine wD_play_mono (fun _ => ?_) | with_reducible refine wD_gainOfA_mono (fun _ _ => ?_) | with_reducible refine wD_playWithPass_mono (fun _ => ?_) | with_reducible refine mA ?_ ?_ | with_reducible refine mE fun _ => ?_ | with_reducible refine mF fun _ => ?_)
theorem wD_swap_mono {x1 : Int32} {x2 : Int32} {σ : gM} {Q Q' : gM → Prop} (hQ : ∀ y0, Q y0 → Q' y0) : wD_swap x1 x2 σ Q → wD_swap x1 x2 σ Q' := by
  unfold wD_swap
  repeat' (first | exact hQ _ | with_reducible exact id | with_reducible refine mA ?_ ?_ | with_reducible refine mE fun _ => ?_ | with_reducible refine mF fun _ => ?_)
theorem wD_sortHeap_l12_mono  {Q Q' : gM → Prop} (hQ : ∀ y0, Q y0 → Q' y0) {K2 K2' : Int32 → gM → Prop} (hK2 : ∀ y0 y1, K2 y0 y1 → K2' y0 y1) : ∀ (z0 : Nat) (z1 : Int32) (z2 : Int32) (z3 : gM), wD_sortHeap_l12 Q K2 z0 z1 z2 z3 → wD_sortHeap_l12 Q' K2' z0 z1 z2 z3 := by
  intro z0
  induction z0 with
  | zero => intro z1 z2 z3 h; exact h
  | succ z0 ih =>
    intro z1 z2 z3
    rw [wD_sortHeap_l12, wD_sortHeap_l12]
    repeat' (first | exact hQ _ | exact hK2 _ _ | exact ih _ _ _ | with_reducible exact id | with_reducible refine wD_swap_mono (fun _ => ?_) | with_reducible refine mA ?_ ?_ | with_reducible refine mE fun _ => ?_ | with_reducible refine mF fun _ => ?_)
theorem wD_sortHeap_l2_mono  {Q Q' : gM → Prop} (hQ : ∀ y0, Q y0 → Q' y0) : ∀ (z0 : Nat) (z1 : Int32) (z2 : gM), wD_sortHeap_l2 Q z0 z1 z2 → wD_sortHeap_l2 Q' z0 z1 z2 := by
  intro z0
  induction z0 with
  | zero => intro z1 z2 h; exact h
  | succ z0 ih =>
    intro z1 z2
    rw [wD_sortHeap_l2, wD_sortHeap_l2]
    repeat' (first | exact hQ _ | exact ih _ _ | with_reducible exact id | with_reducible refine wD_sortHeap_l12_mono (fun _ => ?_) (fun _ _ => ?_) _ _ _ _ | with_reducible refine mA ?_ ?_ | with_reducible refine mE fun _ => ?_ | with_reducible refine mF fun _ => ?_)
theorem wD_sortHeap_mono {σ : gM} {Q Q' : gM → Prop} (hQ : ∀ y0, Q y0 → Q' y0) : wD_sortHeap σ Q → wD_sortHeap σ Q' := by
  unfold wD_sortHeap
  repeat' (first | exact hQ _ | with_reducible exact id | with_reducible refine wD_sortHeap_l2_mono (fun _ => ?_) _ _ _ | with_reducible refine mA ?_ ?_ | with_reducible refine mE fun _ => ?_ | with_reducible refine mF fun _ => ?_)
theorem wD_goToNextOrder_l91_mono  {Q Q' : Int32 → gM → Prop} (hQ : ∀ y0 y1, Q y0 y1 → Q' y0 y1) : ∀ (z0 : Nat) (z1 : Int32) (z2 : Int32) (z3 : gM), wD_goToNextOrder_l91 Q z0 z1 z2 z3 → wD_goToNextOrder_l91 Q' z0 z1 z2 z3 := by
  intro z0
  induction z0 with
  | zero => intro z1 z2 z3 h; exact h
  | succ z0 ih =>
    intro z1 z2 z3
    rw [wD_goToNextOrder_l91, wD_goToNextOrder_l91]
    repeat' (first | exact hQ _ _ | exact ih _ _ _ | with_reducible exact id | with_reducible refine wD_swap_mono (fun _ => ?_) | with_reducible refine mA ?_ ?_ | with_reducible refine mE fun _ => ?_ | with_reducible refine mF fun _ => ?_)
theorem wD_goToNextOrder_b73_mono {x1 : Int32} {x2 : Int32} {σ : gM} {Q Q' : Int32 → gM → Prop} (hQ : ∀ y0 y1, Q y0 y1 → Q' y0 y1) : wD_goToNextOrder_b73 Q x1 x2 σ → wD_goToNextOrder_b73 Q' x1 x2 σ := by
  unfold wD_goToNextOrder_b73
  repeat' (first | exact hQ _ _ | with_reducible exact id | with_reducible refine wD_swap_mono (fun _ => ?_) | with_reducible refine wD_goToNextOrder_l91_mono (fun _ _ => ?_) _ _ _ _ | with_reducible refine mA ?_ ?_ | with_reducible refine mE fun _ => ?_ | with_reducible refine mF fun _ => ?_)
theorem wD_goToNextOrder_l47_mono  {Q Q' : Int32 → gM → Prop} (hQ : ∀ y0 y1, Q y0 y1 → Q' y0 y1) : ∀ (z0 : Nat) (z1 : Int32) (z2 : Int32) (z3 : gM), wD_goToNextOrder_l47 Q z0 z1 z2 z3 → wD_goToNextOrder_l47 Q' z0 z1 z2 z3 := by
  intro z0
  induction z0 with
  | zero => intro z1 z2 z3 h; exact h
  | succ z0 ih =>
    intro z1 z2 z3
    rw [wD_goToNextOrder_l47, wD_goToNextOrder_l47]
    repeat' (first | exact hQ _ _ | exact ih _ _ _ | with_reducible exact id | with_reducible refine wD_goToNextOrder_b73_mono (fun _ _ => ?_) | with_reducible refine mA ?_ ?_ | with_reducible refine mE fun _ => ?_ | with_reducible refine mF fun _ => ?_)
theorem wD_goToNextOrder_b34_mono {x1 : Int32} {σ : gM} {Q Q' : Int32 → gM → Prop} (hQ : ∀ y0 y1, Q y0 y1 → Q' y0 y1) : wD_goToNextOrder_b34 Q x1 σ → wD_goToNextOrder_b34 Q' x1 σ := by
  unfold wD_goToNextOrder_b34
  repeat' (first | exact hQ _ _ | with_reducible exact id | with_reducible refine wD_goToNextOrder_l47_mono (fun _ _ => ?_) _ _ _ _ | with_reducible refine mA ?_ ?_ | with_reducible refine mE fun _ => ?_ | with_reducible refine mF fun _ => ?_)
theorem wD_goToNextOrder_l7_mono  {Q Q' : Int32 → gM → Prop} (hQ : ∀ y0 y1, Q y0 y1 → Q' y0 y1) : ∀ (z0 : Nat) (z1 : Int32) (z2 : gM), wD_goToNextOrder_l7 Q z0 z1 z2 → wD_goToNextOrder_l7 Q' z0 z1 z2 := by
  intro z0
  induction z0 with
  | zero => intro z1 z2 h; exact h
  | succ z0 ih =>
    intro z1 z2
    rw [wD_goToNextOrder_l7, wD_goToNextOrder_l7]
    repeat' (first | exact hQ _ _ | exact ih _ _ | with_reducible exact id | with_reducible refine wD_goToNextOrder_b34_mono (fun _ _ => ?_) | with_reducible refine mA ?_ ?_ | with_reducible refine mE fun _ => ?_ | with_reducible refine mF fun _ => ?_)
theorem wD_goToNextOrder_mono {σ : gM} {Q Q' : Int32 → gM → Prop} (hQ : ∀ y0 y1, Q y0 y1 → Q' y0 y1) : wD_goToNextOrder σ Q → wD_goToNextOrder σ Q' := by
  unfold wD_goToNextOrder
  repeat' (first | exact hQ _ _ | with_reducible exact id | with_reducible refine wD_goToNextOrder_l7_mono (fun _ _ => ?_) _ _ _ | with_reducible refine mA ?_ ?_ | with_reducible refine mE fun _ => ?_ | with_reducible refine mF fun _ => ?_)
theorem wD_findLaid_l10_mono  {Q Q' : Int32 → gM → Prop} (hQ : ∀ y0 y1, Q y0 y1 → Q' y0 y1) : ∀ (z0 : Nat) (z1 : Int32) (z2 : Int32) (z3 : Int32) (z4 : gM), wD_findLaid_l10 Q z0 z1 z2 z3 z4 → wD_findLaid_l10 Q' z0 z1 z2 z3 z4 := by
  intro z0
  induction z0 with
  | zero => intro z1 z2 z3 z4 h; exact h
  | succ z0 ih =>
    intro z1 z2 z3 z4
    rw [wD_findLaid_l10, wD_findLaid_l10]
    repeat' (first | exact hQ _ _ | exact ih _ _ _ _ | with_reducible exact id | with_reducible refine wD_lineUpFrom_mono (fun _ => ?_) | with_reducible refine wD_play_mono (fun _ => ?_) | with_reducible refine wD_goToNextOrder_mono (fun _ _ => ?_) | with_reducible refine mA ?_ ?_ | with_reducible refine mE fun _ => ?_ | with_reducible refine mF fun _ => ?_)
theorem wD_findLaid_mono {σ : gM} {Q Q' : Int32 → gM → Prop} (hQ : ∀ y0 y1, Q y0 y1 → Q' y0 y1) : wD_findLaid σ Q → wD_findLaid σ Q' := by
  unfold wD_findLaid
  repeat' (first | exact hQ _ _ | with_reducible exact id | with_reducible refine wD_sortHeap_mono (fun _ => ?_) | with_reducible refine wD_findLaid_l10_mono (fun _ _ => ?_) _ _ _ _ _ | with_reducible refine mA ?_ ?_ | with_reducible refine mE fun _ => ?_ | with_reducible refine mF fun _ => ?_)
theorem wH_laid_mono {x1 : Int32} {x2 : Int32} {x3 : Int32} {σ : gM} {Q Q' : Int32 → gM → Prop} (hQ : ∀ y0 y1, Q y0 y1 → Q' y0 y1) : wH_laid x1 x2 x3 σ Q → wH_laid x1 x2 x3 σ Q' := by
  unfold wH_laid
  repeat' (first | exact hQ _ _ | with_reducible exact id | with_reducible refine wH_areNoTwo_mono (fun _ _ => ?_) | with_reducible refine wD_seat_mono (fun _ => ?_) | with_reducible refine wD_findLaid_mono (fun _ _ => ?_) | with_reducible refine mA ?_ ?_ | with_reducible refine mE fun _ => ?_ | with_reducible refine mF fun _ => ?_)
theorem wD_findCut_l4_mono  {Q Q' : Int32 → gM → Prop} (hQ : ∀ y0 y1, Q y0 y1 → Q' y0 y1) : ∀ (z0 : Nat) (z1 : Int32) (z2 : Int32) (z3 : gM), wD_findCut_l4 Q z0 z1 z2 z3 → wD_findCut_l4 Q' z0 z1 z2 z3 := by
  intro z0
  induction z0 with
  | zero => intro z1 z2 z3 h; exact h
  | succ z0 ih =>
    intro z1 z2 z3
    rw [wD_findCut_l4, wD_findCut_l4]
    repeat' (first | exact hQ _ _ | exact ih _ _ _ | with_reducible exact id | with_reducible refine wD_lineUpFrom_mono (fun _ => ?_) | with_reducible refine wD_play_mono (fun _ => ?_) | with_reducible refine mA ?_ ?_ | with_reducible refine mE fun _ => ?_ | with_reducible refine mF fun _ => ?_)
theorem wD_findCut_mono {σ : gM} {Q Q' : Int32 → gM → Prop} (hQ : ∀ y0 y1, Q y0 y1 → Q' y0 y1) : wD_findCut σ Q → wD_findCut σ Q' := by
  unfold wD_findCut
  repeat' (first | exact hQ _ _ | with_reducible exact id | with_reducible refine wD_findCut_l4_mono (fun _ _ => ?_) _ _ _ _ | with_reducible refine mA ?_ ?_ | with_reducible refine mE fun _ => ?_ | with_reducible refine mF fun _ => ?_)
theorem wH_ring_mono {x1 : Int32} {x2 : Int32} {x3 : Int32} {σ : gM} {Q Q' : Int32 → gM → Prop} (hQ : ∀ y0 y1, Q y0 y1 → Q' y0 y1) : wH_ring x1 x2 x3 σ Q → wH_ring x1 x2 x3 σ Q' := by
  unfold wH_ring
  repeat' (first | exact hQ _ _ | with_reducible exact id | with_reducible refine wH_areNoTwo_mono (fun _ _ => ?_) | with_reducible refine wD_seat_mono (fun _ => ?_) | with_reducible refine wD_findCut_mono (fun _ _ => ?_) | with_reducible refine mA ?_ ?_ | with_reducible refine mE fun _ => ?_ | with_reducible refine mF fun _ => ?_)
theorem wR_isBelow_l3_mono {r : Nat} {Q Q' : Int32 → gM → Prop} (hQ : ∀ y0 y1, Q y0 y1 → Q' y0 y1) : ∀ (z0 : Nat) (z1 : Int32) (z2 : Int32) (z3 : Int32) (z4 : Int32) (z5 : gM), wR_isBelow_l3 r Q z0 z1 z2 z3 z4 z5 → wR_isBelow_l3 r Q' z0 z1 z2 z3 z4 z5 := by
  intro z0
  induction z0 with
  | zero => intro z1 z2 z3 z4 z5 h; exact h
  | succ z0 ih =>
    intro z1 z2 z3 z4 z5
    rw [wR_isBelow_l3, wR_isBelow_l3]
    repeat' (first | exact hQ _ _ | exact ih _ _ _ _ _ | with_reducible exact id | with_reducible refine mA ?_ ?_ | with_reducible refine mE fun _ => ?_ | with_reducible refine mF fun _ => ?_)
theorem wR_isBelow_mono {r : Nat} {x1 : Int32} {x2 : Int32} {x3 : Int32} {σ : gM} {Q Q' : Int32 → gM → Prop} (hQ : ∀ y0 y1, Q y0 y1 → Q' y0 y1) : wR_isBelow r x1 x2 x3 σ Q → wR_isBelow r x1 x2 x3 σ Q' := by
  unfold wR_isBelow
  repeat' (first | exact hQ _ _ | with_reducible exact id | with_reducible refine wR_isBelow_l3_mono (fun _ _ => ?_) _ _ _ _ _ _ | with_reducible refine mA ?_ ?_ | with_reducible refine mE fun _ => ?_ | with_reducible refine mF fun _ => ?_)
theorem wS_behindLine_row_l17_mono {r : Nat} {Q Q' : Int32 → gM → Prop} (hQ : ∀ y0 y1, Q y0 y1 → Q' y0 y1) : ∀ (z0 : Nat) (z1 : Int32) (z2 : Int32) (z3 : Int32) (z4 : Int32) (z5 : Int32) (z6 : Int32) (z7 : Int32) (z8 : gM), wS_behindLine_row_l17 r Q z0 z1 z2 z3 z4 z5 z6 z7 z8 → wS_behindLine_row_l17 r Q' z0 z1 z2 z3 z4 z5 z6 z7 z8 := by
  intro z0
  induction z0 with
  | zero => intro z1 z2 z3 z4 z5 z6 z7 z8 h; exact h
  | succ z0 ih =>
    intro z1 z2 z3 z4 z5 z6 z7 z8
    rw [wS_behindLine_row_l17, wS_behindLine_row_l17]
    repeat' (first | exact hQ _ _ | exact ih _ _ _ _ _ _ _ _ | with_reducible exact id | with_reducible refine wK42_valueTo_mono (fun _ _ => ?_) | with_reducible refine mA ?_ ?_ | with_reducible refine mE fun _ => ?_ | with_reducible refine mF fun _ => ?_)
theorem wS_behindLine_row_mono {r : Nat} {x3 : Int32} {x4 : Int32} {x5 : Int32} {σ : gM} {Q Q' : Int32 → gM → Prop} (hQ : ∀ y0 y1, Q y0 y1 → Q' y0 y1) : wS_behindLine_row r x3 x4 x5 σ Q → wS_behindLine_row r x3 x4 x5 σ Q' := by
  unfold wS_behindLine_row
  repeat' (first | exact hQ _ _ | with_reducible exact id | with_reducible refine wS_behindLine_row_l17_mono (fun _ _ => ?_) _ _ _ _ _ _ _ _ _ | with_reducible refine mA ?_ ?_ | with_reducible refine mE fun _ => ?_ | with_reducible refine mF fun _ => ?_)
theorem wH_line_mono {x1 : Int32} {x2 : Int32} {x3 : Int32} {x4 : Int32} {σ : gM} {Q Q' : Int32 → gM → Prop} (hQ : ∀ y0 y1, Q y0 y1 → Q' y0 y1) : wH_line x1 x2 x3 x4 σ Q → wH_line x1 x2 x3 x4 σ Q' := by
  unfold wH_line
  repeat' (first | exact hQ _ _ | with_reducible exact id | with_reducible refine wH_isNoRow_mono (fun _ _ => ?_) | with_reducible refine wH_findingOf_mono (fun _ _ => ?_) | with_reducible refine wR_isBelow_mono (fun _ _ => ?_) | with_reducible refine wS_behindLine_row_mono (fun _ _ => ?_) | with_reducible refine wH_unfound_mono (fun _ _ => ?_) | with_reducible refine wH_found_mono (fun _ _ => ?_) | with_reducible refine mA ?_ ?_ | with_reducible refine mE fun _ => ?_ | with_reducible refine mF fun _ => ?_)
theorem wJI_bitCount_mono {x0 : Int32} {σ : gM} {Q Q' : Int32 → gM → Prop} (hQ : ∀ y0 y1, Q y0 y1 → Q' y0 y1) : wJI_bitCount x0 σ Q → wJI_bitCount x0 σ Q' := by
  unfold wJI_bitCount
  repeat' (first | exact hQ _ _ | with_reducible exact id | with_reducible refine mA ?_ ?_ | with_reducible refine mE fun _ => ?_ | with_reducible refine mF fun _ => ?_)
theorem wK42_bitsAtEnds_mono {σ : gM} {Q Q' : Int32 → gM → Prop} (hQ : ∀ y0 y1, Q y0 y1 → Q' y0 y1) : wK42_bitsAtEnds σ Q → wK42_bitsAtEnds σ Q' := by
  unfold wK42_bitsAtEnds
  repeat' (first | exact hQ _ _ | with_reducible exact id | with_reducible refine wK42_wareAt_mono (fun _ _ => ?_) | with_reducible refine mA ?_ ?_ | with_reducible refine mE fun _ => ?_ | with_reducible refine mF fun _ => ?_)
theorem wH_rots_mono {x1 : Int32} {x2 : Int32} {σ : gM} {Q Q' : Int32 → gM → Prop} (hQ : ∀ y0 y1, Q y0 y1 → Q' y0 y1) : wH_rots x1 x2 σ Q → wH_rots x1 x2 σ Q' := by
  unfold wH_rots
  repeat' (first | exact hQ _ _ | with_reducible exact id | with_reducible refine wK42_rottenIn_mono (fun _ _ => ?_) | with_reducible refine wJI_bitCount_mono (fun _ _ => ?_) | with_reducible refine wK42_bitsAtEnds_mono (fun _ _ => ?_) | with_reducible refine mA ?_ ?_ | with_reducible refine mE fun _ => ?_ | with_reducible refine mF fun _ => ?_)
