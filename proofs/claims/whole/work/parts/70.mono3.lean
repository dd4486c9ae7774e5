theorem wM_set_mono {x1 : Int32} {x2 : Int32} {x3 : Int32} {σ : gM} {Q Q' : Int32 → gM → Prop} (hQ : ∀ y0 y1, Q y0 y1 → Q' y0 y1) : wM_set x1 x2 x3 σ Q → wM_set x1 x2 x3 σ Q' := by
  unfold wM_set
  repeat' (first | exact hQ _ _ | with_reducible exact id | with_reducible refine wM_isRow_mono (fun _ _ => ?_) | with_reducible refine wM_isNull_mono (fun _ _ => ?_) | with_reducible refine wM_in_mono (fun _ _ => ?_) | with_reducible refine wM_finds_mono (fun _ _ => ?_) | with_reducible refine wM_did_mono (fun _ _ => ?_) | with_reducible refine mA ?_ ?_ | with_reducible refine mE fun _ => ?_ | with_reducible refine mF fun _ => ?_)
theorem wM_copy_l175_mono  {Q Q' : Int32 → gM → Prop} (hQ : ∀ y0 y1, Q y0 y1 → Q' y0 y1) : ∀ (z0 : Nat) (z1 : Int32) (z2 : Int32) (z3 : Int32) (z4 : Int32) (z5 : Int32) (z6 : Int32) (z7 : gM), wM_copy_l175 Q z0 z1 z2 z3 z4 z5 z6 z7 → wM_copy_l175 Q' z0 z1 z2 z3 z4 z5 z6 z7 := by
  intro z0
  induction z0 with
  | zero => intro z1 z2 z3 z4 z5 z6 z7 h; exact h
  | succ z0 ih =>
    intro z1 z2 z3 z4 z5 z6 z7
    rw [wM_copy_l175, wM_copy_l175]
    repeat' (first | exact hQ _ _ | exact ih _ _ _ _ _ _ _ | with_reducible exact id | with_reducible refine wM_did_mono (fun _ _ => ?_) | with_reducible refine mA ?_ ?_ | with_reducible refine mE fun _ => ?_ | with_reducible refine mF fun _ => ?_)
theorem wM_copy_l129_mono  {Q Q' : Int32 → gM → Prop} (hQ : ∀ y0 y1, Q y0 y1 → Q' y0 y1) : ∀ (z0 : Nat) (z1 : Int32) (z2 : Int32) (z3 : Int32) (z4 : Int32) (z5 : Int32) (z6 : Int32) (z7 : gM), wM_copy_l129 Q z0 z1 z2 z3 z4 z5 z6 z7 → wM_copy_l129 Q' z0 z1 z2 z3 z4 z5 z6 z7 := by
  intro z0
  induction z0 with
  | zero => intro z1 z2 z3 z4 z5 z6 z7 h; exact h
  | succ z0 ih =>
    intro z1 z2 z3 z4 z5 z6 z7
    rw [wM_copy_l129, wM_copy_l129]
    repeat' (first | exact hQ _ _ | exact ih _ _ _ _ _ _ _ | with_reducible exact id | with_reducible refine wM_did_mono (fun _ _ => ?_) | with_reducible refine mA ?_ ?_ | with_reducible refine mE fun _ => ?_ | with_reducible refine mF fun _ => ?_)
theorem wM_copy_mono {x1 : Int32} {x2 : Int32} {x3 : Int32} {x4 : Int32} {x5 : Int32} {σ : gM} {Q Q' : Int32 → gM → Prop} (hQ : ∀ y0 y1, Q y0 y1 → Q' y0 y1) : wM_copy x1 x2 x3 x4 x5 σ Q → wM_copy x1 x2 x3 x4 x5 σ Q' := by
  unfold wM_copy
  repeat' (first | exact hQ _ _ | with_reducible exact id | with_reducible refine wM_isRow_mono (fun _ _ => ?_) | with_reducible refine wM_isNull_mono (fun _ _ => ?_) | with_reducible refine wM_finds_mono (fun _ _ => ?_) | with_reducible refine wM_copy_l175_mono (fun _ _ => ?_) _ _ _ _ _ _ _ _ | with_reducible refine wM_copy_l129_mono (fun _ _ => ?_) _ _ _ _ _ _ _ _ | with_reducible refine mA ?_ ?_ | with_reducible refine mE fun _ => ?_ | with_reducible refine mF fun _ => ?_)
theorem wM_drop_mono {x1 : Int32} {σ : gM} {Q Q' : Int32 → gM → Prop} (hQ : ∀ y0 y1, Q y0 y1 → Q' y0 y1) : wM_drop x1 σ Q → wM_drop x1 σ Q' := by
  unfold wM_drop
  repeat' (first | exact hQ _ _ | with_reducible exact id | with_reducible refine wM_isRow_mono (fun _ _ => ?_) | with_reducible refine wM_isNull_mono (fun _ _ => ?_) | with_reducible refine wM_did_mono (fun _ _ => ?_) | with_reducible refine wM_finds_mono (fun _ _ => ?_) | with_reducible refine mA ?_ ?_ | with_reducible refine mE fun _ => ?_ | with_reducible refine mF fun _ => ?_)
theorem wM_feed_l31_mono  {Q Q' : Int32 → gM → Prop} (hQ : ∀ y0 y1, Q y0 y1 → Q' y0 y1) : ∀ (z0 : Nat) (z1 : Int64) (z2 : Int32) (z3 : Int32) (z4 : gM), wM_feed_l31 Q z0 z1 z2 z3 z4 → wM_feed_l31 Q' z0 z1 z2 z3 z4 := by
  intro z0
  induction z0 with
  | zero => intro z1 z2 z3 z4 h; exact h
  | succ z0 ih =>
    intro z1 z2 z3 z4
    rw [wM_feed_l31, wM_feed_l31]
    repeat' (first | exact hQ _ _ | exact ih _ _ _ _ | with_reducible exact id | with_reducible refine mA ?_ ?_ | with_reducible refine mE fun _ => ?_ | with_reducible refine mF fun _ => ?_)
theorem wM_feed_mono {x1 : Int64} {x3 : Int32} {σ : gM} {Q Q' : Int32 → gM → Prop} (hQ : ∀ y0 y1, Q y0 y1 → Q' y0 y1) : wM_feed x1 x3 σ Q → wM_feed x1 x3 σ Q' := by
  unfold wM_feed
  repeat' (first | exact hQ _ _ | with_reducible exact id | with_reducible refine wM_in_mono (fun _ _ => ?_) | with_reducible refine wM_feed_l31_mono (fun _ _ => ?_) _ _ _ _ _ | with_reducible refine mA ?_ ?_ | with_reducible refine mE fun _ => ?_ | with_reducible refine mF fun _ => ?_)
theorem wM_nextToken_l255_mono  {Q Q' : gM → Prop} (hQ : ∀ y0, Q y0 → Q' y0) : ∀ (z0 : Nat) (z1 : gM), wM_nextToken_l255 Q z0 z1 → wM_nextToken_l255 Q' z0 z1 := by
  intro z0
  induction z0 with
  | zero => intro z1 h; exact h
  | succ z0 ih =>
    intro z1
    rw [wM_nextToken_l255, wM_nextToken_l255]
    repeat' (first | exact hQ _ | exact ih _ | with_reducible exact id | with_reducible refine wM_in_mono (fun _ _ => ?_) | with_reducible refine mA ?_ ?_ | with_reducible refine mE fun _ => ?_ | with_reducible refine mF fun _ => ?_)
theorem wM_nextToken_b205_mono {σ : gM} {Q Q' : gM → Prop} (hQ : ∀ y0, Q y0 → Q' y0) : wM_nextToken_b205 Q σ → wM_nextToken_b205 Q' σ := by
  unfold wM_nextToken_b205
  repeat' (first | exact hQ _ | with_reducible exact id | with_reducible refine mA ?_ ?_ | with_reducible refine mE fun _ => ?_ | with_reducible refine mF fun _ => ?_)
theorem wM_nextToken_l115_mono  {Q Q' : gM → Prop} (hQ : ∀ y0, Q y0 → Q' y0) : ∀ (z0 : Nat) (z1 : gM), wM_nextToken_l115 Q z0 z1 → wM_nextToken_l115 Q' z0 z1 := by
  intro z0
  induction z0 with
  | zero => intro z1 h; exact h
  | succ z0 ih =>
    intro z1
    rw [wM_nextToken_l115, wM_nextToken_l115]
    repeat' (first | exact hQ _ | exact ih _ | with_reducible exact id | with_reducible refine wM_nextToken_b205_mono (fun _ => ?_) | with_reducible refine wM_in_mono (fun _ _ => ?_) | with_reducible refine mA ?_ ?_ | with_reducible refine mE fun _ => ?_ | with_reducible refine mF fun _ => ?_)
theorem wM_nextToken_b52_mono {σ : gM} {Q Q' : gM → Prop} (hQ : ∀ y0, Q y0 → Q' y0) : wM_nextToken_b52 Q σ → wM_nextToken_b52 Q' σ := by
  unfold wM_nextToken_b52
  repeat' (first | exact hQ _ | with_reducible exact id | with_reducible refine wM_in_mono (fun _ _ => ?_) | with_reducible refine wM_nextToken_l255_mono (fun _ => ?_) _ _ | with_reducible refine wM_nextToken_l115_mono (fun _ => ?_) _ _ | with_reducible refine mA ?_ ?_ | with_reducible refine mE fun _ => ?_ | with_reducible refine mF fun _ => ?_)
theorem wM_nextToken_l0_mono  {Q Q' : gM → Prop} (hQ : ∀ y0, Q y0 → Q' y0) : ∀ (z0 : Nat) (z1 : gM), wM_nextToken_l0 Q z0 z1 → wM_nextToken_l0 Q' z0 z1 := by
  intro z0
  induction z0 with
  | zero => intro z1 h; exact h
  | succ z0 ih =>
    intro z1
    rw [wM_nextToken_l0, wM_nextToken_l0]
    repeat' (first | exact hQ _ | exact ih _ | with_reducible exact id | with_reducible refine wM_nextToken_b52_mono (fun _ => ?_) | with_reducible refine mA ?_ ?_ | with_reducible refine mE fun _ => ?_ | with_reducible refine mF fun _ => ?_)
theorem wM_nextToken_mono {σ : gM} {Q Q' : gM → Prop} (hQ : ∀ y0, Q y0 → Q' y0) : wM_nextToken σ Q → wM_nextToken σ Q' := by
  unfold wM_nextToken
  repeat' (first | exact hQ _ | with_reducible exact id | with_reducible refine wM_nextToken_l0_mono (fun _ => ?_) _ _ | with_reducible refine mA ?_ ?_ | with_reducible refine mE fun _ => ?_ | with_reducible refine mF fun _ => ?_)
theorem wM_fails_mono {x1 : Int32} {σ : gM} {Q Q' : Int32 → gM → Prop} (hQ : ∀ y0 y1, Q y0 y1 → Q' y0 y1) : wM_fails x1 σ Q → wM_fails x1 σ Q' := by
  unfold wM_fails
  repeat' (first | exact hQ _ _ | with_reducible exact id | with_reducible refine mA ?_ ?_ | with_reducible refine mE fun _ => ?_ | with_reducible refine mF fun _ => ?_)
theorem wM_isNext_mono {x1 : Int32} {x2 : Int32} {σ : gM} {Q Q' : Int32 → gM → Prop} (hQ : ∀ y0 y1, Q y0 y1 → Q' y0 y1) : wM_isNext x1 x2 σ Q → wM_isNext x1 x2 σ Q' := by
  unfold wM_isNext
  repeat' (first | exact hQ _ _ | with_reducible exact id | with_reducible refine wM_nextToken_mono (fun _ => ?_) | with_reducible refine wM_in_mono (fun _ _ => ?_) | with_reducible refine wM_fails_mono (fun _ _ => ?_) | with_reducible refine mA ?_ ?_ | with_reducible refine mE fun _ => ?_ | with_reducible refine mF fun _ => ?_)
theorem wM_ends_mono {σ : gM} {Q Q' : Int32 → gM → Prop} (hQ : ∀ y0 y1, Q y0 y1 → Q' y0 y1) : wM_ends σ Q → wM_ends σ Q' := by
  unfold wM_ends
  repeat' (first | exact hQ _ _ | with_reducible exact id | with_reducible refine wM_nextToken_mono (fun _ => ?_) | with_reducible refine wM_fails_mono (fun _ _ => ?_) | with_reducible refine mA ?_ ?_ | with_reducible refine mE fun _ => ?_ | with_reducible refine mF fun _ => ?_)
theorem wM_isBuyer_mono {σ : gM} {Q Q' : Int32 → gM → Prop} (hQ : ∀ y0 y1, Q y0 y1 → Q' y0 y1) : wM_isBuyer σ Q → wM_isBuyer σ Q' := by
  unfold wM_isBuyer
  repeat' (first | exact hQ _ _ | with_reducible exact id | with_reducible refine wM_fails_mono (fun _ _ => ?_) | with_reducible refine wM_isNext_mono (fun _ _ => ?_) | with_reducible refine wM_ends_mono (fun _ _ => ?_) | with_reducible refine mA ?_ ?_ | with_reducible refine mE fun _ => ?_ | with_reducible refine mF fun _ => ?_)
theorem wM_isWare_mono {σ : gM} {Q Q' : Int32 → gM → Prop} (hQ : ∀ y0 y1, Q y0 y1 → Q' y0 y1) : wM_isWare σ Q → wM_isWare σ Q' := by
  unfold wM_isWare
  repeat' (first | exact hQ _ _ | with_reducible exact id | with_reducible refine wM_fails_mono (fun _ _ => ?_) | with_reducible refine wM_nextToken_mono (fun _ => ?_) | with_reducible refine wM_isNext_mono (fun _ _ => ?_) | with_reducible refine wM_ends_mono (fun _ _ => ?_) | with_reducible refine mA ?_ ?_ | with_reducible refine mE fun _ => ?_ | with_reducible refine mF fun _ => ?_)
theorem wM_isRead_b107_mono {σ : gM} {Q Q' : Int32 → gM → Prop} (hQ : ∀ y0 y1, Q y0 y1 → Q' y0 y1) {K60 K60' : Int32 → gM → Prop} (hK60 : ∀ y0 y1, K60 y0 y1 → K60' y0 y1) : wM_isRead_b107 Q K60 σ → wM_isRead_b107 Q' K60' σ := by
  unfold wM_isRead_b107
  repeat' (first | exact hQ _ _ | exact hK60 _ _ | with_reducible exact id | with_reducible refine wM_isWare_mono (fun _ _ => ?_) | with_reducible refine wM_fails_mono (fun _ _ => ?_) | with_reducible refine mA ?_ ?_ | with_reducible refine mE fun _ => ?_ | with_reducible refine mF fun _ => ?_)
theorem wM_isRead_l60_mono  {Q Q' : Int32 → gM → Prop} (hQ : ∀ y0 y1, Q y0 y1 → Q' y0 y1) : ∀ (z0 : Nat) (z1 : Int32) (z2 : gM), wM_isRead_l60 Q z0 z1 z2 → wM_isRead_l60 Q' z0 z1 z2 := by
  intro z0
  induction z0 with
  | zero => intro z1 z2 h; exact h
  | succ z0 ih =>
    intro z1 z2
    rw [wM_isRead_l60, wM_isRead_l60]
    repeat' (first | exact hQ _ _ | exact ih _ _ | with_reducible exact id | with_reducible refine wM_nextToken_mono (fun _ => ?_) | with_reducible refine wM_isBuyer_mono (fun _ _ => ?_) | with_reducible refine wM_isRead_b107_mono (fun _ _ => ?_) (fun _ _ => ?_) | with_reducible refine mA ?_ ?_ | with_reducible refine mE fun _ => ?_ | with_reducible refine mF fun _ => ?_)
theorem wM_isRead_mono {σ : gM} {Q Q' : Int32 → gM → Prop} (hQ : ∀ y0 y1, Q y0 y1 → Q' y0 y1) : wM_isRead σ Q → wM_isRead σ Q' := by
  unfold wM_isRead
  repeat' (first | exact hQ _ _ | with_reducible exact id | with_reducible refine wM_nextToken_mono (fun _ => ?_) | with_reducible refine wM_isNext_mono (fun _ _ => ?_) | with_reducible refine wM_ends_mono (fun _ _ => ?_) | with_reducible refine wM_isRead_l60_mono (fun _ _ => ?_) _ _ _ | with_reducible refine wM_fails_mono (fun _ _ => ?_) | with_reducible refine mA ?_ ?_ | with_reducible refine mE fun _ => ?_ | with_reducible refine mF fun _ => ?_)
theorem wM_market_l160_mono  {Q Q' : Int32 → gM → Prop} (hQ : ∀ y0 y1, Q y0 y1 → Q' y0 y1) {K150 K150' : Int32 → gM → Prop} (hK150 : ∀ y0 y1, K150 y0 y1 → K150' y0 y1) : ∀ (z0 : Nat) (z1 : Int32) (z2 : Int32) (z3 : gM), wM_market_l160 Q K150 z0 z1 z2 z3 → wM_market_l160 Q' K150' z0 z1 z2 z3 := by
  intro z0
  induction z0 with
  | zero => intro z1 z2 z3 h; exact h
  | succ z0 ih =>
    intro z1 z2 z3
    rw [wM_market_l160, wM_market_l160]
    repeat' (first | exact hQ _ _ | exact hK150 _ _ | exact ih _ _ _ | with_reducible exact id | with_reducible refine mA ?_ ?_ | with_reducible refine mE fun _ => ?_ | with_reducible refine mF fun _ => ?_)
theorem wM_market_l150_mono  {Q Q' : Int32 → gM → Prop} (hQ : ∀ y0 y1, Q y0 y1 → Q' y0 y1) : ∀ (z0 : Nat) (z1 : Int32) (z2 : gM), wM_market_l150 Q z0 z1 z2 → wM_market_l150 Q' z0 z1 z2 := by
  intro z0
  induction z0 with
  | zero => intro z1 z2 h; exact h
  | succ z0 ih =>
    intro z1 z2
    rw [wM_market_l150, wM_market_l150]
    repeat' (first | exact hQ _ _ | exact ih _ _ | with_reducible exact id | with_reducible refine wM_market_l160_mono (fun _ _ => ?_) (fun _ _ => ?_) _ _ _ _ | with_reducible refine mA ?_ ?_ | with_reducible refine mE fun _ => ?_ | with_reducible refine mF fun _ => ?_)
theorem wM_market_l92_mono  {Q Q' : Int32 → gM → Prop} (hQ : ∀ y0 y1, Q y0 y1 → Q' y0 y1) : ∀ (z0 : Nat) (z1 : Int32) (z2 : gM), wM_market_l92 Q z0 z1 z2 → wM_market_l92 Q' z0 z1 z2 := by
  intro z0
  induction z0 with
  | zero => intro z1 z2 h; exact h
  | succ z0 ih =>
    intro z1 z2
    rw [wM_market_l92, wM_market_l92]
    repeat' (first | exact hQ _ _ | exact ih _ _ | with_reducible exact id | with_reducible refine wM_market_l150_mono (fun _ _ => ?_) _ _ _ | with_reducible refine mA ?_ ?_ | with_reducible refine mE fun _ => ?_ | with_reducible refine mF fun _ => ?_)
theorem wM_market_l24_mono  {Q Q' : Int32 → gM → Prop} (hQ : ∀ y0 y1, Q y0 y1 → Q' y0 y1) : ∀ (z0 : Nat) (z1 : Int32) (z2 : gM), wM_market_l24 Q z0 z1 z2 → wM_market_l24 Q' z0 z1 z2 := by
  intro z0
  induction z0 with
  | zero => intro z1 z2 h; exact h
  | succ z0 ih =>
    intro z1 z2
    rw [wM_market_l24, wM_market_l24]
    repeat' (first | exact hQ _ _ | exact ih _ _ | with_reducible exact id | with_reducible refine wM_market_l92_mono (fun _ _ => ?_) _ _ _ | with_reducible refine mA ?_ ?_ | with_reducible refine mE fun _ => ?_ | with_reducible refine mF fun _ => ?_)
theorem wM_market_mono {σ : gM} {Q Q' : Int32 → gM → Prop} (hQ : ∀ y0 y1, Q y0 y1 → Q' y0 y1) : wM_market σ Q → wM_market σ Q' := by
  unfold wM_market
  repeat' (first | exact hQ _ _ | with_reducible exact id | with_reducible refine wM_isRead_mono (fun _ _ => ?_) | with_reducible refine wM_market_l24_mono (fun _ _ => ?_) _ _ _ | with_reducible refine mA ?_ ?_ | with_reducible refine mE fun _ => ?_ | with_reducible refine mF fun _ => ?_)
theorem wM_fault_mono {σ : gM} {Q Q' : Int32 → gM → Prop} (hQ : ∀ y0 y1, Q y0 y1 → Q' y0 y1) : wM_fault σ Q → wM_fault σ Q' := by
  unfold wM_fault
  repeat' (first | exact hQ _ _ | with_reducible exact id | with_reducible refine mA ?_ ?_ | with_reducible refine mE fun _ => ?_ | with_reducible refine mF fun _ => ?_)
theorem wM_isBuyerAt_mono {x1 : Int32} {σ : gM} {Q Q' : Int32 → gM → Prop} (hQ : ∀ y0 y1, Q y0 y1 → Q' y0 y1) : wM_isBuyerAt x1 σ Q → wM_isBuyerAt x1 σ Q' := by
  unfold wM_isBuyerAt
  repeat' (first | exact hQ _ _ | with_reducible exact id | with_reducible refine wM_in_mono (fun _ _ => ?_) | with_reducible refine mA ?_ ?_ | with_reducible refine mE fun _ => ?_ | with_reducible refine mF fun _ => ?_)
theorem wM_heap_mono {x1 : Int32} {σ : gM} {Q Q' : Int32 → gM → Prop} (hQ : ∀ y0 y1, Q y0 y1 → Q' y0 y1) : wM_heap x1 σ Q → wM_heap x1 σ Q' := by
  unfold wM_heap
  repeat' (first | exact hQ _ _ | with_reducible exact id | with_reducible refine mA ?_ ?_ | with_reducible refine mE fun _ => ?_ | with_reducible refine mF fun _ => ?_)
theorem wM_kindOf_mono {x1 : Int32} {σ : gM} {Q Q' : Int32 → gM → Prop} (hQ : ∀ y0 y1, Q y0 y1 → Q' y0 y1) : wM_kindOf x1 σ Q → wM_kindOf x1 σ Q' := by
  unfold wM_kindOf
  repeat' (first | exact hQ _ _ | with_reducible exact id | with_reducible refine mA ?_ ?_ | with_reducible refine mE fun _ => ?_ | with_reducible refine mF fun _ => ?_)
theorem wM_valueOf_mono {x1 : Int32} {x2 : Int32} {σ : gM} {Q Q' : Int32 → gM → Prop} (hQ : ∀ y0 y1, Q y0 y1 → Q' y0 y1) : wM_valueOf x1 x2 σ Q → wM_valueOf x1 x2 σ Q' := by
  unfold wM_valueOf
  repeat' (first | exact hQ _ _ | with_reducible exact id | with_reducible refine wM_kindOf_mono (fun _ _ => ?_) | with_reducible refine mA ?_ ?_ | with_reducible refine mE fun _ => ?_ | with_reducible refine mF fun _ => ?_)
theorem wM_isOf_mono {x0 : Int32} {x1 : Int32} {σ : gM} {Q Q' : Int32 → gM → Prop} (hQ : ∀ y0 y1, Q y0 y1 → Q' y0 y1) : wM_isOf x0 x1 σ Q → wM_isOf x0 x1 σ Q' := by
  unfold wM_isOf
  repeat' (first | exact hQ _ _ | with_reducible exact id | with_reducible refine wM_in_mono (fun _ _ => ?_) | with_reducible refine mA ?_ ?_ | with_reducible refine mE fun _ => ?_ | with_reducible refine mF fun _ => ?_)
theorem wM_worthOf_mono {x1 : Int32} {x2 : Int32} {x3 : Int32} {σ : gM} {Q Q' : Int32 → gM → Prop} (hQ : ∀ y0 y1, Q y0 y1 → Q' y0 y1) : wM_worthOf x1 x2 x3 σ Q → wM_worthOf x1 x2 x3 σ Q' := by
  unfold wM_worthOf
  repeat' (first | exact hQ _ _ | with_reducible exact id | with_reducible refine wM_kindOf_mono (fun _ _ => ?_) | with_reducible refine wM_isOf_mono (fun _ _ => ?_) | with_reducible refine wM_valueOf_mono (fun _ _ => ?_) | with_reducible refine mA ?_ ?_ | with_reducible refine mE fun _ => ?_ | with_reducible refine mF fun _ => ?_)
theorem wM_takeAt_l33_mono  {Q Q' : Int32 → gM → Prop} (hQ : ∀ y0 y1, Q y0 y1 → Q' y0 y1) : ∀ (z0 : Nat) (z1 : Int32) (z2 : Int32) (z3 : Int32) (z4 : gM), wM_takeAt_l33 Q z0 z1 z2 z3 z4 → wM_takeAt_l33 Q' z0 z1 z2 z3 z4 := by
  intro z0
  induction z0 with
  | zero => intro z1 z2 z3 z4 h; exact h
  | succ z0 ih =>
    intro z1 z2 z3 z4
    rw [wM_takeAt_l33, wM_takeAt_l33]
    repeat' (first | exact hQ _ _ | exact ih _ _ _ _ | with_reducible exact id | with_reducible refine wM_heap_mono (fun _ _ => ?_) | with_reducible refine mA ?_ ?_ | with_reducible refine mE fun _ => ?_ | with_reducible refine mF fun _ => ?_)
theorem wM_takeAt_mono {x1 : Int32} {σ : gM} {Q Q' : Int32 → gM → Prop} (hQ : ∀ y0 y1, Q y0 y1 → Q' y0 y1) : wM_takeAt x1 σ Q → wM_takeAt x1 σ Q' := by
  unfold wM_takeAt
  repeat' (first | exact hQ _ _ | with_reducible exact id | with_reducible refine wM_heap_mono (fun _ _ => ?_) | with_reducible refine wM_takeAt_l33_mono (fun _ _ => ?_) _ _ _ _ _ | with_reducible refine mA ?_ ?_ | with_reducible refine mE fun _ => ?_ | with_reducible refine mF fun _ => ?_)
theorem wM_noteAct_b51_mono {x1 : Int32} {x2 : Int32} {x3 : Int32} {x4 : Int32} {x5 : Int32} {σ : gM} {Q Q' : gM → Prop} (hQ : ∀ y0, Q y0 → Q' y0) : wM_noteAct_b51 Q x1 x2 x3 x4 x5 σ → wM_noteAct_b51 Q' x1 x2 x3 x4 x5 σ := by
  unfold wM_noteAct_b51
  repeat' (first | exact hQ _ | with_reducible exact id | with_reducible refine mA ?_ ?_ | with_reducible refine mE fun _ => ?_ | with_reducible refine mF fun _ => ?_)
theorem wM_noteAct_l12_mono  {Q Q' : gM → Prop} (hQ : ∀ y0, Q y0 → Q' y0) : ∀ (z0 : Nat) (z1 : Int32) (z2 : Int32) (z3 : Int32) (z4 : Int32) (z5 : Int32) (z6 : Int32) (z7 : gM), wM_noteAct_l12 Q z0 z1 z2 z3 z4 z5 z6 z7 → wM_noteAct_l12 Q' z0 z1 z2 z3 z4 z5 z6 z7 := by
  intro z0
  induction z0 with
  | zero => intro z1 z2 z3 z4 z5 z6 z7 h; exact h
  | succ z0 ih =>
    intro z1 z2 z3 z4 z5 z6 z7
    rw [wM_noteAct_l12, wM_noteAct_l12]
    repeat' (first | exact hQ _ | exact ih _ _ _ _ _ _ _ | with_reducible exact id | with_reducible refine wM_noteAct_b51_mono (fun _ => ?_) | with_reducible refine mA ?_ ?_ | with_reducible refine mE fun _ => ?_ | with_reducible refine mF fun _ => ?_)
theorem wM_noteAct_mono {x1 : Int32} {x2 : Int32} {x3 : Int32} {x4 : Int32} {x5 : Int32} {σ : gM} {Q Q' : gM → Prop} (hQ : ∀ y0, Q y0 → Q' y0) : wM_noteAct x1 x2 x3 x4 x5 σ Q → wM_noteAct x1 x2 x3 x4 x5 σ Q' := by
  unfold wM_noteAct
  repeat' (first | exact hQ _ | with_reducible exact id | with_reducible refine wM_noteAct_l12_mono (fun _ => ?_) _ _ _ _ _ _ _ _ | with_reducible refine wM_noteAct_b51_mono (fun _ => ?_) | with_reducible refine mA ?_ ?_ | with_reducible refine mE fun _ => ?_ | with_reducible refine mF fun _ => ?_)
theorem wM_take_mono {x1 : Int32} {x2 : Int32} {σ : gM} {Q Q' : Int32 → gM → Prop} (hQ : ∀ y0 y1, Q y0 y1 → Q' y0 y1) : wM_take x1 x2 σ Q → wM_take x1 x2 σ Q' := by
  unfold wM_take
  repeat' (first | exact hQ _ _ | with_reducible exact id | with_reducible refine wM_isBuyerAt_mono (fun _ _ => ?_) | with_reducible refine wM_in_mono (fun _ _ => ?_) | with_reducible refine wM_heap_mono (fun _ _ => ?_) | with_reducible refine wM_valueOf_mono (fun _ _ => ?_) | with_reducible refine wM_worthOf_mono (fun _ _ => ?_) | with_reducible refine wM_takeAt_mono (fun _ _ => ?_) | with_reducible refine wM_noteAct_mono (fun _ => ?_) | with_reducible refine mA ?_ ?_ | with_reducible refine mE fun _ => ?_ | with_reducible refine mF fun _ => ?_)
theorem wM_putAt_b37_mono {x1 : Int32} {x2 : Int32} {σ : gM} {Q Q' : gM → Prop} (hQ : ∀ y0, Q y0 → Q' y0) : wM_putAt_b37 Q x1 x2 σ → wM_putAt_b37 Q' x1 x2 σ := by
  unfold wM_putAt_b37
  repeat' (first | exact hQ _ | with_reducible exact id | with_reducible refine mA ?_ ?_ | with_reducible refine mE fun _ => ?_ | with_reducible refine mF fun _ => ?_)
theorem wM_putAt_l11_mono  {Q Q' : gM → Prop} (hQ : ∀ y0, Q y0 → Q' y0) : ∀ (z0 : Nat) (z1 : Int32) (z2 : Int32) (z3 : Int32) (z4 : gM), wM_putAt_l11 Q z0 z1 z2 z3 z4 → wM_putAt_l11 Q' z0 z1 z2 z3 z4 := by
  intro z0
  induction z0 with
  | zero => intro z1 z2 z3 z4 h; exact h
  | succ z0 ih =>
    intro z1 z2 z3 z4
    rw [wM_putAt_l11, wM_putAt_l11]
    repeat' (first | exact hQ _ | exact ih _ _ _ _ | with_reducible exact id | with_reducible refine wM_putAt_b37_mono (fun _ => ?_) | with_reducible refine wM_heap_mono (fun _ _ => ?_) | with_reducible refine mA ?_ ?_ | with_reducible refine mE fun _ => ?_ | with_reducible refine mF fun _ => ?_)
theorem wM_putAt_mono {x1 : Int32} {x2 : Int32} {σ : gM} {Q Q' : gM → Prop} (hQ : ∀ y0, Q y0 → Q' y0) : wM_putAt x1 x2 σ Q → wM_putAt x1 x2 σ Q' := by
  unfold wM_putAt
  repeat' (first | exact hQ _ | with_reducible exact id | with_reducible refine wM_putAt_l11_mono (fun _ => ?_) _ _ _ _ _ | with_reducible refine wM_putAt_b37_mono (fun _ => ?_) | with_reducible refine mA ?_ ?_ | with_reducible refine mE fun _ => ?_ | with_reducible refine mF fun _ => ?_)
theorem wM_lay_mono {x1 : Int32} {x2 : Int32} {x3 : Int32} {σ : gM} {Q Q' : Int32 → gM → Prop} (hQ : ∀ y0 y1, Q y0 y1 → Q' y0 y1) : wM_lay x1 x2 x3 σ Q → wM_lay x1 x2 x3 σ Q' := by
  unfold wM_lay
  repeat' (first | exact hQ _ _ | with_reducible exact id | with_reducible refine wM_in_mono (fun _ _ => ?_) | with_reducible refine wM_putAt_mono (fun _ => ?_) | with_reducible refine wM_noteAct_mono (fun _ => ?_) | with_reducible refine mA ?_ ?_ | with_reducible refine mE fun _ => ?_ | with_reducible refine mF fun _ => ?_)
theorem wM_rotten_l4_mono  {Q Q' : Int32 → gM → Prop} (hQ : ∀ y0 y1, Q y0 y1 → Q' y0 y1) : ∀ (z0 : Nat) (z1 : Int32) (z2 : Int32) (z3 : Int32) (z4 : gM), wM_rotten_l4 Q z0 z1 z2 z3 z4 → wM_rotten_l4 Q' z0 z1 z2 z3 z4 := by
  intro z0
  induction z0 with
  | zero => intro z1 z2 z3 z4 h; exact h
  | succ z0 ih =>
    intro z1 z2 z3 z4
    rw [wM_rotten_l4, wM_rotten_l4]
    repeat' (first | exact hQ _ _ | exact ih _ _ _ _ | with_reducible exact id | with_reducible refine wM_heap_mono (fun _ _ => ?_) | with_reducible refine wM_valueOf_mono (fun _ _ => ?_) | with_reducible refine mA ?_ ?_ | with_reducible refine mE fun _ => ?_ | with_reducible refine mF fun _ => ?_)
theorem wM_rotten_mono {x1 : Int32} {σ : gM} {Q Q' : Int32 → gM → Prop} (hQ : ∀ y0 y1, Q y0 y1 → Q' y0 y1) : wM_rotten x1 σ Q → wM_rotten x1 σ Q' := by
  unfold wM_rotten
  repeat' (first | exact hQ _ _ | with_reducible exact id | with_reducible refine wM_rotten_l4_mono (fun _ _ => ?_) _ _ _ _ _ | with_reducible refine mA ?_ ?_ | with_reducible refine mE fun _ => ?_ | with_reducible refine mF fun _ => ?_)
theorem wM_grow_l2_mono  {Q Q' : gM → Prop} (hQ : ∀ y0, Q y0 → Q' y0) : ∀ (z0 : Nat) (z1 : Int32) (z2 : Int32) (z3 : gM), wM_grow_l2 Q z0 z1 z2 z3 → wM_grow_l2 Q' z0 z1 z2 z3 := by
  intro z0
  induction z0 with
  | zero => intro z1 z2 z3 h; exact h
  | succ z0 ih =>
    intro z1 z2 z3
    rw [wM_grow_l2, wM_grow_l2]
    repeat' (first | exact hQ _ | exact ih _ _ _ | with_reducible exact id | with_reducible refine wM_heap_mono (fun _ _ => ?_) | with_reducible refine mA ?_ ?_ | with_reducible refine mE fun _ => ?_ | with_reducible refine mF fun _ => ?_)
theorem wM_grow_mono {x1 : Int32} {σ : gM} {Q Q' : gM → Prop} (hQ : ∀ y0, Q y0 → Q' y0) : wM_grow x1 σ Q → wM_grow x1 σ Q' := by
  unfold wM_grow
  repeat' (first | exact hQ _ | with_reducible exact id | with_reducible refine wM_grow_l2_mono (fun _ => ?_) _ _ _ _ | with_reducible refine mA ?_ ?_ | with_reducible refine mE fun _ => ?_ | with_reducible refine mF fun _ => ?_)
theorem wM_day_mono {σ : gM} {Q Q' : Int32 → gM → Prop} (hQ : ∀ y0 y1, Q y0 y1 → Q' y0 y1) : wM_day σ Q → wM_day σ Q' := by
  unfold wM_day
  repeat' (first | exact hQ _ _ | with_reducible exact id | with_reducible refine wM_rotten_mono (fun _ _ => ?_) | with_reducible refine wM_grow_mono (fun _ => ?_) | with_reducible refine wM_noteAct_mono (fun _ => ?_) | with_reducible refine mA ?_ ?_ | with_reducible refine mE fun _ => ?_ | with_reducible refine mF fun _ => ?_)
theorem wM_undo_mono {σ : gM} {Q Q' : Int32 → gM → Prop} (hQ : ∀ y0 y1, Q y0 y1 → Q' y0 y1) : wM_undo σ Q → wM_undo σ Q' := by
  unfold wM_undo
  repeat' (first | exact hQ _ _ | with_reducible exact id | with_reducible refine wM_takeAt_mono (fun _ _ => ?_) | with_reducible refine wM_grow_mono (fun _ => ?_) | with_reducible refine wM_putAt_mono (fun _ => ?_) | with_reducible refine mA ?_ ?_ | with_reducible refine mE fun _ => ?_ | with_reducible refine mF fun _ => ?_)
theorem wM_isWareAt_mono {x1 : Int32} {σ : gM} {Q Q' : Int32 → gM → Prop} (hQ : ∀ y0 y1, Q y0 y1 → Q' y0 y1) : wM_isWareAt x1 σ Q → wM_isWareAt x1 σ Q' := by
  unfold wM_isWareAt
  repeat' (first | exact hQ _ _ | with_reducible exact id | with_reducible refine wM_in_mono (fun _ _ => ?_) | with_reducible refine mA ?_ ?_ | with_reducible refine mE fun _ => ?_ | with_reducible refine mF fun _ => ?_)
theorem wM_placeOf_l2_mono  {Q Q' : Int32 → gM → Prop} (hQ : ∀ y0 y1, Q y0 y1 → Q' y0 y1) : ∀ (z0 : Nat) (z1 : Int32) (z2 : Int32) (z3 : gM), wM_placeOf_l2 Q z0 z1 z2 z3 → wM_placeOf_l2 Q' z0 z1 z2 z3 := by
  intro z0
  induction z0 with
  | zero => intro z1 z2 z3 h; exact h
  | succ z0 ih =>
    intro z1 z2 z3
    rw [wM_placeOf_l2, wM_placeOf_l2]
    repeat' (first | exact hQ _ _ | exact ih _ _ _ | with_reducible exact id | with_reducible refine wM_heap_mono (fun _ _ => ?_) | with_reducible refine mA ?_ ?_ | with_reducible refine mE fun _ => ?_ | with_reducible refine mF fun _ => ?_)
theorem wM_placeOf_mono {x1 : Int32} {σ : gM} {Q Q' : Int32 → gM → Prop} (hQ : ∀ y0 y1, Q y0 y1 → Q' y0 y1) : wM_placeOf x1 σ Q → wM_placeOf x1 σ Q' := by
  unfold wM_placeOf
  repeat' (first | exact hQ _ _ | with_reducible exact id | with_reducible refine wM_placeOf_l2_mono (fun _ _ => ?_) _ _ _ _ | with_reducible refine mA ?_ ?_ | with_reducible refine mE fun _ => ?_ | with_reducible refine mF fun _ => ?_)
theorem wM_ware_mono {x1 : Int32} {x2 : Int32} {σ : gM} {Q Q' : Int32 → gM → Prop} (hQ : ∀ y0 y1, Q y0 y1 → Q' y0 y1) : wM_ware x1 x2 σ Q → wM_ware x1 x2 σ Q' := by
  unfold wM_ware
  repeat' (first | exact hQ _ _ | with_reducible exact id | with_reducible refine wM_isWareAt_mono (fun _ _ => ?_) | with_reducible refine wM_valueOf_mono (fun _ _ => ?_) | with_reducible refine wM_placeOf_mono (fun _ _ => ?_) | with_reducible refine mA ?_ ?_ | with_reducible refine mE fun _ => ?_ | with_reducible refine mF fun _ => ?_)
theorem wM_buyer_mono {x1 : Int32} {x2 : Int32} {σ : gM} {Q Q' : Int32 → gM → Prop} (hQ : ∀ y0 y1, Q y0 y1 → Q' y0 y1) : wM_buyer x1 x2 σ Q → wM_buyer x1 x2 σ Q' := by
  unfold wM_buyer
  repeat' (first | exact hQ _ _ | with_reducible exact id | with_reducible refine wM_isBuyerAt_mono (fun _ _ => ?_) | with_reducible refine wM_in_mono (fun _ _ => ?_) | with_reducible refine mA ?_ ?_ | with_reducible refine mE fun _ => ?_ | with_reducible refine mF fun _ => ?_)
theorem wM_worth_mono {x1 : Int32} {x2 : Int32} {σ : gM} {Q Q' : Int32 → gM → Prop} (hQ : ∀ y0 y1, Q y0 y1 → Q' y0 y1) : wM_worth x1 x2 σ Q → wM_worth x1 x2 σ Q' := by
  unfold wM_worth
  repeat' (first | exact hQ _ _ | with_reducible exact id | with_reducible refine wM_isWareAt_mono (fun _ _ => ?_) | with_reducible refine wM_isBuyerAt_mono (fun _ _ => ?_) | with_reducible refine wM_worthOf_mono (fun _ _ => ?_) | with_reducible refine mA ?_ ?_ | with_reducible refine mE fun _ => ?_ | with_reducible refine mF fun _ => ?_)
theorem wM_areUnlike_mono {x1 : Int32} {x2 : Int32} {σ : gM} {Q Q' : Int32 → gM → Prop} (hQ : ∀ y0 y1, Q y0 y1 → Q' y0 y1) : wM_areUnlike x1 x2 σ Q → wM_areUnlike x1 x2 σ Q' := by
  unfold wM_areUnlike
  repeat' (first | exact hQ _ _ | with_reducible exact id | with_reducible refine wM_isBuyerAt_mono (fun _ _ => ?_) | with_reducible refine mA ?_ ?_ | with_reducible refine mE fun _ => ?_ | with_reducible refine mF fun _ => ?_)
theorem wM_layHeap_l2_mono  {Q Q' : gM → Prop} (hQ : ∀ y0, Q y0 → Q' y0) : ∀ (z0 : Nat) (z1 : Int32) (z2 : gM), wM_layHeap_l2 Q z0 z1 z2 → wM_layHeap_l2 Q' z0 z1 z2 := by
  intro z0
  induction z0 with
  | zero => intro z1 z2 h; exact h
  | succ z0 ih =>
    intro z1 z2
    rw [wM_layHeap_l2, wM_layHeap_l2]
    repeat' (first | exact hQ _ | exact ih _ _ | with_reducible exact id | with_reducible refine wM_heap_mono (fun _ _ => ?_) | with_reducible refine mA ?_ ?_ | with_reducible refine mE fun _ => ?_ | with_reducible refine mF fun _ => ?_)
theorem wM_layHeap_mono {σ : gM} {Q Q' : gM → Prop} (hQ : ∀ y0, Q y0 → Q' y0) : wM_layHeap σ Q → wM_layHeap σ Q' := by
  unfold wM_layHeap
  repeat' (first | exact hQ _ | with_reducible exact id | with_reducible refine wM_layHeap_l2_mono (fun _ => ?_) _ _ _ | with_reducible refine mA ?_ ?_ | with_reducible refine mE fun _ => ?_ | with_reducible refine mF fun _ => ?_)
theorem wM_turnOf_mono {x1 : Int32} {σ : gM} {Q Q' : Int32 → gM → Prop} (hQ : ∀ y0 y1, Q y0 y1 → Q' y0 y1) : wM_turnOf x1 σ Q → wM_turnOf x1 σ Q' := by
  unfold wM_turnOf
  repeat' (first | exact hQ _ _ | with_reducible exact id | with_reducible refine mA ?_ ?_ | with_reducible refine mE fun _ => ?_ | with_reducible refine mF fun _ => ?_)
theorem wM_layBest_b193_mono {x1 : Int32} {x2 : Int32} {x3 : Int32} {x4 : Int32} {x5 : Int32} {x6 : Int32} {x8 : Int32} {x11 : Int32} {x12 : Int32} {s0 : Int32} {σ : gM} {Q Q' : gM → Prop} (hQ : ∀ y0, Q y0 → Q' y0) {K3 K3' : Int32 → Int32 → Int32 → Int32 → Int32 → gM → Prop} (hK3 : ∀ y0 y1 y2 y3 y4 y5, K3 y0 y1 y2 y3 y4 y5 → K3' y0 y1 y2 y3 y4 y5) {K11 K11' : Int32 → Int32 → Int32 → Int32 → Int32 → Int32 → gM → Prop} (hK11 : ∀ y0 y1 y2 y3 y4 y5 y6, K11 y0 y1 y2 y3 y4 y5 y6 → K11' y0 y1 y2 y3 y4 y5 y6) : wM_layBest_b193 Q K3 K11 x1 x2 x3 x4 x5 x6 x8 x11 x12 s0 σ → wM_layBest_b193 Q' K3' K11' x1 x2 x3 x4 x5 x6 x8 x11 x12 s0 σ := by
  unfold wM_layBest_b193
  repeat' (first | exact hQ _ | exact hK3 _ _ _ _ _ _ | exact hK11 _ _ _ _ _ _ _ | with_reducible exact id | with_reducible refine mA ?_ ?_ | with_reducible refine mE fun _ => ?_ | with_reducible refine mF fun _ => ?_)
theorem wM_layBest_b147_mono {x1 : Int32} {x2 : Int32} {x3 : Int32} {x4 : Int32} {x5 : Int32} {x6 : Int32} {x8 : Int32} {x10 : Int32} {x11 : Int32} {s0 : Int32} {σ : gM} {Q Q' : gM → Prop} (hQ : ∀ y0, Q y0 → Q' y0) {K3 K3' : Int32 → Int32 → Int32 → Int32 → Int32 → gM → Prop} (hK3 : ∀ y0 y1 y2 y3 y4 y5, K3 y0 y1 y2 y3 y4 y5 → K3' y0 y1 y2 y3 y4 y5) {K11 K11' : Int32 → Int32 → Int32 → Int32 → Int32 → Int32 → gM → Prop} (hK11 : ∀ y0 y1 y2 y3 y4 y5 y6, K11 y0 y1 y2 y3 y4 y5 y6 → K11' y0 y1 y2 y3 y4 y5 y6) : wM_layBest_b147 Q K3 K11 x1 x2 x3 x4 x5 x6 x8 x10 x11 s0 σ → wM_layBest_b147 Q' K3' K11' x1 x2 x3 x4 x5 x6 x8 x10 x11 s0 σ := by
  unfold wM_layBest_b147
  repeat' (first | exact hQ _ | exact hK3 _ _ _ _ _ _ | exact hK11 _ _ _ _ _ _ _ | with_reducible exact id | with_reducible refine wM_worthOf_mono (fun _ _ => ?_) | with_reducible refine wM_layBest_b193_mono (fun _ => ?_) (fun _ _ _ _ _ _ => ?_) (fun _ _ _ _ _ _ _ => ?_) | with_reducible refine mA ?_ ?_ | with_reducible refine mE fun _ => ?_ | with_reducible refine mF fun _ => ?_)
theorem wM_layBest_l11_mono  {Q Q' : gM → Prop} (hQ : ∀ y0, Q y0 → Q' y0) {K3 K3' : Int32 → Int32 → Int32 → Int32 → Int32 → gM → Prop} (hK3 : ∀ y0 y1 y2 y3 y4 y5, K3 y0 y1 y2 y3 y4 y5 → K3' y0 y1 y2 y3 y4 y5) : ∀ (z0 : Nat) (z1 : Int32) (z2 : Int32) (z3 : Int32) (z4 : Int32) (z5 : Int32) (z6 : Int32) (z7 : gM), wM_layBest_l11 Q K3 z0 z1 z2 z3 z4 z5 z6 z7 → wM_layBest_l11 Q' K3' z0 z1 z2 z3 z4 z5 z6 z7 := by
  intro z0
  induction z0 with
  | zero => intro z1 z2 z3 z4 z5 z6 z7 h; exact h
  | succ z0 ih =>
    intro z1 z2 z3 z4 z5 z6 z7
    rw [wM_layBest_l11, wM_layBest_l11]
    repeat' (first | exact hQ _ | exact hK3 _ _ _ _ _ _ | exact ih _ _ _ _ _ _ _ | with_reducible exact id | with_reducible refine wM_turnOf_mono (fun _ _ => ?_) | with_reducible refine wM_worthOf_mono (fun _ _ => ?_) | with_reducible refine wM_layBest_b147_mono (fun _ => ?_) (fun _ _ _ _ _ _ => ?_) (fun _ _ _ _ _ _ _ => ?_) | with_reducible refine mA ?_ ?_ | with_reducible refine mE fun _ => ?_ | with_reducible refine mF fun _ => ?_)
theorem wM_layBest_l3_mono  {Q Q' : gM → Prop} (hQ : ∀ y0, Q y0 → Q' y0) : ∀ (z0 : Nat) (z1 : Int32) (z2 : Int32) (z3 : Int32) (z4 : Int32) (z5 : Int32) (z6 : gM), wM_layBest_l3 Q z0 z1 z2 z3 z4 z5 z6 → wM_layBest_l3 Q' z0 z1 z2 z3 z4 z5 z6 := by
  intro z0
  induction z0 with
  | zero => intro z1 z2 z3 z4 z5 z6 h; exact h
  | succ z0 ih =>
    intro z1 z2 z3 z4 z5 z6
    rw [wM_layBest_l3, wM_layBest_l3]
    repeat' (first | exact hQ _ | exact ih _ _ _ _ _ _ | with_reducible exact id | with_reducible refine wM_layBest_l11_mono (fun _ => ?_) (fun _ _ _ _ _ _ => ?_) _ _ _ _ _ _ _ _ | with_reducible refine mA ?_ ?_ | with_reducible refine mE fun _ => ?_ | with_reducible refine mF fun _ => ?_)
theorem wM_layBest_mono {x1 : Int32} {x2 : Int32} {x3 : Int32} {x4 : Int32} {σ : gM} {Q Q' : gM → Prop} (hQ : ∀ y0, Q y0 → Q' y0) : wM_layBest x1 x2 x3 x4 σ Q → wM_layBest x1 x2 x3 x4 σ Q' := by
  unfold wM_layBest
  repeat' (first | exact hQ _ | with_reducible exact id | with_reducible refine wM_layBest_l3_mono (fun _ => ?_) _ _ _ _ _ _ _ | with_reducible refine mA ?_ ?_ | with_reducible refine mE fun _ => ?_ | with_reducible refine mF fun _ => ?_)
theorem wM_best_mono {x1 : Int32} {x2 : Int32} {x3 : Int32} {σ : gM} {Q Q' : Int32 → gM → Prop} (hQ : ∀ y0 y1, Q y0 y1 → Q' y0 y1) : wM_best x1 x2 x3 σ Q → wM_best x1 x2 x3 σ Q' := by
  unfold wM_best
  repeat' (first | exact hQ _ _ | with_reducible exact id | with_reducible refine wM_areUnlike_mono (fun _ _ => ?_) | with_reducible refine wM_in_mono (fun _ _ => ?_) | with_reducible refine wM_layHeap_mono (fun _ => ?_) | with_reducible refine wM_layBest_mono (fun _ => ?_) | with_reducible refine wM_worthOf_mono (fun _ _ => ?_) | with_reducible refine mA ?_ ?_ | with_reducible refine mE fun _ => ?_ | with_reducible refine mF fun _ => ?_)
theorem wM_passBy_b258_mono {x1 : Int32} {x2 : Int32} {x3 : Int32} {x4 : Int32} {x5 : Int32} {x6 : Int32} {x7 : Int32} {x10 : Int32} {x11 : Int32} {s0 : Int32} {σ : gM} {Q Q' : Int32 → gM → Prop} (hQ : ∀ y0 y1, Q y0 y1 → Q' y0 y1) {K97 K97' : Int32 → Int32 → Int32 → Int32 → Int32 → gM → Prop} (hK97 : ∀ y0 y1 y2 y3 y4 y5, K97 y0 y1 y2 y3 y4 y5 → K97' y0 y1 y2 y3 y4 y5) {K105 K105' : Int32 → Int32 → Int32 → Int32 → Int32 → Int32 → gM → Prop} (hK105 : ∀ y0 y1 y2 y3 y4 y5 y6, K105 y0 y1 y2 y3 y4 y5 y6 → K105' y0 y1 y2 y3 y4 y5 y6) : wM_passBy_b258 Q K97 K105 x1 x2 x3 x4 x5 x6 x7 x10 x11 s0 σ → wM_passBy_b258 Q' K97' K105' x1 x2 x3 x4 x5 x6 x7 x10 x11 s0 σ := by
  unfold wM_passBy_b258
  repeat' (first | exact hQ _ _ | exact hK97 _ _ _ _ _ _ | exact hK105 _ _ _ _ _ _ _ | with_reducible exact id | with_reducible refine mA ?_ ?_ | with_reducible refine mE fun _ => ?_ | with_reducible refine mF fun _ => ?_)
theorem wM_passBy_b212_mono {x1 : Int32} {x2 : Int32} {x3 : Int32} {x4 : Int32} {x5 : Int32} {x6 : Int32} {x7 : Int32} {x9 : Int32} {x10 : Int32} {s0 : Int32} {σ : gM} {Q Q' : Int32 → gM → Prop} (hQ : ∀ y0 y1, Q y0 y1 → Q' y0 y1) {K97 K97' : Int32 → Int32 → Int32 → Int32 → Int32 → gM → Prop} (hK97 : ∀ y0 y1 y2 y3 y4 y5, K97 y0 y1 y2 y3 y4 y5 → K97' y0 y1 y2 y3 y4 y5) {K105 K105' : Int32 → Int32 → Int32 → Int32 → Int32 → Int32 → gM → Prop} (hK105 : ∀ y0 y1 y2 y3 y4 y5 y6, K105 y0 y1 y2 y3 y4 y5 y6 → K105' y0 y1 y2 y3 y4 y5 y6) : wM_passBy_b212 Q K97 K105 x1 x2 x3 x4 x5 x6 x7 x9 x10 s0 σ → wM_passBy_b212 Q' K97' K105' x1 x2 x3 x4 x5 x6 x7 x9 x10 s0 σ := by
  unfold wM_passBy_b212
  repeat' (first | exact hQ _ _ | exact hK97 _ _ _ _ _ _ | exact hK105 _ _ _ _ _ _ _ | with_reducible exact id | with_reducible refine wM_worthOf_mono (fun _ _ => ?_) | with_reducible refine wM_passBy_b258_mono (fun _ _ => ?_) (fun _ _ _ _ _ _ => ?_) (fun _ _ _ _ _ _ _ => ?_) | with_reducible refine mA ?_ ?_ | with_reducible refine mE fun _ => ?_ | with_reducible refine mF fun _ => ?_)
theorem wM_passBy_l105_mono  {Q Q' : Int32 → gM → Prop} (hQ : ∀ y0 y1, Q y0 y1 → Q' y0 y1) {K97 K97' : Int32 → Int32 → Int32 → Int32 → Int32 → gM → Prop} (hK97 : ∀ y0 y1 y2 y3 y4 y5, K97 y0 y1 y2 y3 y4 y5 → K97' y0 y1 y2 y3 y4 y5) : ∀ (z0 : Nat) (z1 : Int32) (z2 : Int32) (z3 : Int32) (z4 : Int32) (z5 : Int32) (z6 : Int32) (z7 : gM), wM_passBy_l105 Q K97 z0 z1 z2 z3 z4 z5 z6 z7 → wM_passBy_l105 Q' K97' z0 z1 z2 z3 z4 z5 z6 z7 := by
  intro z0
  induction z0 with
  | zero => intro z1 z2 z3 z4 z5 z6 z7 h; exact h
  | succ z0 ih =>
    intro z1 z2 z3 z4 z5 z6 z7
    rw [wM_passBy_l105, wM_passBy_l105]
    repeat' (first | exact hQ _ _ | exact hK97 _ _ _ _ _ _ | exact ih _ _ _ _ _ _ _ | with_reducible exact id | with_reducible refine wM_turnOf_mono (fun _ _ => ?_) | with_reducible refine wM_worthOf_mono (fun _ _ => ?_) | with_reducible refine wM_passBy_b212_mono (fun _ _ => ?_) (fun _ _ _ _ _ _ => ?_) (fun _ _ _ _ _ _ _ => ?_) | with_reducible refine mA ?_ ?_ | with_reducible refine mE fun _ => ?_ | with_reducible refine mF fun _ => ?_)
theorem wM_passBy_l97_mono  {Q Q' : Int32 → gM → Prop} (hQ : ∀ y0 y1, Q y0 y1 → Q' y0 y1) : ∀ (z0 : Nat) (z1 : Int32) (z2 : Int32) (z3 : Int32) (z4 : Int32) (z5 : Int32) (z6 : gM), wM_passBy_l97 Q z0 z1 z2 z3 z4 z5 z6 → wM_passBy_l97 Q' z0 z1 z2 z3 z4 z5 z6 := by
  intro z0
  induction z0 with
  | zero => intro z1 z2 z3 z4 z5 z6 h; exact h
  | succ z0 ih =>
    intro z1 z2 z3 z4 z5 z6
    rw [wM_passBy_l97, wM_passBy_l97]
    repeat' (first | exact hQ _ _ | exact ih _ _ _ _ _ _ | with_reducible exact id | with_reducible refine wM_passBy_l105_mono (fun _ _ => ?_) (fun _ _ _ _ _ _ => ?_) _ _ _ _ _ _ _ _ | with_reducible refine mA ?_ ?_ | with_reducible refine mE fun _ => ?_ | with_reducible refine mF fun _ => ?_)
theorem wM_passBy_l34_mono  {Q Q' : Int32 → gM → Prop} (hQ : ∀ y0 y1, Q y0 y1 → Q' y0 y1) : ∀ (z0 : Nat) (z1 : Int32) (z2 : Int32) (z3 : Int32) (z4 : Int32) (z5 : gM), wM_passBy_l34 Q z0 z1 z2 z3 z4 z5 → wM_passBy_l34 Q' z0 z1 z2 z3 z4 z5 := by
  intro z0
  induction z0 with
  | zero => intro z1 z2 z3 z4 z5 h; exact h
  | succ z0 ih =>
    intro z1 z2 z3 z4 z5
    rw [wM_passBy_l34, wM_passBy_l34]
    repeat' (first | exact hQ _ _ | exact ih _ _ _ _ _ | with_reducible exact id | with_reducible refine wM_layBest_mono (fun _ => ?_) | with_reducible refine wM_passBy_l97_mono (fun _ _ => ?_) _ _ _ _ _ _ _ | with_reducible refine mA ?_ ?_ | with_reducible refine mE fun _ => ?_ | with_reducible refine mF fun _ => ?_)
