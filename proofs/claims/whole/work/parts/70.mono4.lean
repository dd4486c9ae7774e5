theorem wM_passBy_mono {x1 : Int32} {x2 : Int32} {σ : gM} {Q Q' : Int32 → gM → Prop} (hQ : ∀ y0 y1, Q y0 y1 → Q' y0 y1) : wM_passBy x1 x2 σ Q → wM_passBy x1 x2 σ Q' := by
  unfold wM_passBy
  repeat' (first | exact hQ _ _ | with_reducible exact id | with_reducible refine wM_areUnlike_mono (fun _ _ => ?_) | with_reducible refine wM_layHeap_mono (fun _ => ?_) | with_reducible refine wM_layBest_mono (fun _ => ?_) | with_reducible refine wM_passBy_l34_mono (fun _ _ => ?_) _ _ _ _ _ _ | with_reducible refine mA ?_ ?_ | with_reducible refine mE fun _ => ?_ | with_reducible refine mF fun _ => ?_)
theorem wM_mostLaid_l114_mono  {Q Q' : Int32 → gM → Prop} (hQ : ∀ y0 y1, Q y0 y1 → Q' y0 y1) {K94 K94' : Int32 → Int32 → Int32 → Int32 → Int32 → Int32 → Int32 → Int32 → gM → Prop} (hK94 : ∀ y0 y1 y2 y3 y4 y5 y6 y7 y8, K94 y0 y1 y2 y3 y4 y5 y6 y7 y8 → K94' y0 y1 y2 y3 y4 y5 y6 y7 y8) : ∀ (z0 : Nat) (z1 : Int32) (z2 : Int32) (z3 : Int32) (z4 : Int32) (z5 : Int32) (z6 : Int32) (z7 : Int32) (z8 : Int32) (z9 : Int32) (z10 : Int32) (z11 : Int32) (z12 : gM), wM_mostLaid_l114 Q K94 z0 z1 z2 z3 z4 z5 z6 z7 z8 z9 z10 z11 z12 → wM_mostLaid_l114 Q' K94' z0 z1 z2 z3 z4 z5 z6 z7 z8 z9 z10 z11 z12 := by
  intro z0
  induction z0 with
  | zero => intro z1 z2 z3 z4 z5 z6 z7 z8 z9 z10 z11 z12 h; exact h
  | succ z0 ih =>
    intro z1 z2 z3 z4 z5 z6 z7 z8 z9 z10 z11 z12
    rw [wM_mostLaid_l114, wM_mostLaid_l114]
    repeat' (first | exact hQ _ _ | exact hK94 _ _ _ _ _ _ _ _ _ | exact ih _ _ _ _ _ _ _ _ _ _ _ _ | with_reducible exact id | with_reducible refine wM_layBest_mono (fun _ => ?_) | with_reducible refine wM_in_mono (fun _ _ => ?_) | with_reducible refine mA ?_ ?_ | with_reducible refine mE fun _ => ?_ | with_reducible refine mF fun _ => ?_)
theorem wM_mostLaid_l94_mono  {Q Q' : Int32 → gM → Prop} (hQ : ∀ y0 y1, Q y0 y1 → Q' y0 y1) : ∀ (z0 : Nat) (z1 : Int32) (z2 : Int32) (z3 : Int32) (z4 : Int32) (z5 : Int32) (z6 : Int32) (z7 : Int32) (z8 : Int32) (z9 : gM), wM_mostLaid_l94 Q z0 z1 z2 z3 z4 z5 z6 z7 z8 z9 → wM_mostLaid_l94 Q' z0 z1 z2 z3 z4 z5 z6 z7 z8 z9 := by
  intro z0
  induction z0 with
  | zero => intro z1 z2 z3 z4 z5 z6 z7 z8 z9 h; exact h
  | succ z0 ih =>
    intro z1 z2 z3 z4 z5 z6 z7 z8 z9
    rw [wM_mostLaid_l94, wM_mostLaid_l94]
    repeat' (first | exact hQ _ _ | exact ih _ _ _ _ _ _ _ _ _ | with_reducible exact id | with_reducible refine wM_mostLaid_l114_mono (fun _ _ => ?_) (fun _ _ _ _ _ _ _ _ _ => ?_) _ _ _ _ _ _ _ _ _ _ _ _ _ | with_reducible refine mA ?_ ?_ | with_reducible refine mE fun _ => ?_ | with_reducible refine mF fun _ => ?_)
theorem wM_mostLaid_l46_mono  {Q Q' : Int32 → gM → Prop} (hQ : ∀ y0 y1, Q y0 y1 → Q' y0 y1) : ∀ (z0 : Nat) (z1 : Int32) (z2 : Int32) (z3 : Int32) (z4 : Int32) (z5 : Int32) (z6 : Int32) (z7 : Int32) (z8 : gM), wM_mostLaid_l46 Q z0 z1 z2 z3 z4 z5 z6 z7 z8 → wM_mostLaid_l46 Q' z0 z1 z2 z3 z4 z5 z6 z7 z8 := by
  intro z0
  induction z0 with
  | zero => intro z1 z2 z3 z4 z5 z6 z7 z8 h; exact h
  | succ z0 ih =>
    intro z1 z2 z3 z4 z5 z6 z7 z8
    rw [wM_mostLaid_l46, wM_mostLaid_l46]
    repeat' (first | exact hQ _ _ | exact ih _ _ _ _ _ _ _ _ | with_reducible exact id | with_reducible refine wM_mostLaid_l94_mono (fun _ _ => ?_) _ _ _ _ _ _ _ _ _ _ | with_reducible refine wM_placeOf_mono (fun _ _ => ?_) | with_reducible refine mA ?_ ?_ | with_reducible refine mE fun _ => ?_ | with_reducible refine mF fun _ => ?_)
theorem wM_mostLaid_l14_mono  {Q Q' : Int32 → gM → Prop} (hQ : ∀ y0 y1, Q y0 y1 → Q' y0 y1) : ∀ (z0 : Nat) (z1 : Int32) (z2 : Int32) (z3 : Int32) (z4 : Int32) (z5 : Int32) (z6 : Int32) (z7 : gM), wM_mostLaid_l14 Q z0 z1 z2 z3 z4 z5 z6 z7 → wM_mostLaid_l14 Q' z0 z1 z2 z3 z4 z5 z6 z7 := by
  intro z0
  induction z0 with
  | zero => intro z1 z2 z3 z4 z5 z6 z7 h; exact h
  | succ z0 ih =>
    intro z1 z2 z3 z4 z5 z6 z7
    rw [wM_mostLaid_l14, wM_mostLaid_l14]
    repeat' (first | exact hQ _ _ | exact ih _ _ _ _ _ _ _ | with_reducible exact id | with_reducible refine wM_mostLaid_l46_mono (fun _ _ => ?_) _ _ _ _ _ _ _ _ _ | with_reducible refine mA ?_ ?_ | with_reducible refine mE fun _ => ?_ | with_reducible refine mF fun _ => ?_)
theorem wM_mostLaid_mono {x1 : Int32} {x2 : Int32} {x3 : Int32} {σ : gM} {Q Q' : Int32 → gM → Prop} (hQ : ∀ y0 y1, Q y0 y1 → Q' y0 y1) : wM_mostLaid x1 x2 x3 σ Q → wM_mostLaid x1 x2 x3 σ Q' := by
  unfold wM_mostLaid
  repeat' (first | exact hQ _ _ | with_reducible exact id | with_reducible refine wM_mostLaid_l14_mono (fun _ _ => ?_) _ _ _ _ _ _ _ _ | with_reducible refine mA ?_ ?_ | with_reducible refine mE fun _ => ?_ | with_reducible refine mF fun _ => ?_)
theorem wM_laid_mono {x1 : Int32} {x2 : Int32} {x3 : Int32} {σ : gM} {Q Q' : Int32 → gM → Prop} (hQ : ∀ y0 y1, Q y0 y1 → Q' y0 y1) : wM_laid x1 x2 x3 σ Q → wM_laid x1 x2 x3 σ Q' := by
  unfold wM_laid
  repeat' (first | exact hQ _ _ | with_reducible exact id | with_reducible refine wM_areUnlike_mono (fun _ _ => ?_) | with_reducible refine wM_mostLaid_mono (fun _ _ => ?_) | with_reducible refine mA ?_ ?_ | with_reducible refine mE fun _ => ?_ | with_reducible refine mF fun _ => ?_)
theorem wM_ring_l50_mono  {Q Q' : Int32 → gM → Prop} (hQ : ∀ y0 y1, Q y0 y1 → Q' y0 y1) {K40 K40' : Int32 → Int32 → Int32 → Int32 → Int32 → Int32 → Int32 → gM → Prop} (hK40 : ∀ y0 y1 y2 y3 y4 y5 y6 y7, K40 y0 y1 y2 y3 y4 y5 y6 y7 → K40' y0 y1 y2 y3 y4 y5 y6 y7) : ∀ (z0 : Nat) (z1 : Int32) (z2 : Int32) (z3 : Int32) (z4 : Int32) (z5 : Int32) (z6 : Int32) (z7 : Int32) (z8 : Int32) (z9 : gM), wM_ring_l50 Q K40 z0 z1 z2 z3 z4 z5 z6 z7 z8 z9 → wM_ring_l50 Q' K40' z0 z1 z2 z3 z4 z5 z6 z7 z8 z9 := by
  intro z0
  induction z0 with
  | zero => intro z1 z2 z3 z4 z5 z6 z7 z8 z9 h; exact h
  | succ z0 ih =>
    intro z1 z2 z3 z4 z5 z6 z7 z8 z9
    rw [wM_ring_l50, wM_ring_l50]
    repeat' (first | exact hQ _ _ | exact hK40 _ _ _ _ _ _ _ _ | exact ih _ _ _ _ _ _ _ _ _ | with_reducible exact id | with_reducible refine wM_layBest_mono (fun _ => ?_) | with_reducible refine wM_heap_mono (fun _ _ => ?_) | with_reducible refine mA ?_ ?_ | with_reducible refine mE fun _ => ?_ | with_reducible refine mF fun _ => ?_)
theorem wM_ring_l40_mono  {Q Q' : Int32 → gM → Prop} (hQ : ∀ y0 y1, Q y0 y1 → Q' y0 y1) : ∀ (z0 : Nat) (z1 : Int32) (z2 : Int32) (z3 : Int32) (z4 : Int32) (z5 : Int32) (z6 : Int32) (z7 : Int32) (z8 : gM), wM_ring_l40 Q z0 z1 z2 z3 z4 z5 z6 z7 z8 → wM_ring_l40 Q' z0 z1 z2 z3 z4 z5 z6 z7 z8 := by
  intro z0
  induction z0 with
  | zero => intro z1 z2 z3 z4 z5 z6 z7 z8 h; exact h
  | succ z0 ih =>
    intro z1 z2 z3 z4 z5 z6 z7 z8
    rw [wM_ring_l40, wM_ring_l40]
    repeat' (first | exact hQ _ _ | exact ih _ _ _ _ _ _ _ _ | with_reducible exact id | with_reducible refine wM_ring_l50_mono (fun _ _ => ?_) (fun _ _ _ _ _ _ _ _ => ?_) _ _ _ _ _ _ _ _ _ _ | with_reducible refine mA ?_ ?_ | with_reducible refine mE fun _ => ?_ | with_reducible refine mF fun _ => ?_)
theorem wM_ring_mono {x1 : Int32} {x2 : Int32} {x3 : Int32} {σ : gM} {Q Q' : Int32 → gM → Prop} (hQ : ∀ y0 y1, Q y0 y1 → Q' y0 y1) : wM_ring x1 x2 x3 σ Q → wM_ring x1 x2 x3 σ Q' := by
  unfold wM_ring
  repeat' (first | exact hQ _ _ | with_reducible exact id | with_reducible refine wM_areUnlike_mono (fun _ _ => ?_) | with_reducible refine wM_in_mono (fun _ _ => ?_) | with_reducible refine wM_ring_l40_mono (fun _ _ => ?_) _ _ _ _ _ _ _ _ _ | with_reducible refine mA ?_ ?_ | with_reducible refine mE fun _ => ?_ | with_reducible refine mF fun _ => ?_)
theorem wM_whyNot_mono {x1 : Int32} {x2 : Int32} {x3 : Int32} {σ : gM} {Q Q' : Int32 → gM → Prop} (hQ : ∀ y0 y1, Q y0 y1 → Q' y0 y1) : wM_whyNot x1 x2 x3 σ Q → wM_whyNot x1 x2 x3 σ Q' := by
  unfold wM_whyNot
  repeat' (first | exact hQ _ _ | with_reducible exact id | with_reducible refine wM_isNull_mono (fun _ _ => ?_) | with_reducible refine mA ?_ ?_ | with_reducible refine mE fun _ => ?_ | with_reducible refine mF fun _ => ?_)
theorem wM_line_l126_mono  {Q Q' : Int32 → gM → Prop} (hQ : ∀ y0 y1, Q y0 y1 → Q' y0 y1) : ∀ (z0 : Nat) (z1 : Int32) (z2 : Int32) (z3 : Int32) (z4 : Int32) (z5 : Int32) (z6 : Int32) (z7 : Int32) (z8 : Int32) (z9 : gM), wM_line_l126 Q z0 z1 z2 z3 z4 z5 z6 z7 z8 z9 → wM_line_l126 Q' z0 z1 z2 z3 z4 z5 z6 z7 z8 z9 := by
  intro z0
  induction z0 with
  | zero => intro z1 z2 z3 z4 z5 z6 z7 z8 z9 h; exact h
  | succ z0 ih =>
    intro z1 z2 z3 z4 z5 z6 z7 z8 z9
    rw [wM_line_l126, wM_line_l126]
    repeat' (first | exact hQ _ _ | exact ih _ _ _ _ _ _ _ _ _ | with_reducible exact id | with_reducible refine wM_did_mono (fun _ _ => ?_) | with_reducible refine wM_heap_mono (fun _ _ => ?_) | with_reducible refine wM_worthOf_mono (fun _ _ => ?_) | with_reducible refine mA ?_ ?_ | with_reducible refine mE fun _ => ?_ | with_reducible refine mF fun _ => ?_)
theorem wM_line_l71_mono  {Q Q' : Int32 → gM → Prop} (hQ : ∀ y0 y1, Q y0 y1 → Q' y0 y1) : ∀ (z0 : Nat) (z1 : Int32) (z2 : Int32) (z3 : Int32) (z4 : Int32) (z5 : Int32) (z6 : gM), wM_line_l71 Q z0 z1 z2 z3 z4 z5 z6 → wM_line_l71 Q' z0 z1 z2 z3 z4 z5 z6 := by
  intro z0
  induction z0 with
  | zero => intro z1 z2 z3 z4 z5 z6 h; exact h
  | succ z0 ih =>
    intro z1 z2 z3 z4 z5 z6
    rw [wM_line_l71, wM_line_l71]
    repeat' (first | exact hQ _ _ | exact ih _ _ _ _ _ _ | with_reducible exact id | with_reducible refine wM_line_l126_mono (fun _ _ => ?_) _ _ _ _ _ _ _ _ _ _ | with_reducible refine wM_isBuyerAt_mono (fun _ _ => ?_) | with_reducible refine mA ?_ ?_ | with_reducible refine mE fun _ => ?_ | with_reducible refine mF fun _ => ?_)
theorem wM_line_b47_mono {x1 : Int32} {x2 : Int32} {x3 : Int32} {x4 : Int32} {σ : gM} {Q Q' : Int32 → gM → Prop} (hQ : ∀ y0 y1, Q y0 y1 → Q' y0 y1) : wM_line_b47 Q x1 x2 x3 x4 σ → wM_line_b47 Q' x1 x2 x3 x4 σ := by
  unfold wM_line_b47
  repeat' (first | exact hQ _ _ | with_reducible exact id | with_reducible refine wM_whyNot_mono (fun _ _ => ?_) | with_reducible refine wM_line_l71_mono (fun _ _ => ?_) _ _ _ _ _ _ _ | with_reducible refine wM_finds_mono (fun _ _ => ?_) | with_reducible refine mA ?_ ?_ | with_reducible refine mE fun _ => ?_ | with_reducible refine mF fun _ => ?_)
theorem wM_line_mono {x1 : Int32} {x2 : Int32} {x3 : Int32} {x4 : Int32} {σ : gM} {Q Q' : Int32 → gM → Prop} (hQ : ∀ y0 y1, Q y0 y1 → Q' y0 y1) : wM_line x1 x2 x3 x4 σ Q → wM_line x1 x2 x3 x4 σ Q' := by
  unfold wM_line
  repeat' (first | exact hQ _ _ | with_reducible exact id | with_reducible refine wM_isRow_mono (fun _ _ => ?_) | with_reducible refine wM_in_mono (fun _ _ => ?_) | with_reducible refine wM_line_b47_mono (fun _ _ => ?_) | with_reducible refine wM_isBuyerAt_mono (fun _ _ => ?_) | with_reducible refine mA ?_ ?_ | with_reducible refine mE fun _ => ?_ | with_reducible refine mF fun _ => ?_)
theorem wM_bits_l4_mono  {Q Q' : Int32 → gM → Prop} (hQ : ∀ y0 y1, Q y0 y1 → Q' y0 y1) : ∀ (z0 : Nat) (z1 : Int32) (z2 : Int32) (z3 : Int32) (z4 : gM), wM_bits_l4 Q z0 z1 z2 z3 z4 → wM_bits_l4 Q' z0 z1 z2 z3 z4 := by
  intro z0
  induction z0 with
  | zero => intro z1 z2 z3 z4 h; exact h
  | succ z0 ih =>
    intro z1 z2 z3 z4
    rw [wM_bits_l4, wM_bits_l4]
    repeat' (first | exact hQ _ _ | exact ih _ _ _ _ | with_reducible exact id | with_reducible refine mA ?_ ?_ | with_reducible refine mE fun _ => ?_ | with_reducible refine mF fun _ => ?_)
theorem wM_bits_mono {x0 : Int32} {σ : gM} {Q Q' : Int32 → gM → Prop} (hQ : ∀ y0 y1, Q y0 y1 → Q' y0 y1) : wM_bits x0 σ Q → wM_bits x0 σ Q' := by
  unfold wM_bits
  repeat' (first | exact hQ _ _ | with_reducible exact id | with_reducible refine wM_bits_l4_mono (fun _ _ => ?_) _ _ _ _ _ | with_reducible refine mA ?_ ?_ | with_reducible refine mE fun _ => ?_ | with_reducible refine mF fun _ => ?_)
theorem wM_rots_b75_mono {x2 : Int32} {x3 : Int32} {s0 : Int32} {σ : gM} {Q Q' : Int32 → gM → Prop} (hQ : ∀ y0 y1, Q y0 y1 → Q' y0 y1) : wM_rots_b75 Q x2 x3 s0 σ → wM_rots_b75 Q' x2 x3 s0 σ := by
  unfold wM_rots_b75
  repeat' (first | exact hQ _ _ | with_reducible exact id | with_reducible refine wM_bits_mono (fun _ _ => ?_) | with_reducible refine mA ?_ ?_ | with_reducible refine mE fun _ => ?_ | with_reducible refine mF fun _ => ?_)
theorem wM_rots_mono {x1 : Int32} {x2 : Int32} {σ : gM} {Q Q' : Int32 → gM → Prop} (hQ : ∀ y0 y1, Q y0 y1 → Q' y0 y1) : wM_rots x1 x2 σ Q → wM_rots x1 x2 σ Q' := by
  unfold wM_rots
  repeat' (first | exact hQ _ _ | with_reducible exact id | with_reducible refine wM_in_mono (fun _ _ => ?_) | with_reducible refine wM_rotten_mono (fun _ _ => ?_) | with_reducible refine wM_rots_b75_mono (fun _ _ => ?_) | with_reducible refine wM_heap_mono (fun _ _ => ?_) | with_reducible refine mA ?_ ?_ | with_reducible refine mE fun _ => ?_ | with_reducible refine mF fun _ => ?_)
theorem wM_reach_b78_mono {x2 : Int32} {x3 : Int32} {x5 : Int32} {x6 : Int32} {s0 : Int32} {s1 : Int32} {σ : gM} {Q Q' : Int32 → gM → Prop} (hQ : ∀ y0 y1, Q y0 y1 → Q' y0 y1) {K44 K44' : Int32 → Int32 → Int32 → Int32 → Int32 → gM → Prop} (hK44 : ∀ y0 y1 y2 y3 y4 y5, K44 y0 y1 y2 y3 y4 y5 → K44' y0 y1 y2 y3 y4 y5) : wM_reach_b78 Q K44 x2 x3 x5 x6 s0 s1 σ → wM_reach_b78 Q' K44' x2 x3 x5 x6 s0 s1 σ := by
  unfold wM_reach_b78
  repeat' (first | exact hQ _ _ | exact hK44 _ _ _ _ _ _ | with_reducible exact id | with_reducible refine wM_heap_mono (fun _ _ => ?_) | with_reducible refine wM_valueOf_mono (fun _ _ => ?_) | with_reducible refine mA ?_ ?_ | with_reducible refine mE fun _ => ?_ | with_reducible refine mF fun _ => ?_)
theorem wM_reach_l44_mono  {Q Q' : Int32 → gM → Prop} (hQ : ∀ y0 y1, Q y0 y1 → Q' y0 y1) : ∀ (z0 : Nat) (z1 : Int32) (z2 : Int32) (z3 : Int32) (z4 : Int32) (z5 : Int32) (z6 : gM), wM_reach_l44 Q z0 z1 z2 z3 z4 z5 z6 → wM_reach_l44 Q' z0 z1 z2 z3 z4 z5 z6 := by
  intro z0
  induction z0 with
  | zero => intro z1 z2 z3 z4 z5 z6 h; exact h
  | succ z0 ih =>
    intro z1 z2 z3 z4 z5 z6
    rw [wM_reach_l44, wM_reach_l44]
    repeat' (first | exact hQ _ _ | exact ih _ _ _ _ _ _ | with_reducible exact id | with_reducible refine wM_reach_b78_mono (fun _ _ => ?_) (fun _ _ _ _ _ _ => ?_) | with_reducible refine wM_heap_mono (fun _ _ => ?_) | with_reducible refine wM_valueOf_mono (fun _ _ => ?_) | with_reducible refine mA ?_ ?_ | with_reducible refine mE fun _ => ?_ | with_reducible refine mF fun _ => ?_)
theorem wM_reach_mono {x1 : Int32} {x2 : Int32} {σ : gM} {Q Q' : Int32 → gM → Prop} (hQ : ∀ y0 y1, Q y0 y1 → Q' y0 y1) : wM_reach x1 x2 σ Q → wM_reach x1 x2 σ Q' := by
  unfold wM_reach
  repeat' (first | exact hQ _ _ | with_reducible exact id | with_reducible refine wM_isWareAt_mono (fun _ _ => ?_) | with_reducible refine wM_in_mono (fun _ _ => ?_) | with_reducible refine wM_placeOf_mono (fun _ _ => ?_) | with_reducible refine wM_reach_l44_mono (fun _ _ => ?_) _ _ _ _ _ _ _ | with_reducible refine mA ?_ ?_ | with_reducible refine mE fun _ => ?_ | with_reducible refine mF fun _ => ?_)
theorem wM_harvest_l210_mono  {Q Q' : Int32 → gM → Prop} (hQ : ∀ y0 y1, Q y0 y1 → Q' y0 y1) : ∀ (z0 : Nat) (z1 : Int32) (z2 : Int32) (z3 : Int32) (z4 : gM), wM_harvest_l210 Q z0 z1 z2 z3 z4 → wM_harvest_l210 Q' z0 z1 z2 z3 z4 := by
  intro z0
  induction z0 with
  | zero => intro z1 z2 z3 z4 h; exact h
  | succ z0 ih =>
    intro z1 z2 z3 z4
    rw [wM_harvest_l210, wM_harvest_l210]
    repeat' (first | exact hQ _ _ | exact ih _ _ _ _ | with_reducible exact id | with_reducible refine mA ?_ ?_ | with_reducible refine mE fun _ => ?_ | with_reducible refine mF fun _ => ?_)
theorem wM_harvest_b130_mono {x1 : Int32} {x2 : Int32} {x3 : Int32} {x4 : Int32} {x5 : Int32} {x6 : Int32} {x7 : Int32} {s0 : Int32} {σ : gM} {Q Q' : Int32 → gM → Prop} (hQ : ∀ y0 y1, Q y0 y1 → Q' y0 y1) {K26 K26' : Int32 → Int32 → Int32 → Int32 → gM → Prop} (hK26 : ∀ y0 y1 y2 y3 y4, K26 y0 y1 y2 y3 y4 → K26' y0 y1 y2 y3 y4) {K34 K34' : Int32 → Int32 → Int32 → Int32 → Int32 → gM → Prop} (hK34 : ∀ y0 y1 y2 y3 y4 y5, K34 y0 y1 y2 y3 y4 y5 → K34' y0 y1 y2 y3 y4 y5) : wM_harvest_b130 Q K26 K34 x1 x2 x3 x4 x5 x6 x7 s0 σ → wM_harvest_b130 Q' K26' K34' x1 x2 x3 x4 x5 x6 x7 s0 σ := by
  unfold wM_harvest_b130
  repeat' (first | exact hQ _ _ | exact hK26 _ _ _ _ _ | exact hK34 _ _ _ _ _ _ | with_reducible exact id | with_reducible refine mA ?_ ?_ | with_reducible refine mE fun _ => ?_ | with_reducible refine mF fun _ => ?_)
theorem wM_harvest_b88_mono {x1 : Int32} {x2 : Int32} {x3 : Int32} {x4 : Int32} {x5 : Int32} {x6 : Int32} {s0 : Int32} {σ : gM} {Q Q' : Int32 → gM → Prop} (hQ : ∀ y0 y1, Q y0 y1 → Q' y0 y1) {K26 K26' : Int32 → Int32 → Int32 → Int32 → gM → Prop} (hK26 : ∀ y0 y1 y2 y3 y4, K26 y0 y1 y2 y3 y4 → K26' y0 y1 y2 y3 y4) {K34 K34' : Int32 → Int32 → Int32 → Int32 → Int32 → gM → Prop} (hK34 : ∀ y0 y1 y2 y3 y4 y5, K34 y0 y1 y2 y3 y4 y5 → K34' y0 y1 y2 y3 y4 y5) : wM_harvest_b88 Q K26 K34 x1 x2 x3 x4 x5 x6 s0 σ → wM_harvest_b88 Q' K26' K34' x1 x2 x3 x4 x5 x6 s0 σ := by
  unfold wM_harvest_b88
  repeat' (first | exact hQ _ _ | exact hK26 _ _ _ _ _ | exact hK34 _ _ _ _ _ _ | with_reducible exact id | with_reducible refine wM_harvest_b130_mono (fun _ _ => ?_) (fun _ _ _ _ _ => ?_) (fun _ _ _ _ _ _ => ?_) | with_reducible refine wM_heap_mono (fun _ _ => ?_) | with_reducible refine wM_worthOf_mono (fun _ _ => ?_) | with_reducible refine mA ?_ ?_ | with_reducible refine mE fun _ => ?_ | with_reducible refine mF fun _ => ?_)
theorem wM_harvest_l34_mono  {Q Q' : Int32 → gM → Prop} (hQ : ∀ y0 y1, Q y0 y1 → Q' y0 y1) {K26 K26' : Int32 → Int32 → Int32 → Int32 → gM → Prop} (hK26 : ∀ y0 y1 y2 y3 y4, K26 y0 y1 y2 y3 y4 → K26' y0 y1 y2 y3 y4) : ∀ (z0 : Nat) (z1 : Int32) (z2 : Int32) (z3 : Int32) (z4 : Int32) (z5 : Int32) (z6 : gM), wM_harvest_l34 Q K26 z0 z1 z2 z3 z4 z5 z6 → wM_harvest_l34 Q' K26' z0 z1 z2 z3 z4 z5 z6 := by
  intro z0
  induction z0 with
  | zero => intro z1 z2 z3 z4 z5 z6 h; exact h
  | succ z0 ih =>
    intro z1 z2 z3 z4 z5 z6
    rw [wM_harvest_l34, wM_harvest_l34]
    repeat' (first | exact hQ _ _ | exact hK26 _ _ _ _ _ | exact ih _ _ _ _ _ _ | with_reducible exact id | with_reducible refine wM_harvest_b88_mono (fun _ _ => ?_) (fun _ _ _ _ _ => ?_) (fun _ _ _ _ _ _ => ?_) | with_reducible refine wM_heap_mono (fun _ _ => ?_) | with_reducible refine wM_worthOf_mono (fun _ _ => ?_) | with_reducible refine mA ?_ ?_ | with_reducible refine mE fun _ => ?_ | with_reducible refine mF fun _ => ?_)
theorem wM_harvest_l26_mono  {Q Q' : Int32 → gM → Prop} (hQ : ∀ y0 y1, Q y0 y1 → Q' y0 y1) : ∀ (z0 : Nat) (z1 : Int32) (z2 : Int32) (z3 : Int32) (z4 : Int32) (z5 : gM), wM_harvest_l26 Q z0 z1 z2 z3 z4 z5 → wM_harvest_l26 Q' z0 z1 z2 z3 z4 z5 := by
  intro z0
  induction z0 with
  | zero => intro z1 z2 z3 z4 z5 h; exact h
  | succ z0 ih =>
    intro z1 z2 z3 z4 z5
    rw [wM_harvest_l26, wM_harvest_l26]
    repeat' (first | exact hQ _ _ | exact ih _ _ _ _ _ | with_reducible exact id | with_reducible refine wM_harvest_l210_mono (fun _ _ => ?_) _ _ _ _ _ | with_reducible refine wM_harvest_l34_mono (fun _ _ => ?_) (fun _ _ _ _ _ => ?_) _ _ _ _ _ _ _ | with_reducible refine mA ?_ ?_ | with_reducible refine mE fun _ => ?_ | with_reducible refine mF fun _ => ?_)
theorem wM_harvest_mono {x1 : Int32} {x2 : Int32} {σ : gM} {Q Q' : Int32 → gM → Prop} (hQ : ∀ y0 y1, Q y0 y1 → Q' y0 y1) : wM_harvest x1 x2 σ Q → wM_harvest x1 x2 σ Q' := by
  unfold wM_harvest
  repeat' (first | exact hQ _ _ | with_reducible exact id | with_reducible refine wM_isBuyerAt_mono (fun _ _ => ?_) | with_reducible refine wM_harvest_l26_mono (fun _ _ => ?_) _ _ _ _ _ _ | with_reducible refine mA ?_ ?_ | with_reducible refine mE fun _ => ?_ | with_reducible refine mF fun _ => ?_)
theorem wM_judge_b154_mono {x1 : Int32} {x2 : Int32} {x3 : Int32} {x5 : Int32} {x6 : Int32} {x7 : Int32} {x8 : Int32} {σ : gM} {Q Q' : Int32 → gM → Prop} (hQ : ∀ y0 y1, Q y0 y1 → Q' y0 y1) {K108 K108' : Int32 → Int32 → Int32 → Int32 → Int32 → Int32 → gM → Prop} (hK108 : ∀ y0 y1 y2 y3 y4 y5 y6, K108 y0 y1 y2 y3 y4 y5 y6 → K108' y0 y1 y2 y3 y4 y5 y6) : wM_judge_b154 Q K108 x1 x2 x3 x5 x6 x7 x8 σ → wM_judge_b154 Q' K108' x1 x2 x3 x5 x6 x7 x8 σ := by
  unfold wM_judge_b154
  repeat' (first | exact hQ _ _ | exact hK108 _ _ _ _ _ _ _ | with_reducible exact id | with_reducible refine wM_did_mono (fun _ _ => ?_) | with_reducible refine wM_heap_mono (fun _ _ => ?_) | with_reducible refine mA ?_ ?_ | with_reducible refine mE fun _ => ?_ | with_reducible refine mF fun _ => ?_)
theorem wM_judge_l108_mono  {Q Q' : Int32 → gM → Prop} (hQ : ∀ y0 y1, Q y0 y1 → Q' y0 y1) : ∀ (z0 : Nat) (z1 : Int32) (z2 : Int32) (z3 : Int32) (z4 : Int32) (z5 : Int32) (z6 : Int32) (z7 : gM), wM_judge_l108 Q z0 z1 z2 z3 z4 z5 z6 z7 → wM_judge_l108 Q' z0 z1 z2 z3 z4 z5 z6 z7 := by
  intro z0
  induction z0 with
  | zero => intro z1 z2 z3 z4 z5 z6 z7 h; exact h
  | succ z0 ih =>
    intro z1 z2 z3 z4 z5 z6 z7
    rw [wM_judge_l108, wM_judge_l108]
    repeat' (first | exact hQ _ _ | exact ih _ _ _ _ _ _ _ | with_reducible exact id | with_reducible refine wM_did_mono (fun _ _ => ?_) | with_reducible refine wM_judge_b154_mono (fun _ _ => ?_) (fun _ _ _ _ _ _ _ => ?_) | with_reducible refine wM_heap_mono (fun _ _ => ?_) | with_reducible refine mA ?_ ?_ | with_reducible refine mE fun _ => ?_ | with_reducible refine mF fun _ => ?_)
theorem wM_judge_l56_mono  {Q Q' : Int32 → gM → Prop} (hQ : ∀ y0 y1, Q y0 y1 → Q' y0 y1) : ∀ (z0 : Nat) (z1 : Int32) (z2 : Int32) (z3 : Int32) (z4 : Int32) (z5 : gM), wM_judge_l56 Q z0 z1 z2 z3 z4 z5 → wM_judge_l56 Q' z0 z1 z2 z3 z4 z5 := by
  intro z0
  induction z0 with
  | zero => intro z1 z2 z3 z4 z5 h; exact h
  | succ z0 ih =>
    intro z1 z2 z3 z4 z5
    rw [wM_judge_l56, wM_judge_l56]
    repeat' (first | exact hQ _ _ | exact ih _ _ _ _ _ | with_reducible exact id | with_reducible refine wM_judge_l108_mono (fun _ _ => ?_) _ _ _ _ _ _ _ _ | with_reducible refine wM_isWareAt_mono (fun _ _ => ?_) | with_reducible refine mA ?_ ?_ | with_reducible refine mE fun _ => ?_ | with_reducible refine mF fun _ => ?_)
theorem wM_judge_mono {x1 : Int32} {x2 : Int32} {x3 : Int32} {σ : gM} {Q Q' : Int32 → gM → Prop} (hQ : ∀ y0 y1, Q y0 y1 → Q' y0 y1) : wM_judge x1 x2 x3 σ Q → wM_judge x1 x2 x3 σ Q' := by
  unfold wM_judge
  repeat' (first | exact hQ _ _ | with_reducible exact id | with_reducible refine wM_isRow_mono (fun _ _ => ?_) | with_reducible refine wM_in_mono (fun _ _ => ?_) | with_reducible refine wM_whyNot_mono (fun _ _ => ?_) | with_reducible refine wM_judge_l56_mono (fun _ _ => ?_) _ _ _ _ _ _ | with_reducible refine wM_finds_mono (fun _ _ => ?_) | with_reducible refine mA ?_ ?_ | with_reducible refine mE fun _ => ?_ | with_reducible refine mF fun _ => ?_)
theorem wM_heard_l315_mono  {Q Q' : Int32 → gM → Prop} (hQ : ∀ y0 y1, Q y0 y1 → Q' y0 y1) {K284 K284' : Int32 → Int32 → Int32 → Int32 → Int32 → Int32 → gM → Prop} (hK284 : ∀ y0 y1 y2 y3 y4 y5 y6, K284 y0 y1 y2 y3 y4 y5 y6 → K284' y0 y1 y2 y3 y4 y5 y6) : ∀ (z0 : Nat) (z1 : Int32) (z2 : Int32) (z3 : Int32) (z4 : Int32) (z5 : Int32) (z6 : Int32) (z7 : Int32) (z8 : Int32) (z9 : Int32) (z10 : gM), wM_heard_l315 Q K284 z0 z1 z2 z3 z4 z5 z6 z7 z8 z9 z10 → wM_heard_l315 Q' K284' z0 z1 z2 z3 z4 z5 z6 z7 z8 z9 z10 := by
  intro z0
  induction z0 with
  | zero => intro z1 z2 z3 z4 z5 z6 z7 z8 z9 z10 h; exact h
  | succ z0 ih =>
    intro z1 z2 z3 z4 z5 z6 z7 z8 z9 z10
    rw [wM_heard_l315, wM_heard_l315]
    repeat' (first | exact hQ _ _ | exact hK284 _ _ _ _ _ _ _ | exact ih _ _ _ _ _ _ _ _ _ _ | with_reducible exact id | with_reducible refine wM_heap_mono (fun _ _ => ?_) | with_reducible refine mA ?_ ?_ | with_reducible refine mE fun _ => ?_ | with_reducible refine mF fun _ => ?_)
theorem wM_heard_l284_mono  {Q Q' : Int32 → gM → Prop} (hQ : ∀ y0 y1, Q y0 y1 → Q' y0 y1) : ∀ (z0 : Nat) (z1 : Int32) (z2 : Int32) (z3 : Int32) (z4 : Int32) (z5 : Int32) (z6 : Int32) (z7 : gM), wM_heard_l284 Q z0 z1 z2 z3 z4 z5 z6 z7 → wM_heard_l284 Q' z0 z1 z2 z3 z4 z5 z6 z7 := by
  intro z0
  induction z0 with
  | zero => intro z1 z2 z3 z4 z5 z6 z7 h; exact h
  | succ z0 ih =>
    intro z1 z2 z3 z4 z5 z6 z7
    rw [wM_heard_l284, wM_heard_l284]
    repeat' (first | exact hQ _ _ | exact ih _ _ _ _ _ _ _ | with_reducible exact id | with_reducible refine wM_did_mono (fun _ _ => ?_) | with_reducible refine wM_heard_l315_mono (fun _ _ => ?_) (fun _ _ _ _ _ _ _ => ?_) _ _ _ _ _ _ _ _ _ _ _ | with_reducible refine mA ?_ ?_ | with_reducible refine mE fun _ => ?_ | with_reducible refine mF fun _ => ?_)
theorem wM_heard_b210_mono {x1 : Int32} {x2 : Int32} {x3 : Int32} {x4 : Int32} {x5 : Int32} {x7 : Int32} {x8 : Int32} {x9 : Int32} {x10 : Int32} {x11 : Int32} {σ : gM} {Q Q' : Int32 → gM → Prop} (hQ : ∀ y0 y1, Q y0 y1 → Q' y0 y1) {K127 K127' : Int32 → Int32 → Int32 → Int32 → Int32 → Int32 → Int32 → gM → Prop} (hK127 : ∀ y0 y1 y2 y3 y4 y5 y6 y7, K127 y0 y1 y2 y3 y4 y5 y6 y7 → K127' y0 y1 y2 y3 y4 y5 y6 y7) {K137 K137' : Int32 → Int32 → Int32 → Int32 → Int32 → Int32 → Int32 → Int32 → gM → Prop} (hK137 : ∀ y0 y1 y2 y3 y4 y5 y6 y7 y8, K137 y0 y1 y2 y3 y4 y5 y6 y7 y8 → K137' y0 y1 y2 y3 y4 y5 y6 y7 y8) : wM_heard_b210 Q K127 K137 x1 x2 x3 x4 x5 x7 x8 x9 x10 x11 σ → wM_heard_b210 Q' K127' K137' x1 x2 x3 x4 x5 x7 x8 x9 x10 x11 σ := by
  unfold wM_heard_b210
  repeat' (first | exact hQ _ _ | exact hK127 _ _ _ _ _ _ _ _ | exact hK137 _ _ _ _ _ _ _ _ _ | with_reducible exact id | with_reducible refine wM_heap_mono (fun _ _ => ?_) | with_reducible refine wM_worthOf_mono (fun _ _ => ?_) | with_reducible refine mA ?_ ?_ | with_reducible refine mE fun _ => ?_ | with_reducible refine mF fun _ => ?_)
theorem wM_heard_l137_mono  {Q Q' : Int32 → gM → Prop} (hQ : ∀ y0 y1, Q y0 y1 → Q' y0 y1) {K127 K127' : Int32 → Int32 → Int32 → Int32 → Int32 → Int32 → Int32 → gM → Prop} (hK127 : ∀ y0 y1 y2 y3 y4 y5 y6 y7, K127 y0 y1 y2 y3 y4 y5 y6 y7 → K127' y0 y1 y2 y3 y4 y5 y6 y7) : ∀ (z0 : Nat) (z1 : Int32) (z2 : Int32) (z3 : Int32) (z4 : Int32) (z5 : Int32) (z6 : Int32) (z7 : Int32) (z8 : Int32) (z9 : gM), wM_heard_l137 Q K127 z0 z1 z2 z3 z4 z5 z6 z7 z8 z9 → wM_heard_l137 Q' K127' z0 z1 z2 z3 z4 z5 z6 z7 z8 z9 := by
  intro z0
  induction z0 with
  | zero => intro z1 z2 z3 z4 z5 z6 z7 z8 z9 h; exact h
  | succ z0 ih =>
    intro z1 z2 z3 z4 z5 z6 z7 z8 z9
    rw [wM_heard_l137, wM_heard_l137]
    repeat' (first | exact hQ _ _ | exact hK127 _ _ _ _ _ _ _ _ | exact ih _ _ _ _ _ _ _ _ _ | with_reducible exact id | with_reducible refine wM_heap_mono (fun _ _ => ?_) | with_reducible refine wM_worthOf_mono (fun _ _ => ?_) | with_reducible refine wM_heard_b210_mono (fun _ _ => ?_) (fun _ _ _ _ _ _ _ _ => ?_) (fun _ _ _ _ _ _ _ _ _ => ?_) | with_reducible refine mA ?_ ?_ | with_reducible refine mE fun _ => ?_ | with_reducible refine mF fun _ => ?_)
theorem wM_heard_l127_mono  {Q Q' : Int32 → gM → Prop} (hQ : ∀ y0 y1, Q y0 y1 → Q' y0 y1) : ∀ (z0 : Nat) (z1 : Int32) (z2 : Int32) (z3 : Int32) (z4 : Int32) (z5 : Int32) (z6 : Int32) (z7 : Int32) (z8 : gM), wM_heard_l127 Q z0 z1 z2 z3 z4 z5 z6 z7 z8 → wM_heard_l127 Q' z0 z1 z2 z3 z4 z5 z6 z7 z8 := by
  intro z0
  induction z0 with
  | zero => intro z1 z2 z3 z4 z5 z6 z7 z8 h; exact h
  | succ z0 ih =>
    intro z1 z2 z3 z4 z5 z6 z7 z8
    rw [wM_heard_l127, wM_heard_l127]
    repeat' (first | exact hQ _ _ | exact ih _ _ _ _ _ _ _ _ | with_reducible exact id | with_reducible refine wM_heard_l284_mono (fun _ _ => ?_) _ _ _ _ _ _ _ _ | with_reducible refine wM_heard_l137_mono (fun _ _ => ?_) (fun _ _ _ _ _ _ _ _ => ?_) _ _ _ _ _ _ _ _ _ _ | with_reducible refine mA ?_ ?_ | with_reducible refine mE fun _ => ?_ | with_reducible refine mF fun _ => ?_)
theorem wM_heard_l95_mono  {Q Q' : Int32 → gM → Prop} (hQ : ∀ y0 y1, Q y0 y1 → Q' y0 y1) : ∀ (z0 : Nat) (z1 : Int32) (z2 : Int32) (z3 : Int32) (z4 : Int32) (z5 : Int32) (z6 : Int32) (z7 : Int32) (z8 : gM), wM_heard_l95 Q z0 z1 z2 z3 z4 z5 z6 z7 z8 → wM_heard_l95 Q' z0 z1 z2 z3 z4 z5 z6 z7 z8 := by
  intro z0
  induction z0 with
  | zero => intro z1 z2 z3 z4 z5 z6 z7 z8 h; exact h
  | succ z0 ih =>
    intro z1 z2 z3 z4 z5 z6 z7 z8
    rw [wM_heard_l95, wM_heard_l95]
    repeat' (first | exact hQ _ _ | exact ih _ _ _ _ _ _ _ _ | with_reducible exact id | with_reducible refine wM_heard_l127_mono (fun _ _ => ?_) _ _ _ _ _ _ _ _ _ | with_reducible refine mA ?_ ?_ | with_reducible refine mE fun _ => ?_ | with_reducible refine mF fun _ => ?_)
theorem wM_heard_mono {x1 : Int32} {x2 : Int32} {x3 : Int32} {x4 : Int32} {x5 : Int32} {σ : gM} {Q Q' : Int32 → gM → Prop} (hQ : ∀ y0 y1, Q y0 y1 → Q' y0 y1) : wM_heard x1 x2 x3 x4 x5 σ Q → wM_heard x1 x2 x3 x4 x5 σ Q' := by
  unfold wM_heard
  repeat' (first | exact hQ _ _ | with_reducible exact id | with_reducible refine wM_isBuyerAt_mono (fun _ _ => ?_) | with_reducible refine wM_isRow_mono (fun _ _ => ?_) | with_reducible refine wM_in_mono (fun _ _ => ?_) | with_reducible refine wM_whyNot_mono (fun _ _ => ?_) | with_reducible refine wM_heard_l95_mono (fun _ _ => ?_) _ _ _ _ _ _ _ _ _ | with_reducible refine wM_did_mono (fun _ _ => ?_) | with_reducible refine wM_finds_mono (fun _ _ => ?_) | with_reducible refine mA ?_ ?_ | with_reducible refine mE fun _ => ?_ | with_reducible refine mF fun _ => ?_)
theorem wM_mostOf_l19_mono  {Q Q' : Int32 → gM → Prop} (hQ : ∀ y0 y1, Q y0 y1 → Q' y0 y1) {K6 K6' : Int32 → Int32 → Int32 → Int32 → Int32 → Int32 → gM → Prop} (hK6 : ∀ y0 y1 y2 y3 y4 y5 y6, K6 y0 y1 y2 y3 y4 y5 y6 → K6' y0 y1 y2 y3 y4 y5 y6) : ∀ (z0 : Nat) (z1 : Int32) (z2 : Int32) (z3 : Int32) (z4 : Int32) (z5 : Int32) (z6 : Int32) (z7 : Int32) (z8 : Int32) (z9 : gM), wM_mostOf_l19 Q K6 z0 z1 z2 z3 z4 z5 z6 z7 z8 z9 → wM_mostOf_l19 Q' K6' z0 z1 z2 z3 z4 z5 z6 z7 z8 z9 := by
  intro z0
  induction z0 with
  | zero => intro z1 z2 z3 z4 z5 z6 z7 z8 z9 h; exact h
  | succ z0 ih =>
    intro z1 z2 z3 z4 z5 z6 z7 z8 z9
    rw [wM_mostOf_l19, wM_mostOf_l19]
    repeat' (first | exact hQ _ _ | exact hK6 _ _ _ _ _ _ _ | exact ih _ _ _ _ _ _ _ _ _ | with_reducible exact id | with_reducible refine wM_heap_mono (fun _ _ => ?_) | with_reducible refine wM_worthOf_mono (fun _ _ => ?_) | with_reducible refine mA ?_ ?_ | with_reducible refine mE fun _ => ?_ | with_reducible refine mF fun _ => ?_)
theorem wM_mostOf_l6_mono  {Q Q' : Int32 → gM → Prop} (hQ : ∀ y0 y1, Q y0 y1 → Q' y0 y1) : ∀ (z0 : Nat) (z1 : Int32) (z2 : Int32) (z3 : Int32) (z4 : Int32) (z5 : Int32) (z6 : Int32) (z7 : gM), wM_mostOf_l6 Q z0 z1 z2 z3 z4 z5 z6 z7 → wM_mostOf_l6 Q' z0 z1 z2 z3 z4 z5 z6 z7 := by
  intro z0
  induction z0 with
  | zero => intro z1 z2 z3 z4 z5 z6 z7 h; exact h
  | succ z0 ih =>
    intro z1 z2 z3 z4 z5 z6 z7
    rw [wM_mostOf_l6, wM_mostOf_l6]
    repeat' (first | exact hQ _ _ | exact ih _ _ _ _ _ _ _ | with_reducible exact id | with_reducible refine wM_mostOf_l19_mono (fun _ _ => ?_) (fun _ _ _ _ _ _ _ => ?_) _ _ _ _ _ _ _ _ _ _ | with_reducible refine mA ?_ ?_ | with_reducible refine mE fun _ => ?_ | with_reducible refine mF fun _ => ?_)
theorem wM_mostOf_mono {x1 : Int32} {x2 : Int32} {x3 : Int32} {x4 : Int32} {σ : gM} {Q Q' : Int32 → gM → Prop} (hQ : ∀ y0 y1, Q y0 y1 → Q' y0 y1) : wM_mostOf x1 x2 x3 x4 σ Q → wM_mostOf x1 x2 x3 x4 σ Q' := by
  unfold wM_mostOf
  repeat' (first | exact hQ _ _ | with_reducible exact id | with_reducible refine wM_mostOf_l6_mono (fun _ _ => ?_) _ _ _ _ _ _ _ _ | with_reducible refine mA ?_ ?_ | with_reducible refine mE fun _ => ?_ | with_reducible refine mF fun _ => ?_)
theorem wM_apart_l45_mono  {Q Q' : Int32 → gM → Prop} (hQ : ∀ y0 y1, Q y0 y1 → Q' y0 y1) : ∀ (z0 : Nat) (z1 : Int32) (z2 : Int32) (z3 : Int32) (z4 : Int32) (z5 : Int32) (z6 : Int32) (z7 : gM), wM_apart_l45 Q z0 z1 z2 z3 z4 z5 z6 z7 → wM_apart_l45 Q' z0 z1 z2 z3 z4 z5 z6 z7 := by
  intro z0
  induction z0 with
  | zero => intro z1 z2 z3 z4 z5 z6 z7 h; exact h
  | succ z0 ih =>
    intro z1 z2 z3 z4 z5 z6 z7
    rw [wM_apart_l45, wM_apart_l45]
    repeat' (first | exact hQ _ _ | exact ih _ _ _ _ _ _ _ | with_reducible exact id | with_reducible refine wM_mostOf_mono (fun _ _ => ?_) | with_reducible refine mA ?_ ?_ | with_reducible refine mE fun _ => ?_ | with_reducible refine mF fun _ => ?_)
theorem wM_apart_mono {x1 : Int32} {x2 : Int32} {x3 : Int32} {σ : gM} {Q Q' : Int32 → gM → Prop} (hQ : ∀ y0 y1, Q y0 y1 → Q' y0 y1) : wM_apart x1 x2 x3 σ Q → wM_apart x1 x2 x3 σ Q' := by
  unfold wM_apart
  repeat' (first | exact hQ _ _ | with_reducible exact id | with_reducible refine wM_isBuyerAt_mono (fun _ _ => ?_) | with_reducible refine wM_in_mono (fun _ _ => ?_) | with_reducible refine wM_apart_l45_mono (fun _ _ => ?_) _ _ _ _ _ _ _ _ | with_reducible refine mA ?_ ?_ | with_reducible refine mE fun _ => ?_ | with_reducible refine mF fun _ => ?_)
theorem wM_image_l26_mono  {Q Q' : Int32 → gM → Prop} (hQ : ∀ y0 y1, Q y0 y1 → Q' y0 y1) : ∀ (z0 : Nat) (z1 : Int32) (z2 : Int32) (z3 : gM), wM_image_l26 Q z0 z1 z2 z3 → wM_image_l26 Q' z0 z1 z2 z3 := by
  intro z0
  induction z0 with
  | zero => intro z1 z2 z3 h; exact h
  | succ z0 ih =>
    intro z1 z2 z3
    rw [wM_image_l26, wM_image_l26]
    repeat' (first | exact hQ _ _ | exact ih _ _ _ | with_reducible exact id | with_reducible refine mA ?_ ?_ | with_reducible refine mE fun _ => ?_ | with_reducible refine mF fun _ => ?_)
theorem wM_image_mono {x1 : Int32} {σ : gM} {Q Q' : Int32 → gM → Prop} (hQ : ∀ y0 y1, Q y0 y1 → Q' y0 y1) : wM_image x1 σ Q → wM_image x1 σ Q' := by
  unfold wM_image
  repeat' (first | exact hQ _ _ | with_reducible exact id | with_reducible refine wM_in_mono (fun _ _ => ?_) | with_reducible refine wM_image_l26_mono (fun _ _ => ?_) _ _ _ _ | with_reducible refine mA ?_ ?_ | with_reducible refine mE fun _ => ?_ | with_reducible refine mF fun _ => ?_)
theorem wM_restore_l26_mono  {Q Q' : Int32 → gM → Prop} (hQ : ∀ y0 y1, Q y0 y1 → Q' y0 y1) : ∀ (z0 : Nat) (z1 : Int32) (z2 : Int32) (z3 : gM), wM_restore_l26 Q z0 z1 z2 z3 → wM_restore_l26 Q' z0 z1 z2 z3 := by
  intro z0
  induction z0 with
  | zero => intro z1 z2 z3 h; exact h
  | succ z0 ih =>
    intro z1 z2 z3
    rw [wM_restore_l26, wM_restore_l26]
    repeat' (first | exact hQ _ _ | exact ih _ _ _ | with_reducible exact id | with_reducible refine mA ?_ ?_ | with_reducible refine mE fun _ => ?_ | with_reducible refine mF fun _ => ?_)
theorem wM_restore_mono {x1 : Int32} {σ : gM} {Q Q' : Int32 → gM → Prop} (hQ : ∀ y0 y1, Q y0 y1 → Q' y0 y1) : wM_restore x1 σ Q → wM_restore x1 σ Q' := by
  unfold wM_restore
  repeat' (first | exact hQ _ _ | with_reducible exact id | with_reducible refine wM_in_mono (fun _ _ => ?_) | with_reducible refine wM_restore_l26_mono (fun _ _ => ?_) _ _ _ _ | with_reducible refine mA ?_ ?_ | with_reducible refine mE fun _ => ?_ | with_reducible refine mF fun _ => ?_)
theorem wM_kind_mono {x1 : Int32} {σ : gM} {Q Q' : Int32 → gM → Prop} (hQ : ∀ y0 y1, Q y0 y1 → Q' y0 y1) : wM_kind x1 σ Q → wM_kind x1 σ Q' := by
  unfold wM_kind
  repeat' (first | exact hQ _ _ | with_reducible exact id | with_reducible refine wM_isWareAt_mono (fun _ _ => ?_) | with_reducible refine wM_kindOf_mono (fun _ _ => ?_) | with_reducible refine mA ?_ ?_ | with_reducible refine mE fun _ => ?_ | with_reducible refine mF fun _ => ?_)
theorem wM_as_mono {x1 : Int32} {x2 : Int32} {σ : gM} {Q Q' : Int32 → gM → Prop} (hQ : ∀ y0 y1, Q y0 y1 → Q' y0 y1) : wM_as x1 x2 σ Q → wM_as x1 x2 σ Q' := by
  unfold wM_as
  repeat' (first | exact hQ _ _ | with_reducible exact id | with_reducible refine wM_isWareAt_mono (fun _ _ => ?_) | with_reducible refine wM_in_mono (fun _ _ => ?_) | with_reducible refine wM_kindOf_mono (fun _ _ => ?_) | with_reducible refine wM_isOf_mono (fun _ _ => ?_) | with_reducible refine wM_finds_mono (fun _ _ => ?_) | with_reducible refine wM_did_mono (fun _ _ => ?_) | with_reducible refine mA ?_ ?_ | with_reducible refine mE fun _ => ?_ | with_reducible refine mF fun _ => ?_)
theorem wM_leave_mono {x1 : Int32} {σ : gM} {Q Q' : gM → Prop} (hQ : ∀ y0, Q y0 → Q' y0) : wM_leave x1 σ Q → wM_leave x1 σ Q' := by
  unfold wM_leave
  repeat' (first | exact hQ _ | with_reducible exact id | with_reducible refine mA ?_ ?_ | with_reducible refine mE fun _ => ?_ | with_reducible refine mF fun _ => ?_)
theorem wM_fruitMark_b27_mono {x1 : Int32} {x2 : Int32} {σ : gM} {Q Q' : Int32 → gM → Prop} (hQ : ∀ y0 y1, Q y0 y1 → Q' y0 y1) : wM_fruitMark_b27 Q x1 x2 σ → wM_fruitMark_b27 Q' x1 x2 σ := by
  unfold wM_fruitMark_b27
  repeat' (first | exact hQ _ _ | with_reducible exact id | with_reducible refine wM_leave_mono (fun _ => ?_) | with_reducible refine mA ?_ ?_ | with_reducible refine mE fun _ => ?_ | with_reducible refine mF fun _ => ?_)
theorem wM_fruitMark_mono {x1 : Int32} {σ : gM} {Q Q' : Int32 → gM → Prop} (hQ : ∀ y0 y1, Q y0 y1 → Q' y0 y1) : wM_fruitMark x1 σ Q → wM_fruitMark x1 σ Q' := by
  unfold wM_fruitMark
  repeat' (first | exact hQ _ _ | with_reducible exact id | with_reducible refine wM_kindOf_mono (fun _ _ => ?_) | with_reducible refine wM_fruitMark_b27_mono (fun _ _ => ?_) | with_reducible refine wM_leave_mono (fun _ => ?_) | with_reducible refine mA ?_ ?_ | with_reducible refine mE fun _ => ?_ | with_reducible refine mF fun _ => ?_)
theorem wM_sizeBy_b103_mono {x1 : Int32} {x2 : Int32} {σ : gM} {Q Q' : Int32 → gM → Prop} (hQ : ∀ y0 y1, Q y0 y1 → Q' y0 y1) : wM_sizeBy_b103 Q x1 x2 σ → wM_sizeBy_b103 Q' x1 x2 σ := by
  unfold wM_sizeBy_b103
  repeat' (first | exact hQ _ _ | with_reducible exact id | with_reducible refine wM_leave_mono (fun _ => ?_) | with_reducible refine wM_fruitMark_mono (fun _ _ => ?_) | with_reducible refine mA ?_ ?_ | with_reducible refine mE fun _ => ?_ | with_reducible refine mF fun _ => ?_)
theorem wM_sizeBy_mono {x1 : Int32} {x2 : Int32} {σ : gM} {Q Q' : Int32 → gM → Prop} (hQ : ∀ y0 y1, Q y0 y1 → Q' y0 y1) : wM_sizeBy x1 x2 σ Q → wM_sizeBy x1 x2 σ Q' := by
  unfold wM_sizeBy
  repeat' (first | exact hQ _ _ | with_reducible exact id | with_reducible refine wM_leave_mono (fun _ => ?_) | with_reducible refine wM_sizeBy_b103_mono (fun _ _ => ?_) | with_reducible refine mA ?_ ?_ | with_reducible refine mE fun _ => ?_ | with_reducible refine mF fun _ => ?_)
theorem wM_sizeOf_mono {x1 : Int32} {σ : gM} {Q Q' : Int32 → gM → Prop} (hQ : ∀ y0 y1, Q y0 y1 → Q' y0 y1) : wM_sizeOf x1 σ Q → wM_sizeOf x1 σ Q' := by
  unfold wM_sizeOf
  repeat' (first | exact hQ _ _ | with_reducible exact id | with_reducible refine wM_kindOf_mono (fun _ _ => ?_) | with_reducible refine wM_sizeBy_mono (fun _ _ => ?_) | with_reducible refine mA ?_ ?_ | with_reducible refine mE fun _ => ?_ | with_reducible refine mF fun _ => ?_)
theorem wM_ask_mono {x1 : Int32} {x2 : Int32} {σ : gM} {Q Q' : Int32 → gM → Prop} (hQ : ∀ y0 y1, Q y0 y1 → Q' y0 y1) : wM_ask x1 x2 σ Q → wM_ask x1 x2 σ Q' := by
  unfold wM_ask
  repeat' (first | exact hQ _ _ | with_reducible exact id | with_reducible refine wM_isWareAt_mono (fun _ _ => ?_) | with_reducible refine wM_in_mono (fun _ _ => ?_) | with_reducible refine wM_sizeOf_mono (fun _ _ => ?_) | with_reducible refine wM_kindOf_mono (fun _ _ => ?_) | with_reducible refine wM_leave_mono (fun _ => ?_) | with_reducible refine wM_fruitMark_mono (fun _ _ => ?_) | with_reducible refine mA ?_ ?_ | with_reducible refine mE fun _ => ?_ | with_reducible refine mF fun _ => ?_)
theorem wM_trace_mono {x1 : Int32} {σ : gM} {Q Q' : Int32 → gM → Prop} (hQ : ∀ y0 y1, Q y0 y1 → Q' y0 y1) : wM_trace x1 σ Q → wM_trace x1 σ Q' := by
  unfold wM_trace
  repeat' (first | exact hQ _ _ | with_reducible exact id | with_reducible refine wM_in_mono (fun _ _ => ?_) | with_reducible refine mA ?_ ?_ | with_reducible refine mE fun _ => ?_ | with_reducible refine mF fun _ => ?_)
theorem wM_count_l4_mono  {Q Q' : Int32 → gM → Prop} (hQ : ∀ y0 y1, Q y0 y1 → Q' y0 y1) : ∀ (z0 : Nat) (z1 : Int32) (z2 : Int32) (z3 : Int32) (z4 : gM), wM_count_l4 Q z0 z1 z2 z3 z4 → wM_count_l4 Q' z0 z1 z2 z3 z4 := by
  intro z0
  induction z0 with
  | zero => intro z1 z2 z3 z4 h; exact h
  | succ z0 ih =>
    intro z1 z2 z3 z4
    rw [wM_count_l4, wM_count_l4]
    repeat' (first | exact hQ _ _ | exact ih _ _ _ _ | with_reducible exact id | with_reducible refine wM_isNull_mono (fun _ _ => ?_) | with_reducible refine mA ?_ ?_ | with_reducible refine mE fun _ => ?_ | with_reducible refine mF fun _ => ?_)
theorem wM_count_mono {x1 : Int32} {σ : gM} {Q Q' : Int32 → gM → Prop} (hQ : ∀ y0 y1, Q y0 y1 → Q' y0 y1) : wM_count x1 σ Q → wM_count x1 σ Q' := by
  unfold wM_count
  repeat' (first | exact hQ _ _ | with_reducible exact id | with_reducible refine wM_count_l4_mono (fun _ _ => ?_) _ _ _ _ _ | with_reducible refine mA ?_ ?_ | with_reducible refine mE fun _ => ?_ | with_reducible refine mF fun _ => ?_)
theorem wM_status_mono {σ : gM} {Q Q' : Int32 → gM → Prop} (hQ : ∀ y0 y1, Q y0 y1 → Q' y0 y1) : wM_status σ Q → wM_status σ Q' := by
  unfold wM_status
  repeat' (first | exact hQ _ _ | with_reducible exact id | with_reducible refine mA ?_ ?_ | with_reducible refine mE fun _ => ?_ | with_reducible refine mF fun _ => ?_)
