def rmS_firstWrong : Room := { frames := 0, cells := 0, slots := 0, locals := 0 }
def wS_firstWrong_row_b57 (r : Nat) (Q : Int32 → gM → Prop) (K14 : Int32 → Int32 → Int32 → Int32 → Int32 → gM → Prop) (x3 : Int32) (x4 : Int32) (x5 : Int32) (x6 : Int32) (x7 : Int32) (x8 : Int32) (σ : gM) : Prop :=
    (x6 < x5 → (Q x7 σ)) ∧ (¬ (x6 < x5) → (vp_in x6 16 ∧ (((σ 51 x6.toNatClampNeg) = x8 → (∀ x6_9 : Int32, x6_9 = x6 + (-1 : Int32) → (∀ x7_10 : Int32, x7_10 = x7 + (nI 1) → (K14 x3 x4 x5 x6_9 x7_10 σ)))) ∧ (¬ ((σ 51 x6.toNatClampNeg) = x8) → (Q x7 σ)))))
def wS_firstWrong_row_l14 (r : Nat) (Q : Int32 → gM → Prop)  : Nat → Int32 → Int32 → Int32 → Int32 → Int32 → gM → Prop
  | 0, _, _, _, _, _, _ => False
  | n + 1, x3, x4, x5, x6, x7, σ =>
    (x4 ≤ x7 → (Q (-1000000 : Int32) σ)) ∧ (¬ (x4 ≤ x7) → (vp_in (x3 + x7) 40 ∧ (∀ x8_4 : Int32, x8_4 = (σ (2 + 2 * r + 1) (x3 + x7).toNatClampNeg) → ((x6 < x5 → (wS_firstWrong_row_b57 r Q (wS_firstWrong_row_l14 r Q n) x3 x4 x5 x6 x7 x8_4 σ)) ∧ (¬ (x6 < x5) → (vp_in x5 16 ∧ (((σ 51 x5.toNatClampNeg) = x8_4 → (∀ x5_13 : Int32, x5_13 = x5 + (nI 1) → (∀ x7_14 : Int32, x7_14 = x7 + (nI 1) → (wS_firstWrong_row_l14 r Q n x3 x4 x5_13 x6 x7_14 σ)))) ∧ (¬ ((σ 51 x5.toNatClampNeg) = x8_4) → (wS_firstWrong_row_b57 r Q (wS_firstWrong_row_l14 r Q n) x3 x4 x5 x6 x7 x8_4 σ)))))))))
def wS_firstWrong_row (r : Nat) (x3 : Int32) (x4 : Int32) (σ : gM) (Q : Int32 → gM → Prop) : Prop :=
    ∀ x6_1 : Int32, x6_1 = ((σ 42 5) - (nI 1)) → (∃ n15 : Nat, wS_firstWrong_row_l14 r Q n15 x3 x4 (nI 0) x6_1 (nI 0) σ)
set_option maxHeartbeats 4000000 in
set_option maxRecDepth 100000 in
theorem tS_firstWrong_row_b57 {X : gX} {Q : Int32 → gM → Prop} (hC : VC X cX4_firstWrong RX4 9 rmS_firstWrong) (hR : VR X (some .int) (gPi Q)) {r : Nat} (hr : r < 8) {K14 : Int32 → Int32 → Int32 → Int32 → Int32 → gM → Prop} (hK14 : ∀ (x3 : Int32) (x4 : Int32) (x5 : Int32) (x6 : Int32) (x7 : Int32) (σ : gM), K14 x3 x4 x5 x6 x7 σ → V X 9 14 [(1, .ref (xad X 42)), (2, .ref (xad X (2 + 2 * r))), (3, .int x3), (4, .int x4), (5, .int x5), (6, .int x6), (7, .int x7)] [] σ) (x3 : Int32) (x4 : Int32) (x5 : Int32) (x6 : Int32) (x7 : Int32) (x8 : Int32) (σ : gM) (h : wS_firstWrong_row_b57 r Q K14 x3 x4 x5 x6 x7 x8 σ) : V X 9 57 [(1, .ref (xad X 42)), (2, .ref (xad X (2 + 2 * r))), (3, .int x3), (4, .int x4), (5, .int x5), (6, .int x6), (7, .int x7), (8, .int x8)] [] σ := by
  replace h : (x6 < x5 → (Q x7 σ)) ∧ (¬ (x6 < x5) → (vp_in x6 16 ∧ (((σ 51 x6.toNatClampNeg) = x8 → (∀ x6_9 : Int32, x6_9 = x6 + (-1 : Int32) → (∀ x7_10 : Int32, x7_10 = x7 + (nI 1) → (K14 x3 x4 x5 x6_9 x7_10 σ)))) ∧ (¬ ((σ 51 x6.toNatClampNeg) = x8) → (Q x7 σ))))) := h
  refine v_iload hC 4 dX4_firstWrong_57 rfl ?_
  refine v_iload hC 5 dX4_firstWrong_59 rfl ?_
  refine v_icmp_gt hC 82 dX4_firstWrong_61 (by decide) (fun c6 => ?_) (fun c6 => ?_)
  · replace h := h.1 c6
    refine v_iload hC 6 dX4_firstWrong_82 rfl ?_
    exact v_iret hC hR h dX4_firstWrong_84
  · replace h := h.2 c6
    refine v_aload_n hC 0 dX4_firstWrong_64 rfl ?_
    refine gf_X4_35_42 hC dX4_firstWrong_65 ?_
    refine v_iload hC 5 dX4_firstWrong_68 rfl ?_
    obtain ⟨hi7, h⟩ := h
    refine v_iald hC (Nat.le_of_ble_eq_true rfl) rfl rfl hi7 dX4_firstWrong_70 ?_
    refine v_iload hC 7 dX4_firstWrong_71 rfl ?_
    refine v_icmp_ne hC 82 dX4_firstWrong_73 (by decide) (fun c8 => ?_) (fun c8 => ?_)
    · replace h := h.2 c8
      refine v_iload hC 6 dX4_firstWrong_82 rfl ?_
      exact v_iret hC hR h dX4_firstWrong_84
    · replace h := h.1 c8
      refine v_iincN hC (-1 : Int32) 5 dX4_firstWrong_76 rfl rfl (by decide) (lo2 := fun x6_9 => [(6, .int x6_9), (1, .ref (xad X 42)), (2, .ref (xad X (2 + 2 * r))), (3, .int x3), (4, .int x4), (5, .int x5), (7, .int x7), (8, .int x8)]) (fun _ => rfl) (fun x6_9 e9 => ?_)
      replace h := h x6_9 e9
      refine v_goto hC 85 dX4_firstWrong_79 (by decide) ?_
      refine v_iincN hC (nI 1) 6 dX4_firstWrong_85 rfl rfl (by decide) (lo2 := fun x7_10 => [(7, .int x7_10), (6, .int x6_9), (1, .ref (xad X 42)), (2, .ref (xad X (2 + 2 * r))), (3, .int x3), (4, .int x4), (5, .int x5), (8, .int x8)]) (fun _ => rfl) (fun x7_10 e10 => ?_)
      replace h := h x7_10 e10
      refine v_goto hC 14 dX4_firstWrong_88 (by decide) ?_
      exact V.sub [2, 3, 4, 5, 6, 1, 0] rfl (hK14 _ _ _ _ _ _ h)
set_option maxHeartbeats 4000000 in
set_option maxRecDepth 100000 in
theorem tS_firstWrong_row_l14 {X : gX} {Q : Int32 → gM → Prop} (hC : VC X cX4_firstWrong RX4 9 rmS_firstWrong) (hR : VR X (some .int) (gPi Q)) {r : Nat} (hr : r < 8)  : ∀ (n : Nat) (x3 : Int32) (x4 : Int32) (x5 : Int32) (x6 : Int32) (x7 : Int32) (σ : gM), wS_firstWrong_row_l14 r Q  n x3 x4 x5 x6 x7 σ → V X 9 14 [(1, .ref (xad X 42)), (2, .ref (xad X (2 + 2 * r))), (3, .int x3), (4, .int x4), (5, .int x5), (6, .int x6), (7, .int x7)] [] σ := by
  intro n
  induction n with
  | zero => intro x3 x4 x5 x6 x7 σ h; exact h.elim
  | succ n ih =>
    intro x3 x4 x5 x6 x7 σ h
    replace h : (x4 ≤ x7 → (Q (-1000000 : Int32) σ)) ∧ (¬ (x4 ≤ x7) → (vp_in (x3 + x7) 40 ∧ (∀ x8_4 : Int32, x8_4 = (σ (2 + 2 * r + 1) (x3 + x7).toNatClampNeg) → ((x6 < x5 → (wS_firstWrong_row_b57 r Q (wS_firstWrong_row_l14 r Q n) x3 x4 x5 x6 x7 x8_4 σ)) ∧ (¬ (x6 < x5) → (vp_in x5 16 ∧ (((σ 51 x5.toNatClampNeg) = x8_4 → (∀ x5_13 : Int32, x5_13 = x5 + (nI 1) → (∀ x7_14 : Int32, x7_14 = x7 + (nI 1) → (wS_firstWrong_row_l14 r Q n x3 x4 x5_13 x6 x7_14 σ)))) ∧ (¬ ((σ 51 x5.toNatClampNeg) = x8_4) → (wS_firstWrong_row_b57 r Q (wS_firstWrong_row_l14 r Q n) x3 x4 x5 x6 x7 x8_4 σ))))))))) := h
    refine v_iload hC 6 dX4_firstWrong_14 rfl ?_
    refine v_iload hC 3 dX4_firstWrong_16 rfl ?_
    refine v_icmp_ge hC 91 dX4_firstWrong_18 (by decide) (fun c2 => ?_) (fun c2 => ?_)
    · replace h := h.1 c2
      refine v_ldc hC kw835 dX4_firstWrong_91 ?_
      exact v_iret hC hR h dX4_firstWrong_93
    · replace h := h.2 c2
      refine v_aload_n hC 1 dX4_firstWrong_21 rfl ?_
      refine gf_X4_30 hC hr dX4_firstWrong_22 ?_
      refine v_iload_n hC 2 dX4_firstWrong_25 rfl ?_
      refine v_iload hC 6 dX4_firstWrong_26 rfl ?_
      refine v_iadd hC dX4_firstWrong_28 ?_
      obtain ⟨hi3, h⟩ := h
      refine v_iald hC (rowi_lt hr) (gSh_row _ hr).2 rfl hi3 dX4_firstWrong_29 ?_
      refine v_istoreN hC dX4_firstWrong_30 (by decide) (lo2 := fun x8_4 => [(8, .int x8_4), (1, .ref (xad X 42)), (2, .ref (xad X (2 + 2 * r))), (3, .int x3), (4, .int x4), (5, .int x5), (6, .int x6), (7, .int x7)]) (fun _ => rfl) (fun x8_4 e4 => ?_)
      replace h := h x8_4 e4
      refine v_iload hC 5 dX4_firstWrong_32 rfl ?_
      refine v_iload hC 6 dX4_firstWrong_34 rfl ?_
      refine v_icmp_gt hC 57 dX4_firstWrong_36 (by decide) (fun c5 => ?_) (fun c5 => ?_)
      · replace h := h.1 c5
        exact V.sub [1, 2, 3, 4, 5, 6, 7, 0] rfl (tS_firstWrong_row_b57 hC hR hr ih _ _ _ _ _ _ _ h)
      · replace h := h.2 c5
        refine v_aload_n hC 1 dX4_firstWrong_39 rfl ?_
        refine gf_X4_35_42 hC dX4_firstWrong_40 ?_
        refine v_iload hC 5 dX4_firstWrong_43 rfl ?_
        obtain ⟨hi11, h⟩ := h
        refine v_iald hC (Nat.le_of_ble_eq_true rfl) rfl rfl hi11 dX4_firstWrong_45 ?_
        refine v_iload hC 0 dX4_firstWrong_46 rfl ?_
        refine v_icmp_ne hC 57 dX4_firstWrong_48 (by decide) (fun c12 => ?_) (fun c12 => ?_)
        · replace h := h.2 c12
          exact V.sub [1, 2, 3, 4, 5, 6, 7, 0] rfl (tS_firstWrong_row_b57 hC hR hr ih _ _ _ _ _ _ _ h)
        · replace h := h.1 c12
          refine v_iincN hC (nI 1) 5 dX4_firstWrong_51 rfl rfl (by decide) (lo2 := fun x5_13 => [(5, .int x5_13), (8, .int x8_4), (1, .ref (xad X 42)), (2, .ref (xad X (2 + 2 * r))), (3, .int x3), (4, .int x4), (6, .int x6), (7, .int x7)]) (fun _ => rfl) (fun x5_13 e13 => ?_)
          replace h := h x5_13 e13
          refine v_goto hC 85 dX4_firstWrong_54 (by decide) ?_
          refine v_iincN hC (nI 1) 7 dX4_firstWrong_85 rfl rfl (by decide) (lo2 := fun x7_14 => [(7, .int x7_14), (5, .int x5_13), (8, .int x8_4), (1, .ref (xad X 42)), (2, .ref (xad X (2 + 2 * r))), (3, .int x3), (4, .int x4), (6, .int x6)]) (fun _ => rfl) (fun x7_14 e14 => ?_)
          replace h := h x7_14 e14
          refine v_goto hC 14 dX4_firstWrong_88 (by decide) ?_
          exact V.sub [3, 4, 5, 6, 1, 7, 0] rfl (ih _ _ _ _ _ _ h)
set_option maxHeartbeats 4000000 in
set_option maxRecDepth 100000 in
theorem kS_firstWrong_row {r : Nat} (hr : r < 8) (x3 : Int32) (x4 : Int32) (σ : gM) (Q : Int32 → gM → Prop) (h : wS_firstWrong_row r x3 x4 σ Q) : CT yX4_firstWrong cX4_firstWrong 9 (some .int) rmS_firstWrong (fun G => [.ref (gad G 35), .ref (gad G 42), .ref (gad G (2 + 2 * r)), .int x3, .int x4]) σ (gPi Q) := by
  refine c_enter (by decide) (fun _ => Nat.le_of_ble_eq_true rfl) (fun X hC hR => ?_)
  show V X 9 0 [(0, .ref (xad X 35)), (1, .ref (xad X 42)), (2, .ref (xad X (2 + 2 * r))), (3, .int x3), (4, .int x4)] [] σ
  replace h : ∀ x6_1 : Int32, x6_1 = ((σ 42 5) - (nI 1)) → (∃ n15 : Nat, wS_firstWrong_row_l14 r Q n15 x3 x4 (nI 0) x6_1 (nI 0) σ) := h
  refine v_iconst hC (nI 0) dX4_firstWrong_0 rfl ?_
  refine v_istore hC dX4_firstWrong_1 (by decide) rfl ?_
  refine v_aload_n hC 2 dX4_firstWrong_3 rfl ?_
  refine gf_X4_24_42 hC dX4_firstWrong_4 ?_
  refine v_iconst hC (nI 1) dX4_firstWrong_7 rfl ?_
  refine v_isub hC dX4_firstWrong_8 ?_
  refine v_istoreN hC dX4_firstWrong_9 (by decide) (lo2 := fun x6_1 => [(6, .int x6_1), (5, .int (nI 0)), (0, .ref (xad X 35)), (1, .ref (xad X 42)), (2, .ref (xad X (2 + 2 * r))), (3, .int x3), (4, .int x4)]) (fun _ => rfl) (fun x6_1 e1 => ?_)
  replace h := h x6_1 e1
  refine v_iconst hC (nI 0) dX4_firstWrong_11 rfl ?_
  refine v_istore hC dX4_firstWrong_12 (by decide) rfl ?_
  obtain ⟨n15, h⟩ := h
  exact V.sub [4, 5, 6, 7, 2, 1, 0] rfl (tS_firstWrong_row_l14 hC hR hr  n15 _ _ _ _ _ _ h)
theorem cmS_firstWrong : CM yX4_firstWrong cX4_firstWrong 9 (some .int) rmS_firstWrong 4 := ⟨kw80, kw834, rfl, rfl, by decide, by decide, by decide +kernel⟩
def rmH_judge : Room := { frames := 2, cells := 0, slots := 0, locals := 45 }
def wH_judge (x1 : Int32) (x2 : Int32) (x3 : Int32) (σ : gM) (Q : Int32 → gM → Prop) : Prop :=
    ((σ 42 0) = nI 0 → (Q (-1000002 : Int32) σ)) ∧ (¬ ((σ 42 0) = nI 0) → (wH_isNoRow x1 σ (fun (r3 : Int32) (σ3 : gM) => (r3 = nI 0 → ((x3 < (nI 1) → (Q (-1000001 : Int32) σ3)) ∧ (¬ (x3 < (nI 1)) → ((x3 ≤ (nI 16) → (wH_findingOf x1 x2 x3 σ3 (fun (r8 : Int32) (σ8 : gM) => (r8 = nI 0 → (vp_in x1 8 ∧ (wR_isBelow x1.toNatClampNeg (σ8 42 4) x2 x3 σ8 (fun (r12 : Int32) (σ12 : gM) => (r12 = nI 0 → (Q (-1000001 : Int32) σ12)) ∧ (¬ (r12 = nI 0) → (vp_in x1 8 ∧ (wS_firstWrong_row x1.toNatClampNeg x2 x3 σ12 (fun (r16 : Int32) (σ16 : gM) => wH_unfound r16 σ16 (fun (r18 : Int32) (σ18 : gM) => Q r18 σ18))))))))) ∧ (¬ (r8 = nI 0) → (wH_found r8 σ8 (fun (r20 : Int32) (σ20 : gM) => Q r20 σ20)))))) ∧ (¬ (x3 ≤ (nI 16)) → (Q (-1000001 : Int32) σ3)))))) ∧ (¬ (r3 = nI 0) → (Q (-1000001 : Int32) σ3)))))
set_option maxHeartbeats 4000000 in
set_option maxRecDepth 100000 in
theorem kH_judge (x1 : Int32) (x2 : Int32) (x3 : Int32) (σ : gM) (Q : Int32 → gM → Prop) (h : wH_judge x1 x2 x3 σ Q) : CT yX6_judge cX6_judge 5 (some .int) rmH_judge (fun G => [.ref (gad G 0), .int x1, .int x2, .int x3]) σ (gPi Q) := by
  refine c_enter (by decide) (fun _ => Nat.le_of_ble_eq_true rfl) (fun X hC hR => ?_)
  show V X 5 0 [(0, .ref (xad X 0)), (1, .int x1), (2, .int x2), (3, .int x3)] [] σ
  replace h : ((σ 42 0) = nI 0 → (Q (-1000002 : Int32) σ)) ∧ (¬ ((σ 42 0) = nI 0) → (wH_isNoRow x1 σ (fun (r3 : Int32) (σ3 : gM) => (r3 = nI 0 → ((x3 < (nI 1) → (Q (-1000001 : Int32) σ3)) ∧ (¬ (x3 < (nI 1)) → ((x3 ≤ (nI 16) → (wH_findingOf x1 x2 x3 σ3 (fun (r8 : Int32) (σ8 : gM) => (r8 = nI 0 → (vp_in x1 8 ∧ (wR_isBelow x1.toNatClampNeg (σ8 42 4) x2 x3 σ8 (fun (r12 : Int32) (σ12 : gM) => (r12 = nI 0 → (Q (-1000001 : Int32) σ12)) ∧ (¬ (r12 = nI 0) → (vp_in x1 8 ∧ (wS_firstWrong_row x1.toNatClampNeg x2 x3 σ12 (fun (r16 : Int32) (σ16 : gM) => wH_unfound r16 σ16 (fun (r18 : Int32) (σ18 : gM) => Q r18 σ18))))))))) ∧ (¬ (r8 = nI 0) → (wH_found r8 σ8 (fun (r20 : Int32) (σ20 : gM) => Q r20 σ20)))))) ∧ (¬ (x3 ≤ (nI 16)) → (Q (-1000001 : Int32) σ3)))))) ∧ (¬ (r3 = nI 0) → (Q (-1000001 : Int32) σ3))))) := h
  refine v_aload_n hC 0 dX6_judge_0 rfl ?_
  refine gf_X6_25 hC dX6_judge_1 ?_
  refine gf_X6_168_42 hC dX6_judge_4 ?_
  refine v_if_ne hC 13 dX6_judge_7 (by decide) (fun c1 => ?_) (fun c1 => ?_)
  · replace h := h.2 c1
    refine v_aload_n hC 0 dX6_judge_13 rfl ?_
    refine v_iload_n hC 1 dX6_judge_14 rfl ?_
    refine v_callV hC (kH_isNoRow _ _ _ h) cmH_isNoRow ⟨kw375, kw0⟩ kw373 ⟨Nat.le_of_ble_eq_true rfl, Nat.le_of_ble_eq_true rfl⟩ (Nat.le_of_ble_eq_true rfl) rfl (ci := 6) (T := TX6) (N := 12) rfl (As := fun G => [.int x1]) (fun _ => rfl) (fun _ => rfl) (st := []) (Nat.le_of_ble_eq_true rfl) rfl dX6_judge_15 (kk_i (fun r3 σ3 h => ?_))
    refine v_if_ne hC 32 dX6_judge_18 (by decide) (fun c4 => ?_) (fun c4 => ?_)
    · replace h := h.2 c4
      refine v_ldc hC kw377 dX6_judge_32 ?_
      exact v_iret hC hR h dX6_judge_34
    · replace h := h.1 c4
      refine v_iload_n hC 3 dX6_judge_21 rfl ?_
      refine v_iconst hC (nI 1) dX6_judge_22 rfl ?_
      refine v_icmp_lt hC 32 dX6_judge_23 (by decide) (fun c5 => ?_) (fun c5 => ?_)
      · replace h := h.1 c5
        refine v_ldc hC kw377 dX6_judge_32 ?_
        exact v_iret hC hR h dX6_judge_34
      · replace h := h.2 c5
        refine v_iload_n hC 3 dX6_judge_26 rfl ?_
        refine v_bipush hC (nI 16) dX6_judge_27 rfl ?_
        refine v_icmp_le hC 35 dX6_judge_29 (by decide) (fun c6 => ?_) (fun c6 => ?_)
        · replace h := h.1 c6
          refine v_aload_n hC 0 dX6_judge_35 rfl ?_
          refine v_iload_n hC 1 dX6_judge_36 rfl ?_
          refine v_iload_n hC 2 dX6_judge_37 rfl ?_
          refine v_iload_n hC 3 dX6_judge_38 rfl ?_
          refine v_callV hC (kH_findingOf _ _ _ _ _ h) cmH_findingOf ⟨kw400, kw3⟩ kw398 ⟨Nat.le_of_ble_eq_true rfl, Nat.le_of_ble_eq_true rfl⟩ (Nat.le_of_ble_eq_true rfl) rfl (ci := 6) (T := TX6) (N := 12) rfl (As := fun G => [.int x1, .int x2, .int x3]) (fun _ => rfl) (fun _ => rfl) (st := []) (Nat.le_of_ble_eq_true rfl) rfl dX6_judge_39 (kk_i (fun r8 σ8 h => ?_))
          refine v_istore hC dX6_judge_42 (by decide) rfl ?_
          refine v_iload hC 0 dX6_judge_44 rfl ?_
          refine v_if_eq hC 56 dX6_judge_46 (by decide) (fun c9 => ?_) (fun c9 => ?_)
          · replace h := h.1 c9
            refine v_aload_n hC 1 dX6_judge_56 rfl ?_
            refine gf_X6_11 hC dX6_judge_57 ?_
            refine v_iload_n hC 2 dX6_judge_60 rfl ?_
            obtain ⟨hi10, h⟩ := h
            have hr10 := vin_lt hi10
            refine v_aald hC (Or.inl rfl) (o := 1) (Nat.le_of_ble_eq_true rfl) rfl hi10 dX6_judge_61 ?_
            refine v_aload_n hC 1 dX6_judge_62 rfl ?_
            refine gf_X6_25 hC dX6_judge_63 ?_
            refine gf_X6_139_42 hC dX6_judge_66 ?_
            refine v_iload_n hC 3 dX6_judge_69 rfl ?_
            refine v_iload_n hC 4 dX6_judge_70 rfl ?_
            refine v_callV hC (kR_isBelow hr10 _ _ _ _ _ h) cmR_isBelow ⟨kw781, kw782⟩ kw780 ⟨Nat.le_of_ble_eq_true rfl, Nat.le_of_ble_eq_true rfl⟩ (row_lt hr10) (gSh_row _ hr10).1 (ci := 3) (T := TX3) (N := 4) rfl (As := fun G => [.int (σ8 42 4), .int x2, .int x3]) (fun _ => rfl) (fun _ => rfl) (st := []) (Nat.le_of_ble_eq_true rfl) rfl dX6_judge_71 (kk_i (fun r12 σ12 h => ?_))
            refine v_if_ne hC 80 dX6_judge_74 (by decide) (fun c13 => ?_) (fun c13 => ?_)
            · replace h := h.2 c13
              refine v_aload_n hC 1 dX6_judge_80 rfl ?_
              refine v_aload_n hC 1 dX6_judge_81 rfl ?_
              refine gf_X6_53 hC dX6_judge_82 ?_
              refine v_aload_n hC 1 dX6_judge_85 rfl ?_
              refine gf_X6_25 hC dX6_judge_86 ?_
              refine v_aload_n hC 1 dX6_judge_89 rfl ?_
              refine gf_X6_11 hC dX6_judge_90 ?_
              refine v_iload_n hC 2 dX6_judge_93 rfl ?_
              obtain ⟨hi14, h⟩ := h
              have hr14 := vin_lt hi14
              refine v_aald hC (Or.inl rfl) (o := 1) (Nat.le_of_ble_eq_true rfl) rfl hi14 dX6_judge_94 ?_
              refine v_iload_n hC 3 dX6_judge_95 rfl ?_
              refine v_iload_n hC 4 dX6_judge_96 rfl ?_
              refine v_callV hC (kS_firstWrong_row hr14 _ _ _ _ h) cmS_firstWrong ⟨kw832, kw833⟩ kw831 ⟨Nat.le_of_ble_eq_true rfl, Nat.le_of_ble_eq_true rfl⟩ (Nat.le_of_ble_eq_true rfl) rfl (ci := 4) (T := TX4) (N := 4) rfl (As := fun G => [.ref (gad G 42), .ref (gad G (2 + 2 * x1.toNatClampNeg)), .int x2, .int x3]) (fun _ => rfl) (fun _ => rfl) (st := [.ref (xad X 0)]) (Nat.le_of_ble_eq_true rfl) rfl dX6_judge_97 (kk_i (fun r16 σ16 h => ?_))
              refine v_callV hC (kH_unfound _ _ _ h) cmH_unfound ⟨kw392, kw2⟩ kw390 ⟨Nat.le_of_ble_eq_true rfl, Nat.le_of_ble_eq_true rfl⟩ (Nat.le_of_ble_eq_true rfl) rfl (ci := 6) (T := TX6) (N := 12) rfl (As := fun G => [.int r16]) (fun _ => rfl) (fun _ => rfl) (st := []) (Nat.le_of_ble_eq_true rfl) rfl dX6_judge_100 (kk_i (fun r18 σ18 h => ?_))
              exact v_iret hC hR h dX6_judge_103
            · replace h := h.1 c13
              refine v_ldc hC kw377 dX6_judge_77 ?_
              exact v_iret hC hR h dX6_judge_79
          · replace h := h.2 c9
            refine v_aload_n hC 1 dX6_judge_49 rfl ?_
            refine v_iload hC 0 dX6_judge_50 rfl ?_
            refine v_callV hC (kH_found _ _ _ h) cmH_found ⟨kw380, kw1⟩ kw378 ⟨Nat.le_of_ble_eq_true rfl, Nat.le_of_ble_eq_true rfl⟩ (Nat.le_of_ble_eq_true rfl) rfl (ci := 6) (T := TX6) (N := 12) rfl (As := fun G => [.int r8]) (fun _ => rfl) (fun _ => rfl) (st := []) (Nat.le_of_ble_eq_true rfl) rfl dX6_judge_52 (kk_i (fun r20 σ20 h => ?_))
            exact v_iret hC hR h dX6_judge_55
        · replace h := h.2 c6
          refine v_ldc hC kw377 dX6_judge_32 ?_
          exact v_iret hC hR h dX6_judge_34
  · replace h := h.1 c1
    refine v_ldc hC kw598 dX6_judge_10 ?_
    exact v_iret hC hR h dX6_judge_12
theorem cmH_judge : CM yX6_judge cX6_judge 5 (some .int) rmH_judge 3 := ⟨kw75, kw830, rfl, rfl, by decide, by decide, by decide +kernel⟩
def wJA_fill_38_l5 (Q : gM → Prop)  : Nat → Int32 → Int32 → Int32 → gM → Prop
  | 0, _, _, _, _ => False
  | n + 1, x1, x2, x3, σ =>
    (x3 ≤ x2 → (Q σ)) ∧ (¬ (x3 ≤ x2) → (vp_in x2 11 ∧ (∀ σ2 : gM, σ2 = gU σ 38 x2.toNatClampNeg x1 → (∀ x2_3 : Int32, x2_3 = x2 + (nI 1) → (wJA_fill_38_l5 Q n x1 x2_3 x3 σ2)))))
def wJA_fill_38 (x1 : Int32) (σ : gM) (Q : gM → Prop) : Prop :=
    ∃ n4 : Nat, wJA_fill_38_l5 Q n4 x1 (nI 0) (nI 11) σ
set_option maxHeartbeats 4000000 in
set_option maxRecDepth 100000 in
theorem tJA_fill_38_l5 {X : gX} {Q : gM → Prop} (hC : VC X cJ7_fill_53178 RJ7 4 rmJA_fill) (hR : VR X none (gPv Q))  : ∀ (n : Nat) (x1 : Int32) (x2 : Int32) (x3 : Int32) (σ : gM), wJA_fill_38_l5 Q  n x1 x2 x3 σ → V X 4 5 [(0, .ref (xad X 38)), (1, .int x1), (2, .int x2), (3, .int x3)] [] σ := by
  intro n
  induction n with
  | zero => intro x1 x2 x3 σ h; exact h.elim
  | succ n ih =>
    intro x1 x2 x3 σ h
    replace h : (x3 ≤ x2 → (Q σ)) ∧ (¬ (x3 ≤ x2) → (vp_in x2 11 ∧ (∀ σ2 : gM, σ2 = gU σ 38 x2.toNatClampNeg x1 → (∀ x2_3 : Int32, x2_3 = x2 + (nI 1) → (wJA_fill_38_l5 Q n x1 x2_3 x3 σ2))))) := h
    refine v_iload_n hC 2 dJ7_fill_53178_5 rfl ?_
    refine v_iload_n hC 3 dJ7_fill_53178_6 rfl ?_
    refine v_icmp_ge hC 20 dJ7_fill_53178_7 (by decide) (fun c1 => ?_) (fun c1 => ?_)
    · replace h := h.1 c1
      exact v_vret hC hR h dJ7_fill_53178_20
    · replace h := h.2 c1
      refine v_aload_n hC 0 dJ7_fill_53178_10 rfl ?_
      refine v_iload_n hC 2 dJ7_fill_53178_11 rfl ?_
      refine v_iload_n hC 1 dJ7_fill_53178_12 rfl ?_
      obtain ⟨hi2, h⟩ := h
      refine v_iast hC (Nat.le_of_ble_eq_true rfl) rfl rfl hi2 dJ7_fill_53178_13 (fun σ2 e2 => ?_)
      replace h := h σ2 e2
      refine v_iincN hC (nI 1) 2 dJ7_fill_53178_14 rfl rfl (by decide) (lo2 := fun x2_3 => [(2, .int x2_3), (0, .ref (xad X 38)), (1, .int x1), (3, .int x3)]) (fun _ => rfl) (fun x2_3 e3 => ?_)
      replace h := h x2_3 e3
      refine v_goto hC 5 dJ7_fill_53178_17 (by decide) ?_
      exact V.sub [1, 2, 0, 3] rfl (ih _ _ _ _ h)
set_option maxHeartbeats 4000000 in
set_option maxRecDepth 100000 in
theorem kJA_fill_38 (x1 : Int32) (σ : gM) (Q : gM → Prop) (h : wJA_fill_38 x1 σ Q) : CT yJ7_fill_53178 cJ7_fill_53178 4 none rmJA_fill (fun G => [.ref (gad G 38), .int x1]) σ (gPv Q) := by
  refine c_enter (by decide) (fun _ => Nat.le_of_ble_eq_true rfl) (fun X hC hR => ?_)
  show V X 4 0 [(0, .ref (xad X 38)), (1, .int x1)] [] σ
  replace h : ∃ n4 : Nat, wJA_fill_38_l5 Q n4 x1 (nI 0) (nI 11) σ := h
  refine v_iconst hC (nI 0) dJ7_fill_53178_0 rfl ?_
  refine v_istore_n hC dJ7_fill_53178_1 (by decide) rfl ?_
  refine v_aload_n hC 1 dJ7_fill_53178_2 rfl ?_
  refine v_alen hC (nI 11) (Nat.le_of_ble_eq_true rfl) rfl rfl dJ7_fill_53178_3 ?_
  refine v_istore_n hC dJ7_fill_53178_4 (by decide) rfl ?_
  obtain ⟨n4, h⟩ := h
  exact V.sub [2, 3, 1, 0] rfl (tJA_fill_38_l5 hC hR  n4 _ _ _ _ h)
def rmS_isRight : Room := { frames := 3, cells := 0, slots := 0, locals := 86 }
def wS_isRight (x2 : Int32) (x3 : Int32) (x4 : Int32) (x5 : Int32) (σ : gM) (Q : Int32 → gM → Prop) : Prop :=
    ∀ x6_1 : Int32, x6_1 = (((σ 42 5) - (nI 1)) - (x5 - x4)) → ((((σ 42 5) - (nI 1)) ≤ x5 → (Q (nI 0) σ)) ∧ (¬ (((σ 42 5) - (nI 1)) ≤ x5) → (vp_in x6_1 16 ∧ (wK42_valueTo x2 (σ 51 x6_1.toNatClampNeg) (nI 0) σ (fun (r5 : Int32) (σ5 : gM) => ∀ v7 : Int32, v7 = (if r5 = x3 then (nI 1) else (nI 0)) → ((v7 = nI 0 ∨ v7 = nI 1) ∧ Q v7 σ5))))))
set_option maxHeartbeats 4000000 in
set_option maxRecDepth 100000 in
theorem kS_isRight (x2 : Int32) (x3 : Int32) (x4 : Int32) (x5 : Int32) (σ : gM) (Q : Int32 → gM → Prop) (h : wS_isRight x2 x3 x4 x5 σ Q) : CT yX4_isRight cX4_isRight 7 (some .boolean) rmS_isRight (fun G => [.ref (gad G 35), .ref (gad G 42), .int x2, .int x3, .int x4, .int x5]) σ (gPi Q) := by
  refine c_enter (by decide) (fun _ => Nat.le_of_ble_eq_true rfl) (fun X hC hR => ?_)
  show V X 7 0 [(0, .ref (xad X 35)), (1, .ref (xad X 42)), (2, .int x2), (3, .int x3), (4, .int x4), (5, .int x5)] [] σ
  replace h : ∀ x6_1 : Int32, x6_1 = (((σ 42 5) - (nI 1)) - (x5 - x4)) → ((((σ 42 5) - (nI 1)) ≤ x5 → (Q (nI 0) σ)) ∧ (¬ (((σ 42 5) - (nI 1)) ≤ x5) → (vp_in x6_1 16 ∧ (wK42_valueTo x2 (σ 51 x6_1.toNatClampNeg) (nI 0) σ (fun (r5 : Int32) (σ5 : gM) => ∀ v7 : Int32, v7 = (if r5 = x3 then (nI 1) else (nI 0)) → ((v7 = nI 0 ∨ v7 = nI 1) ∧ Q v7 σ5)))))) := h
  refine v_aload_n hC 1 dX4_isRight_0 rfl ?_
  refine gf_X4_24_42 hC dX4_isRight_1 ?_
  refine v_iconst hC (nI 1) dX4_isRight_4 rfl ?_
  refine v_isub hC dX4_isRight_5 ?_
  refine v_iload hC 5 dX4_isRight_6 rfl ?_
  refine v_iload hC 4 dX4_isRight_8 rfl ?_
  refine v_isub hC dX4_isRight_10 ?_
  refine v_isub hC dX4_isRight_11 ?_
  refine v_istoreN hC dX4_isRight_12 (by decide) (lo2 := fun x6_1 => [(6, .int x6_1), (0, .ref (xad X 35)), (1, .ref (xad X 42)), (2, .int x2), (3, .int x3), (4, .int x4), (5, .int x5)]) (fun _ => rfl) (fun x6_1 e1 => ?_)
  replace h := h x6_1 e1
  refine v_iload hC 6 dX4_isRight_14 rfl ?_
  refine v_aload_n hC 2 dX4_isRight_16 rfl ?_
  refine gf_X4_24_42 hC dX4_isRight_17 ?_
  refine v_iconst hC (nI 1) dX4_isRight_20 rfl ?_
  refine v_isub hC dX4_isRight_21 ?_
  refine v_icmp_ge hC 46 dX4_isRight_22 (by decide) (fun c2 => ?_) (fun c2 => ?_)
  · replace h := h.1 c2
    refine v_iconst hC (nI 0) dX4_isRight_46 rfl ?_
    exact v_zret hC hR rfl h dX4_isRight_47
  · replace h := h.2 c2
    refine v_aload_n hC 2 dX4_isRight_25 rfl ?_
    refine v_iload_n hC 3 dX4_isRight_26 rfl ?_
    refine v_aload_n hC 2 dX4_isRight_27 rfl ?_
    refine gf_X4_35_42 hC dX4_isRight_28 ?_
    refine v_iload hC 0 dX4_isRight_31 rfl ?_
    obtain ⟨hi3, h⟩ := h
    refine v_iald hC (Nat.le_of_ble_eq_true rfl) rfl rfl hi3 dX4_isRight_33 ?_
    refine v_iconst hC (nI 0) dX4_isRight_34 rfl ?_
    refine v_callV hC (kK42_valueTo _ _ _ _ _ h) cmK_valueTo ⟨kw626, kw627⟩ kw788 ⟨Nat.le_of_ble_eq_true rfl, Nat.le_of_ble_eq_true rfl⟩ (Nat.le_of_ble_eq_true rfl) rfl (ci := 2) (T := TX2) (N := 15) rfl (As := fun G => [.int x2, .int (σ 51 x6_1.toNatClampNeg), .int (nI 0)]) (fun _ => rfl) (fun _ => rfl) (st := []) (Nat.le_of_ble_eq_true rfl) rfl dX4_isRight_35 (kk_i (fun r5 σ5 h => ?_))
    refine v_iload_n hC 4 dX4_isRight_38 rfl ?_
    have J6 : ∀ (v7 : Int32) (ev7 : v7 = (if r5 = x3 then (nI 1) else (nI 0))), V X 7 47 [] [.int v7] σ5 := by
      intro v7 ev7
      replace h := h v7 ev7
      obtain ⟨hb, h⟩ := h
      exact v_zret hC hR (nar_bool hb) h dX4_isRight_47
    refine v_icmp_ne hC 46 dX4_isRight_39 (by decide) (fun c6 => ?_) (fun c6 => ?_)
    · refine v_iconst hC (nI 0) dX4_isRight_46 rfl ?_
      exact V.sub [] rfl (J6 _ (by rw [if_neg c6]))
    · refine v_iconst hC (nI 1) dX4_isRight_42 rfl ?_
      refine v_goto hC 47 dX4_isRight_43 (by decide) ?_
      exact V.sub [] rfl (J6 _ (by rw [if_pos c6]))
theorem cmS_isRight : CM yX4_isRight cX4_isRight 7 (some .boolean) rmS_isRight 5 := ⟨kw80, kw851, rfl, rfl, by decide, by decide, by decide +kernel⟩
def rmS_isLeft : Room := { frames := 3, cells := 0, slots := 0, locals := 86 }
def wS_isLeft (x2 : Int32) (x3 : Int32) (x4 : Int32) (x5 : Int32) (σ : gM) (Q : Int32 → gM → Prop) : Prop :=
    ((σ 42 5) ≤ x5 → (Q (nI 0) σ)) ∧ (¬ ((σ 42 5) ≤ x5) → (vp_in x4 16 ∧ (wK42_valueTo x2 (σ 51 x4.toNatClampNeg) (nI 0) σ (fun (r4 : Int32) (σ4 : gM) => ∀ v6 : Int32, v6 = (if r4 = x3 then (nI 1) else (nI 0)) → ((v6 = nI 0 ∨ v6 = nI 1) ∧ Q v6 σ4)))))
set_option maxHeartbeats 4000000 in
set_option maxRecDepth 100000 in
theorem kS_isLeft (x2 : Int32) (x3 : Int32) (x4 : Int32) (x5 : Int32) (σ : gM) (Q : Int32 → gM → Prop) (h : wS_isLeft x2 x3 x4 x5 σ Q) : CT yX4_isLeft cX4_isLeft 6 (some .boolean) rmS_isLeft (fun G => [.ref (gad G 35), .ref (gad G 42), .int x2, .int x3, .int x4, .int x5]) σ (gPi Q) := by
  refine c_enter (by decide) (fun _ => Nat.le_of_ble_eq_true rfl) (fun X hC hR => ?_)
  show V X 6 0 [(0, .ref (xad X 35)), (1, .ref (xad X 42)), (2, .int x2), (3, .int x3), (4, .int x4), (5, .int x5)] [] σ
  replace h : ((σ 42 5) ≤ x5 → (Q (nI 0) σ)) ∧ (¬ ((σ 42 5) ≤ x5) → (vp_in x4 16 ∧ (wK42_valueTo x2 (σ 51 x4.toNatClampNeg) (nI 0) σ (fun (r4 : Int32) (σ4 : gM) => ∀ v6 : Int32, v6 = (if r4 = x3 then (nI 1) else (nI 0)) → ((v6 = nI 0 ∨ v6 = nI 1) ∧ Q v6 σ4))))) := h
  refine v_iload hC 5 dX4_isLeft_0 rfl ?_
  refine v_aload_n hC 1 dX4_isLeft_2 rfl ?_
  refine gf_X4_24_42 hC dX4_isLeft_3 ?_
  refine v_icmp_ge hC 30 dX4_isLeft_6 (by decide) (fun c1 => ?_) (fun c1 => ?_)
  · replace h := h.1 c1
    refine v_iconst hC (nI 0) dX4_isLeft_30 rfl ?_
    exact v_zret hC hR rfl h dX4_isLeft_31
  · replace h := h.2 c1
    refine v_aload_n hC 1 dX4_isLeft_9 rfl ?_
    refine v_iload_n hC 2 dX4_isLeft_10 rfl ?_
    refine v_aload_n hC 1 dX4_isLeft_11 rfl ?_
    refine gf_X4_35_42 hC dX4_isLeft_12 ?_
    refine v_iload hC 4 dX4_isLeft_15 rfl ?_
    obtain ⟨hi2, h⟩ := h
    refine v_iald hC (Nat.le_of_ble_eq_true rfl) rfl rfl hi2 dX4_isLeft_17 ?_
    refine v_iconst hC (nI 0) dX4_isLeft_18 rfl ?_
    refine v_callV hC (kK42_valueTo _ _ _ _ _ h) cmK_valueTo ⟨kw626, kw627⟩ kw788 ⟨Nat.le_of_ble_eq_true rfl, Nat.le_of_ble_eq_true rfl⟩ (Nat.le_of_ble_eq_true rfl) rfl (ci := 2) (T := TX2) (N := 15) rfl (As := fun G => [.int x2, .int (σ 51 x4.toNatClampNeg), .int (nI 0)]) (fun _ => rfl) (fun _ => rfl) (st := []) (Nat.le_of_ble_eq_true rfl) rfl dX4_isLeft_19 (kk_i (fun r4 σ4 h => ?_))
    refine v_iload_n hC 3 dX4_isLeft_22 rfl ?_
    have J5 : ∀ (v6 : Int32) (ev6 : v6 = (if r4 = x3 then (nI 1) else (nI 0))), V X 6 31 [] [.int v6] σ4 := by
      intro v6 ev6
      replace h := h v6 ev6
      obtain ⟨hb, h⟩ := h
      exact v_zret hC hR (nar_bool hb) h dX4_isLeft_31
    refine v_icmp_ne hC 30 dX4_isLeft_23 (by decide) (fun c5 => ?_) (fun c5 => ?_)
    · refine v_iconst hC (nI 0) dX4_isLeft_30 rfl ?_
      exact V.sub [] rfl (J5 _ (by rw [if_neg c5]))
    · refine v_iconst hC (nI 1) dX4_isLeft_26 rfl ?_
      refine v_goto hC 31 dX4_isLeft_27 (by decide) ?_
      exact V.sub [] rfl (J5 _ (by rw [if_pos c5]))
theorem cmS_isLeft : CM yX4_isLeft cX4_isLeft 6 (some .boolean) rmS_isLeft 5 := ⟨kw80, kw847, rfl, rfl, by decide, by decide, by decide +kernel⟩
def rmS_hear : Room := { frames := 4, cells := 0, slots := 0, locals := 112 }
def wS_hear_row_b83 (r : Nat) (Q : gM → Prop) (K18 : Int32 → Int32 → Int32 → Int32 → gM → Prop) (K43 : Int32 → Int32 → Int32 → Int32 → Int32 → Int32 → gM → Prop) (x2 : Int32) (x4 : Int32) (x5 : Int32) (x6 : Int32) (x7 : Int32) (x8 : Int32) (s0 : Int32) (σ : gM) : Prop :=
    (x6 < x8 → (vp_in x8 11 ∧ (∀ σ12 : gM, σ12 = gU σ 38 x8.toNatClampNeg (s0 + (nI 0)) → (∀ x8_13 : Int32, x8_13 = x8 + (-1 : Int32) → (K43 x2 x4 x5 x6 x7 x8_13 σ12))))) ∧ (¬ (x6 < x8) → (wS_isRight x2 x7 x8 x6 σ (fun (r15 : Int32) (σ15 : gM) => ((r15 = nI 0 → (True)) ∧ (¬ (r15 = nI 0) → (vp_in x8 11 ∧ True))) ∧ (∀ v18 : Int32, v18 = (if r15 = nI 0 then (nI 0) else (σ15 38 x8.toNatClampNeg)) → (vp_in x8 11 ∧ (∀ σ19 : gM, σ19 = gU σ15 38 x8.toNatClampNeg (s0 + v18) → (∀ x8_20 : Int32, x8_20 = x8 + (-1 : Int32) → (K43 x2 x4 x5 x6 x7 x8_20 σ19))))))))
def wS_hear_row_b82 (r : Nat) (Q : gM → Prop) (K18 : Int32 → Int32 → Int32 → Int32 → gM → Prop) (K43 : Int32 → Int32 → Int32 → Int32 → Int32 → Int32 → gM → Prop) (x2 : Int32) (x4 : Int32) (x5 : Int32) (x6 : Int32) (x7 : Int32) (x8 : Int32) (σ : gM) : Prop :=
    wS_hear_row_b83 r Q K18 K43 x2 x4 x5 x6 x7 x8 (nI 0) σ
def wS_hear_row_l43 (r : Nat) (Q : gM → Prop) (K18 : Int32 → Int32 → Int32 → Int32 → gM → Prop) : Nat → Int32 → Int32 → Int32 → Int32 → Int32 → Int32 → gM → Prop
  | 0, _, _, _, _, _, _, _ => False
  | n + 1, x2, x4, x5, x6, x7, x8, σ =>
    (x8 < nI 0 → (∀ x6_9 : Int32, x6_9 = x6 + (nI 1) → (K18 x2 x4 x5 x6_9 σ))) ∧ (¬ (x8 < nI 0) → ((x8 ≤ nI 0 → (wS_hear_row_b82 r Q K18 (wS_hear_row_l43 r Q K18 n) x2 x4 x5 x6 x7 x8 σ)) ∧ (¬ (x8 ≤ nI 0) → (wS_isLeft x2 x7 (x8 - (nI 1)) x6 σ (fun (r23 : Int32) (σ23 : gM) => ((r23 = nI 0 → (True)) ∧ (¬ (r23 = nI 0) → (vp_in (x8 - (nI 1)) 11 ∧ True))) ∧ (∀ v26 : Int32, v26 = (if r23 = nI 0 then (nI 0) else (σ23 38 (x8 - (nI 1)).toNatClampNeg)) → ((x6 < x8 → (vp_in x8 11 ∧ (∀ σ28 : gM, σ28 = gU σ23 38 x8.toNatClampNeg (v26 + (nI 0)) → (∀ x8_29 : Int32, x8_29 = x8 + (-1 : Int32) → (wS_hear_row_l43 r Q K18 n x2 x4 x5 x6 x7 x8_29 σ28))))) ∧ (¬ (x6 < x8) → (wS_isRight x2 x7 x8 x6 σ23 (fun (r31 : Int32) (σ31 : gM) => ((r31 = nI 0 → (True)) ∧ (¬ (r31 = nI 0) → (vp_in x8 11 ∧ True))) ∧ (∀ v34 : Int32, v34 = (if r31 = nI 0 then (nI 0) else (σ31 38 x8.toNatClampNeg)) → (vp_in x8 11 ∧ (∀ σ35 : gM, σ35 = gU σ31 38 x8.toNatClampNeg (v26 + v34) → (∀ x8_36 : Int32, x8_36 = x8 + (-1 : Int32) → (wS_hear_row_l43 r Q K18 n x2 x4 x5 x6 x7 x8_36 σ35)))))))))))))))
def wS_hear_row_l18 (r : Nat) (Q : gM → Prop)  : Nat → Int32 → Int32 → Int32 → Int32 → gM → Prop
  | 0, _, _, _, _, _ => False
  | n + 1, x2, x4, x5, x6, σ =>
    (x5 ≤ x6 → (Q σ)) ∧ (¬ (x5 ≤ x6) → (vp_in (x4 + x6) 40 ∧ (∀ x7_6 : Int32, x7_6 = (σ (2 + 2 * r + 1) (x4 + x6).toNatClampNeg) → (∀ x8_7 : Int32, x8_7 = (x6 + (nI 1)) → (∃ n39 : Nat, wS_hear_row_l43 r Q (wS_hear_row_l18 r Q n) n39 x2 x4 x5 x6 x7_6 x8_7 σ)))))
def wS_hear_row (r : Nat) (x2 : Int32) (x4 : Int32) (x5 : Int32) (σ : gM) (Q : gM → Prop) : Prop :=
    wJA_fill_38 (nI 0) σ (fun (σ2 : gM) => ∀ σ3 : gM, σ3 = gU σ2 38 0 (nI 1) → (∃ n40 : Nat, wS_hear_row_l18 r Q n40 x2 x4 x5 (nI 0) σ3))
set_option maxHeartbeats 4000000 in
set_option maxRecDepth 100000 in
theorem tS_hear_row_b83 {X : gX} {Q : gM → Prop} (hC : VC X cX4_hear RX4 11 rmS_hear) (hR : VR X none (gPv Q)) {r : Nat} (hr : r < 8) {K18 : Int32 → Int32 → Int32 → Int32 → gM → Prop} (hK18 : ∀ (x2 : Int32) (x4 : Int32) (x5 : Int32) (x6 : Int32) (σ : gM), K18 x2 x4 x5 x6 σ → V X 11 18 [(0, .ref (xad X 35)), (1, .ref (xad X 42)), (2, .int x2), (3, .ref (xad X (2 + 2 * r))), (4, .int x4), (5, .int x5), (6, .int x6)] [] σ) {K43 : Int32 → Int32 → Int32 → Int32 → Int32 → Int32 → gM → Prop} (hK43 : ∀ (x2 : Int32) (x4 : Int32) (x5 : Int32) (x6 : Int32) (x7 : Int32) (x8 : Int32) (σ : gM), K43 x2 x4 x5 x6 x7 x8 σ → V X 11 43 [(0, .ref (xad X 35)), (1, .ref (xad X 42)), (2, .int x2), (3, .ref (xad X (2 + 2 * r))), (4, .int x4), (5, .int x5), (6, .int x6), (7, .int x7), (8, .int x8)] [] σ) (x2 : Int32) (x4 : Int32) (x5 : Int32) (x6 : Int32) (x7 : Int32) (x8 : Int32) (s0 : Int32) (σ : gM) (h : wS_hear_row_b83 r Q K18 K43 x2 x4 x5 x6 x7 x8 s0 σ) : V X 11 83 [(0, .ref (xad X 35)), (1, .ref (xad X 42)), (2, .int x2), (3, .ref (xad X (2 + 2 * r))), (4, .int x4), (5, .int x5), (6, .int x6), (7, .int x7), (8, .int x8)] [.int s0] σ := by
  replace h : (x6 < x8 → (vp_in x8 11 ∧ (∀ σ12 : gM, σ12 = gU σ 38 x8.toNatClampNeg (s0 + (nI 0)) → (∀ x8_13 : Int32, x8_13 = x8 + (-1 : Int32) → (K43 x2 x4 x5 x6 x7 x8_13 σ12))))) ∧ (¬ (x6 < x8) → (wS_isRight x2 x7 x8 x6 σ (fun (r15 : Int32) (σ15 : gM) => ((r15 = nI 0 → (True)) ∧ (¬ (r15 = nI 0) → (vp_in x8 11 ∧ True))) ∧ (∀ v18 : Int32, v18 = (if r15 = nI 0 then (nI 0) else (σ15 38 x8.toNatClampNeg)) → (vp_in x8 11 ∧ (∀ σ19 : gM, σ19 = gU σ15 38 x8.toNatClampNeg (s0 + v18) → (∀ x8_20 : Int32, x8_20 = x8 + (-1 : Int32) → (K43 x2 x4 x5 x6 x7 x8_20 σ19)))))))) := h
  refine v_istore hC dX4_hear_83 (by decide) rfl ?_
  refine v_iload hC 9 dX4_hear_85 rfl ?_
  refine v_iload hC 7 dX4_hear_87 rfl ?_
  refine v_icmp_gt hC 117 dX4_hear_89 (by decide) (fun c11 => ?_) (fun c11 => ?_)
  · replace h := h.1 c11
    refine v_iconst hC (nI 0) dX4_hear_117 rfl ?_
    refine v_istore hC dX4_hear_118 (by decide) rfl ?_
    refine v_aload_n hC 2 dX4_hear_120 rfl ?_
    refine gf_X4_18 hC dX4_hear_121 ?_
    refine v_iload hC 10 dX4_hear_124 rfl ?_
    refine v_iload hC 1 dX4_hear_126 rfl ?_
    refine v_iload hC 0 dX4_hear_128 rfl ?_
    refine v_iadd hC dX4_hear_130 ?_
    obtain ⟨hi12, h⟩ := h
    refine v_iast hC (Nat.le_of_ble_eq_true rfl) rfl rfl hi12 dX4_hear_131 (fun σ12 e12 => ?_)
    replace h := h σ12 e12
    refine v_iincN hC (-1 : Int32) 10 dX4_hear_132 rfl rfl (by decide) (lo2 := fun x8_13 => [(8, .int x8_13), (10, .int (nI 0)), (9, .int s0), (0, .ref (xad X 35)), (1, .ref (xad X 42)), (2, .int x2), (3, .ref (xad X (2 + 2 * r))), (4, .int x4), (5, .int x5), (6, .int x6), (7, .int x7)]) (fun _ => rfl) (fun x8_13 e13 => ?_)
    replace h := h x8_13 e13
    refine v_goto hC 43 dX4_hear_135 (by decide) ?_
    exact V.sub [3, 4, 5, 6, 7, 8, 9, 10, 0] rfl (hK43 _ _ _ _ _ _ _ h)
  · replace h := h.2 c11
    refine v_aload_n hC 1 dX4_hear_92 rfl ?_
    refine v_aload_n hC 2 dX4_hear_93 rfl ?_
    refine v_iload_n hC 3 dX4_hear_94 rfl ?_
    refine v_iload hC 8 dX4_hear_95 rfl ?_
    refine v_iload hC 9 dX4_hear_97 rfl ?_
    refine v_iload hC 7 dX4_hear_99 rfl ?_
    refine v_callV hC (kS_isRight _ _ _ _ _ _ h) cmS_isRight ⟨kw850, kw29⟩ kw848 ⟨Nat.le_of_ble_eq_true rfl, Nat.le_of_ble_eq_true rfl⟩ (Nat.le_of_ble_eq_true rfl) rfl (ci := 4) (T := TX4) (N := 4) rfl (As := fun G => [.ref (gad G 42), .int x2, .int x7, .int x8, .int x6]) (fun _ => rfl) (fun _ => rfl) (st := []) (Nat.le_of_ble_eq_true rfl) rfl dX4_hear_101 (kk_i (fun r15 σ15 h => ?_))
    obtain ⟨hO16, h⟩ := h
    have J16 : ∀ (v18 : Int32) (ev18 : v18 = (if r15 = nI 0 then (nI 0) else (σ15 38 x8.toNatClampNeg))), V X 11 118 [(0, .ref (xad X 35)), (1, .ref (xad X 42)), (2, .int x2), (3, .ref (xad X (2 + 2 * r))), (4, .int x4), (5, .int x5), (6, .int x6), (7, .int x7), (8, .int x8), (9, .int s0)] [.int v18] σ15 := by
      intro v18 ev18
      replace h := h v18 ev18
      refine v_istore hC dX4_hear_118 (by decide) rfl ?_
      refine v_aload_n hC 1 dX4_hear_120 rfl ?_
      refine gf_X4_18 hC dX4_hear_121 ?_
      refine v_iload hC 9 dX4_hear_124 rfl ?_
      refine v_iload hC 10 dX4_hear_126 rfl ?_
      refine v_iload hC 0 dX4_hear_128 rfl ?_
      refine v_iadd hC dX4_hear_130 ?_
      obtain ⟨hi19, h⟩ := h
      refine v_iast hC (Nat.le_of_ble_eq_true rfl) rfl rfl hi19 dX4_hear_131 (fun σ19 e19 => ?_)
      replace h := h σ19 e19
      refine v_iincN hC (-1 : Int32) 9 dX4_hear_132 rfl rfl (by decide) (lo2 := fun x8_20 => [(8, .int x8_20), (10, .int v18), (0, .ref (xad X 35)), (1, .ref (xad X 42)), (2, .int x2), (3, .ref (xad X (2 + 2 * r))), (4, .int x4), (5, .int x5), (6, .int x6), (7, .int x7), (9, .int s0)]) (fun _ => rfl) (fun x8_20 e20 => ?_)
      replace h := h x8_20 e20
      refine v_goto hC 43 dX4_hear_135 (by decide) ?_
      exact V.sub [2, 3, 4, 5, 6, 7, 8, 9, 0] rfl (hK43 _ _ _ _ _ _ _ h)
    refine v_if_eq hC 117 dX4_hear_104 (by decide) (fun c16 => ?_) (fun c16 => ?_)
    · replace h := hO16.1 c16
      refine v_iconst hC (nI 0) dX4_hear_117 rfl ?_
      exact V.sub [1, 2, 3, 4, 5, 6, 7, 8, 9, 0] rfl (J16 _ (by rw [if_pos c16]))
    · replace h := hO16.2 c16
      refine v_aload_n hC 1 dX4_hear_107 rfl ?_
      refine gf_X4_18 hC dX4_hear_108 ?_
      refine v_iload hC 9 dX4_hear_111 rfl ?_
      obtain ⟨hi21, h⟩ := h
      refine v_iald hC (Nat.le_of_ble_eq_true rfl) rfl rfl hi21 dX4_hear_113 ?_
      refine v_goto hC 118 dX4_hear_114 (by decide) ?_
      exact V.sub [1, 2, 3, 4, 5, 6, 7, 8, 9, 0] rfl (J16 _ (by rw [if_neg c16]))
set_option maxHeartbeats 4000000 in
set_option maxRecDepth 100000 in
theorem tS_hear_row_b82 {X : gX} {Q : gM → Prop} (hC : VC X cX4_hear RX4 11 rmS_hear) (hR : VR X none (gPv Q)) {r : Nat} (hr : r < 8) {K18 : Int32 → Int32 → Int32 → Int32 → gM → Prop} (hK18 : ∀ (x2 : Int32) (x4 : Int32) (x5 : Int32) (x6 : Int32) (σ : gM), K18 x2 x4 x5 x6 σ → V X 11 18 [(0, .ref (xad X 35)), (1, .ref (xad X 42)), (2, .int x2), (3, .ref (xad X (2 + 2 * r))), (4, .int x4), (5, .int x5), (6, .int x6)] [] σ) {K43 : Int32 → Int32 → Int32 → Int32 → Int32 → Int32 → gM → Prop} (hK43 : ∀ (x2 : Int32) (x4 : Int32) (x5 : Int32) (x6 : Int32) (x7 : Int32) (x8 : Int32) (σ : gM), K43 x2 x4 x5 x6 x7 x8 σ → V X 11 43 [(0, .ref (xad X 35)), (1, .ref (xad X 42)), (2, .int x2), (3, .ref (xad X (2 + 2 * r))), (4, .int x4), (5, .int x5), (6, .int x6), (7, .int x7), (8, .int x8)] [] σ) (x2 : Int32) (x4 : Int32) (x5 : Int32) (x6 : Int32) (x7 : Int32) (x8 : Int32) (σ : gM) (h : wS_hear_row_b82 r Q K18 K43 x2 x4 x5 x6 x7 x8 σ) : V X 11 82 [(0, .ref (xad X 35)), (1, .ref (xad X 42)), (2, .int x2), (3, .ref (xad X (2 + 2 * r))), (4, .int x4), (5, .int x5), (6, .int x6), (7, .int x7), (8, .int x8)] [] σ := by
  replace h : wS_hear_row_b83 r Q K18 K43 x2 x4 x5 x6 x7 x8 (nI 0) σ := h
  refine v_iconst hC (nI 0) dX4_hear_82 rfl ?_
  exact V.sub [0, 1, 2, 3, 4, 5, 6, 7, 8] rfl (tS_hear_row_b83 hC hR hr hK18 hK43 _ _ _ _ _ _ _ _ h)
set_option maxHeartbeats 4000000 in
set_option maxRecDepth 100000 in
theorem tS_hear_row_l43 {X : gX} {Q : gM → Prop} (hC : VC X cX4_hear RX4 11 rmS_hear) (hR : VR X none (gPv Q)) {r : Nat} (hr : r < 8) {K18 : Int32 → Int32 → Int32 → Int32 → gM → Prop} (hK18 : ∀ (x2 : Int32) (x4 : Int32) (x5 : Int32) (x6 : Int32) (σ : gM), K18 x2 x4 x5 x6 σ → V X 11 18 [(0, .ref (xad X 35)), (1, .ref (xad X 42)), (2, .int x2), (3, .ref (xad X (2 + 2 * r))), (4, .int x4), (5, .int x5), (6, .int x6)] [] σ) : ∀ (n : Nat) (x2 : Int32) (x4 : Int32) (x5 : Int32) (x6 : Int32) (x7 : Int32) (x8 : Int32) (σ : gM), wS_hear_row_l43 r Q K18 n x2 x4 x5 x6 x7 x8 σ → V X 11 43 [(0, .ref (xad X 35)), (1, .ref (xad X 42)), (2, .int x2), (3, .ref (xad X (2 + 2 * r))), (4, .int x4), (5, .int x5), (6, .int x6), (7, .int x7), (8, .int x8)] [] σ := by
  intro n
  induction n with
  | zero => intro x2 x4 x5 x6 x7 x8 σ h; exact h.elim
  | succ n ih =>
    intro x2 x4 x5 x6 x7 x8 σ h
    replace h : (x8 < nI 0 → (∀ x6_9 : Int32, x6_9 = x6 + (nI 1) → (K18 x2 x4 x5 x6_9 σ))) ∧ (¬ (x8 < nI 0) → ((x8 ≤ nI 0 → (wS_hear_row_b82 r Q K18 (wS_hear_row_l43 r Q K18 n) x2 x4 x5 x6 x7 x8 σ)) ∧ (¬ (x8 ≤ nI 0) → (wS_isLeft x2 x7 (x8 - (nI 1)) x6 σ (fun (r23 : Int32) (σ23 : gM) => ((r23 = nI 0 → (True)) ∧ (¬ (r23 = nI 0) → (vp_in (x8 - (nI 1)) 11 ∧ True))) ∧ (∀ v26 : Int32, v26 = (if r23 = nI 0 then (nI 0) else (σ23 38 (x8 - (nI 1)).toNatClampNeg)) → ((x6 < x8 → (vp_in x8 11 ∧ (∀ σ28 : gM, σ28 = gU σ23 38 x8.toNatClampNeg (v26 + (nI 0)) → (∀ x8_29 : Int32, x8_29 = x8 + (-1 : Int32) → (wS_hear_row_l43 r Q K18 n x2 x4 x5 x6 x7 x8_29 σ28))))) ∧ (¬ (x6 < x8) → (wS_isRight x2 x7 x8 x6 σ23 (fun (r31 : Int32) (σ31 : gM) => ((r31 = nI 0 → (True)) ∧ (¬ (r31 = nI 0) → (vp_in x8 11 ∧ True))) ∧ (∀ v34 : Int32, v34 = (if r31 = nI 0 then (nI 0) else (σ31 38 x8.toNatClampNeg)) → (vp_in x8 11 ∧ (∀ σ35 : gM, σ35 = gU σ31 38 x8.toNatClampNeg (v26 + v34) → (∀ x8_36 : Int32, x8_36 = x8 + (-1 : Int32) → (wS_hear_row_l43 r Q K18 n x2 x4 x5 x6 x7 x8_36 σ35))))))))))))))) := h
    refine v_iload hC 8 dX4_hear_43 rfl ?_
    refine v_if_lt hC 138 dX4_hear_45 (by decide) (fun c8 => ?_) (fun c8 => ?_)
    · replace h := h.1 c8
      refine v_iincN hC (nI 1) 6 dX4_hear_138 rfl rfl (by decide) (lo2 := fun x6_9 => [(6, .int x6_9), (0, .ref (xad X 35)), (1, .ref (xad X 42)), (2, .int x2), (3, .ref (xad X (2 + 2 * r))), (4, .int x4), (5, .int x5), (7, .int x7), (8, .int x8)]) (fun _ => rfl) (fun x6_9 e9 => ?_)
      replace h := h x6_9 e9
      refine v_goto hC 18 dX4_hear_141 (by decide) ?_
      exact V.sub [1, 2, 3, 4, 5, 6, 0] rfl (hK18 _ _ _ _ _ h)
    · replace h := h.2 c8
      refine v_iload hC 8 dX4_hear_48 rfl ?_
      refine v_if_le hC 82 dX4_hear_50 (by decide) (fun c10 => ?_) (fun c10 => ?_)
      · replace h := h.1 c10
        exact V.sub [0, 1, 2, 3, 4, 5, 6, 7, 8] rfl (tS_hear_row_b82 hC hR hr hK18 ih _ _ _ _ _ _ _ h)
      · replace h := h.2 c10
        refine v_aload_n hC 0 dX4_hear_53 rfl ?_
        refine v_aload_n hC 1 dX4_hear_54 rfl ?_
        refine v_iload_n hC 2 dX4_hear_55 rfl ?_
        refine v_iload hC 7 dX4_hear_56 rfl ?_
        refine v_iload hC 8 dX4_hear_58 rfl ?_
        refine v_iconst hC (nI 1) dX4_hear_60 rfl ?_
        refine v_isub hC dX4_hear_61 ?_
        refine v_iload hC 6 dX4_hear_62 rfl ?_
        refine v_callV hC (kS_isLeft _ _ _ _ _ _ h) cmS_isLeft ⟨kw846, kw28⟩ kw844 ⟨Nat.le_of_ble_eq_true rfl, Nat.le_of_ble_eq_true rfl⟩ (Nat.le_of_ble_eq_true rfl) rfl (ci := 4) (T := TX4) (N := 4) rfl (As := fun G => [.ref (gad G 42), .int x2, .int x7, .int (x8 - (nI 1)), .int x6]) (fun _ => rfl) (fun _ => rfl) (st := []) (Nat.le_of_ble_eq_true rfl) rfl dX4_hear_64 (kk_i (fun r23 σ23 h => ?_))
        obtain ⟨hO24, h⟩ := h
        have J24 : ∀ (v26 : Int32) (ev26 : v26 = (if r23 = nI 0 then (nI 0) else (σ23 38 (x8 - (nI 1)).toNatClampNeg))), V X 11 83 [(0, .ref (xad X 35)), (1, .ref (xad X 42)), (2, .int x2), (3, .ref (xad X (2 + 2 * r))), (4, .int x4), (5, .int x5), (6, .int x6), (7, .int x7), (8, .int x8)] [.int v26] σ23 := by
          intro v26 ev26
          replace h := h v26 ev26
          refine v_istore hC dX4_hear_83 (by decide) rfl ?_
          refine v_iload hC 9 dX4_hear_85 rfl ?_
          refine v_iload hC 7 dX4_hear_87 rfl ?_
          refine v_icmp_gt hC 117 dX4_hear_89 (by decide) (fun c27 => ?_) (fun c27 => ?_)
          · replace h := h.1 c27
            refine v_iconst hC (nI 0) dX4_hear_117 rfl ?_
            refine v_istore hC dX4_hear_118 (by decide) rfl ?_
            refine v_aload_n hC 2 dX4_hear_120 rfl ?_
            refine gf_X4_18 hC dX4_hear_121 ?_
            refine v_iload hC 10 dX4_hear_124 rfl ?_
            refine v_iload hC 1 dX4_hear_126 rfl ?_
            refine v_iload hC 0 dX4_hear_128 rfl ?_
            refine v_iadd hC dX4_hear_130 ?_
            obtain ⟨hi28, h⟩ := h
            refine v_iast hC (Nat.le_of_ble_eq_true rfl) rfl rfl hi28 dX4_hear_131 (fun σ28 e28 => ?_)
            replace h := h σ28 e28
            refine v_iincN hC (-1 : Int32) 10 dX4_hear_132 rfl rfl (by decide) (lo2 := fun x8_29 => [(8, .int x8_29), (10, .int (nI 0)), (9, .int v26), (0, .ref (xad X 35)), (1, .ref (xad X 42)), (2, .int x2), (3, .ref (xad X (2 + 2 * r))), (4, .int x4), (5, .int x5), (6, .int x6), (7, .int x7)]) (fun _ => rfl) (fun x8_29 e29 => ?_)
            replace h := h x8_29 e29
            refine v_goto hC 43 dX4_hear_135 (by decide) ?_
            exact V.sub [3, 4, 5, 6, 7, 8, 9, 10, 0] rfl (ih _ _ _ _ _ _ _ h)
          · replace h := h.2 c27
            refine v_aload_n hC 1 dX4_hear_92 rfl ?_
            refine v_aload_n hC 2 dX4_hear_93 rfl ?_
            refine v_iload_n hC 3 dX4_hear_94 rfl ?_
            refine v_iload hC 8 dX4_hear_95 rfl ?_
            refine v_iload hC 9 dX4_hear_97 rfl ?_
            refine v_iload hC 7 dX4_hear_99 rfl ?_
            refine v_callV hC (kS_isRight _ _ _ _ _ _ h) cmS_isRight ⟨kw850, kw29⟩ kw848 ⟨Nat.le_of_ble_eq_true rfl, Nat.le_of_ble_eq_true rfl⟩ (Nat.le_of_ble_eq_true rfl) rfl (ci := 4) (T := TX4) (N := 4) rfl (As := fun G => [.ref (gad G 42), .int x2, .int x7, .int x8, .int x6]) (fun _ => rfl) (fun _ => rfl) (st := []) (Nat.le_of_ble_eq_true rfl) rfl dX4_hear_101 (kk_i (fun r31 σ31 h => ?_))
            obtain ⟨hO32, h⟩ := h
            have J32 : ∀ (v34 : Int32) (ev34 : v34 = (if r31 = nI 0 then (nI 0) else (σ31 38 x8.toNatClampNeg))), V X 11 118 [(0, .ref (xad X 35)), (1, .ref (xad X 42)), (2, .int x2), (3, .ref (xad X (2 + 2 * r))), (4, .int x4), (5, .int x5), (6, .int x6), (7, .int x7), (8, .int x8), (9, .int v26)] [.int v34] σ31 := by
              intro v34 ev34
              replace h := h v34 ev34
              refine v_istore hC dX4_hear_118 (by decide) rfl ?_
              refine v_aload_n hC 1 dX4_hear_120 rfl ?_
              refine gf_X4_18 hC dX4_hear_121 ?_
              refine v_iload hC 9 dX4_hear_124 rfl ?_
              refine v_iload hC 10 dX4_hear_126 rfl ?_
              refine v_iload hC 0 dX4_hear_128 rfl ?_
              refine v_iadd hC dX4_hear_130 ?_
              obtain ⟨hi35, h⟩ := h
              refine v_iast hC (Nat.le_of_ble_eq_true rfl) rfl rfl hi35 dX4_hear_131 (fun σ35 e35 => ?_)
              replace h := h σ35 e35
              refine v_iincN hC (-1 : Int32) 9 dX4_hear_132 rfl rfl (by decide) (lo2 := fun x8_36 => [(8, .int x8_36), (10, .int v34), (0, .ref (xad X 35)), (1, .ref (xad X 42)), (2, .int x2), (3, .ref (xad X (2 + 2 * r))), (4, .int x4), (5, .int x5), (6, .int x6), (7, .int x7), (9, .int v26)]) (fun _ => rfl) (fun x8_36 e36 => ?_)
              replace h := h x8_36 e36
              refine v_goto hC 43 dX4_hear_135 (by decide) ?_
              exact V.sub [2, 3, 4, 5, 6, 7, 8, 9, 0] rfl (ih _ _ _ _ _ _ _ h)
            refine v_if_eq hC 117 dX4_hear_104 (by decide) (fun c32 => ?_) (fun c32 => ?_)
            · replace h := hO32.1 c32
              refine v_iconst hC (nI 0) dX4_hear_117 rfl ?_
              exact V.sub [1, 2, 3, 4, 5, 6, 7, 8, 9, 0] rfl (J32 _ (by rw [if_pos c32]))
            · replace h := hO32.2 c32
              refine v_aload_n hC 1 dX4_hear_107 rfl ?_
              refine gf_X4_18 hC dX4_hear_108 ?_
              refine v_iload hC 9 dX4_hear_111 rfl ?_
              obtain ⟨hi37, h⟩ := h
              refine v_iald hC (Nat.le_of_ble_eq_true rfl) rfl rfl hi37 dX4_hear_113 ?_
              refine v_goto hC 118 dX4_hear_114 (by decide) ?_
              exact V.sub [1, 2, 3, 4, 5, 6, 7, 8, 9, 0] rfl (J32 _ (by rw [if_neg c32]))
        refine v_if_eq hC 82 dX4_hear_67 (by decide) (fun c24 => ?_) (fun c24 => ?_)
        · replace h := hO24.1 c24
          refine v_iconst hC (nI 0) dX4_hear_82 rfl ?_
          exact V.sub [0, 1, 2, 3, 4, 5, 6, 7, 8] rfl (J24 _ (by rw [if_pos c24]))
        · replace h := hO24.2 c24
          refine v_aload_n hC 0 dX4_hear_70 rfl ?_
          refine gf_X4_18 hC dX4_hear_71 ?_
          refine v_iload hC 8 dX4_hear_74 rfl ?_
          refine v_iconst hC (nI 1) dX4_hear_76 rfl ?_
          refine v_isub hC dX4_hear_77 ?_
          obtain ⟨hi38, h⟩ := h
          refine v_iald hC (Nat.le_of_ble_eq_true rfl) rfl rfl hi38 dX4_hear_78 ?_
          refine v_goto hC 83 dX4_hear_79 (by decide) ?_
          exact V.sub [0, 1, 2, 3, 4, 5, 6, 7, 8] rfl (J24 _ (by rw [if_neg c24]))
set_option maxHeartbeats 4000000 in
set_option maxRecDepth 100000 in
theorem tS_hear_row_l18 {X : gX} {Q : gM → Prop} (hC : VC X cX4_hear RX4 11 rmS_hear) (hR : VR X none (gPv Q)) {r : Nat} (hr : r < 8)  : ∀ (n : Nat) (x2 : Int32) (x4 : Int32) (x5 : Int32) (x6 : Int32) (σ : gM), wS_hear_row_l18 r Q  n x2 x4 x5 x6 σ → V X 11 18 [(0, .ref (xad X 35)), (1, .ref (xad X 42)), (2, .int x2), (3, .ref (xad X (2 + 2 * r))), (4, .int x4), (5, .int x5), (6, .int x6)] [] σ := by
  intro n
  induction n with
  | zero => intro x2 x4 x5 x6 σ h; exact h.elim
  | succ n ih =>
    intro x2 x4 x5 x6 σ h
    replace h : (x5 ≤ x6 → (Q σ)) ∧ (¬ (x5 ≤ x6) → (vp_in (x4 + x6) 40 ∧ (∀ x7_6 : Int32, x7_6 = (σ (2 + 2 * r + 1) (x4 + x6).toNatClampNeg) → (∀ x8_7 : Int32, x8_7 = (x6 + (nI 1)) → (∃ n39 : Nat, wS_hear_row_l43 r Q (wS_hear_row_l18 r Q n) n39 x2 x4 x5 x6 x7_6 x8_7 σ))))) := h
    refine v_iload hC 6 dX4_hear_18 rfl ?_
    refine v_iload hC 5 dX4_hear_20 rfl ?_
    refine v_icmp_ge hC 144 dX4_hear_22 (by decide) (fun c4 => ?_) (fun c4 => ?_)
    · replace h := h.1 c4
      exact v_vret hC hR h dX4_hear_144
    · replace h := h.2 c4
      refine v_aload_n hC 3 dX4_hear_25 rfl ?_
      refine gf_X4_30 hC hr dX4_hear_26 ?_
      refine v_iload hC 4 dX4_hear_29 rfl ?_
      refine v_iload hC 6 dX4_hear_31 rfl ?_
      refine v_iadd hC dX4_hear_33 ?_
      obtain ⟨hi5, h⟩ := h
      refine v_iald hC (rowi_lt hr) (gSh_row _ hr).2 rfl hi5 dX4_hear_34 ?_
      refine v_istoreN hC dX4_hear_35 (by decide) (lo2 := fun x7_6 => [(7, .int x7_6), (0, .ref (xad X 35)), (1, .ref (xad X 42)), (2, .int x2), (3, .ref (xad X (2 + 2 * r))), (4, .int x4), (5, .int x5), (6, .int x6)]) (fun _ => rfl) (fun x7_6 e6 => ?_)
      replace h := h x7_6 e6
      refine v_iload hC 7 dX4_hear_37 rfl ?_
      refine v_iconst hC (nI 1) dX4_hear_39 rfl ?_
      refine v_iadd hC dX4_hear_40 ?_
      refine v_istoreN hC dX4_hear_41 (by decide) (lo2 := fun x8_7 => [(8, .int x8_7), (7, .int x7_6), (0, .ref (xad X 35)), (1, .ref (xad X 42)), (2, .int x2), (3, .ref (xad X (2 + 2 * r))), (4, .int x4), (5, .int x5), (6, .int x6)]) (fun _ => rfl) (fun x8_7 e7 => ?_)
      replace h := h x8_7 e7
      obtain ⟨n39, h⟩ := h
      exact V.sub [2, 3, 4, 5, 6, 7, 8, 1, 0] rfl (tS_hear_row_l43 hC hR hr ih n39 _ _ _ _ _ _ _ h)
set_option maxHeartbeats 4000000 in
set_option maxRecDepth 100000 in
theorem kS_hear_row {r : Nat} (hr : r < 8) (x2 : Int32) (x4 : Int32) (x5 : Int32) (σ : gM) (Q : gM → Prop) (h : wS_hear_row r x2 x4 x5 σ Q) : CT yX4_hear cX4_hear 11 none rmS_hear (fun G => [.ref (gad G 35), .ref (gad G 42), .int x2, .ref (gad G (2 + 2 * r)), .int x4, .int x5]) σ (gPv Q) := by
  refine c_enter (by decide) (fun _ => Nat.le_of_ble_eq_true rfl) (fun X hC hR => ?_)
  show V X 11 0 [(0, .ref (xad X 35)), (1, .ref (xad X 42)), (2, .int x2), (3, .ref (xad X (2 + 2 * r))), (4, .int x4), (5, .int x5)] [] σ
  replace h : wJA_fill_38 (nI 0) σ (fun (σ2 : gM) => ∀ σ3 : gM, σ3 = gU σ2 38 0 (nI 1) → (∃ n40 : Nat, wS_hear_row_l18 r Q n40 x2 x4 x5 (nI 0) σ3)) := h
  refine v_aload_n hC 0 dX4_hear_0 rfl ?_
  refine gf_X4_18 hC dX4_hear_1 ?_
  refine v_iconst hC (nI 0) dX4_hear_4 rfl ?_
  refine v_callS hC (kJA_fill_38 _ _ _ h) cmJA_fill kw388 kw826 ⟨Nat.le_of_ble_eq_true rfl, Nat.le_of_ble_eq_true rfl⟩ (fun _ => rfl) (st := []) (Nat.le_of_ble_eq_true rfl) rfl dX4_hear_5 (kk_v (fun σ2 h => ?_))
  refine v_aload_n hC 0 dX4_hear_8 rfl ?_
  refine gf_X4_18 hC dX4_hear_9 ?_
  refine v_iconst hC (nI 0) dX4_hear_12 rfl ?_
  refine v_iconst hC (nI 1) dX4_hear_13 rfl ?_
  refine v_iast hC (Nat.le_of_ble_eq_true rfl) rfl (j := 0) (by decide) (by unfold vp_in; decide) dX4_hear_14 (fun σ3 e3 => ?_)
  replace h := h σ3 e3
  refine v_iconst hC (nI 0) dX4_hear_15 rfl ?_
  refine v_istore hC dX4_hear_16 (by decide) rfl ?_
  obtain ⟨n40, h⟩ := h
  exact V.sub [1, 2, 3, 4, 5, 6, 0] rfl (tS_hear_row_l18 hC hR hr  n40 _ _ _ _ _ h)
theorem cmS_hear : CM yX4_hear cX4_hear 11 none rmS_hear 5 := ⟨kw80, kw843, rfl, rfl, by decide, by decide, by decide +kernel⟩
def rmS_waysOf : Room := { frames := 0, cells := 0, slots := 0, locals := 0 }
def wS_waysOf_l4 (Q : Int32 → gM → Prop)  : Nat → Int32 → Int32 → Int32 → gM → Prop
  | 0, _, _, _, _ => False
  | n + 1, x1, x2, x3, σ =>
    (x1 < x3 → (Q x2 σ)) ∧ (¬ (x1 < x3) → (vp_in x3 11 ∧ (∀ x2_3 : Int32, x2_3 = (x2 + (σ 38 x3.toNatClampNeg)) → (∀ x3_4 : Int32, x3_4 = x3 + (nI 1) → (wS_waysOf_l4 Q n x1 x2_3 x3_4 σ)))))
def wS_waysOf (x1 : Int32) (σ : gM) (Q : Int32 → gM → Prop) : Prop :=
    ∃ n5 : Nat, wS_waysOf_l4 Q n5 x1 (nI 0) (nI 0) σ
set_option maxHeartbeats 4000000 in
set_option maxRecDepth 100000 in
theorem tS_waysOf_l4 {X : gX} {Q : Int32 → gM → Prop} (hC : VC X cX4_waysOf RX4 4 rmS_waysOf) (hR : VR X (some .int) (gPi Q))  : ∀ (n : Nat) (x1 : Int32) (x2 : Int32) (x3 : Int32) (σ : gM), wS_waysOf_l4 Q  n x1 x2 x3 σ → V X 4 4 [(0, .ref (xad X 35)), (1, .int x1), (2, .int x2), (3, .int x3)] [] σ := by
  intro n
  induction n with
  | zero => intro x1 x2 x3 σ h; exact h.elim
  | succ n ih =>
    intro x1 x2 x3 σ h
    replace h : (x1 < x3 → (Q x2 σ)) ∧ (¬ (x1 < x3) → (vp_in x3 11 ∧ (∀ x2_3 : Int32, x2_3 = (x2 + (σ 38 x3.toNatClampNeg)) → (∀ x3_4 : Int32, x3_4 = x3 + (nI 1) → (wS_waysOf_l4 Q n x1 x2_3 x3_4 σ))))) := h
    refine v_iload_n hC 3 dX4_waysOf_4 rfl ?_
    refine v_iload_n hC 1 dX4_waysOf_5 rfl ?_
    refine v_icmp_gt hC 24 dX4_waysOf_6 (by decide) (fun c1 => ?_) (fun c1 => ?_)
    · replace h := h.1 c1
      refine v_iload_n hC 2 dX4_waysOf_24 rfl ?_
      exact v_iret hC hR h dX4_waysOf_25
    · replace h := h.2 c1
      refine v_iload_n hC 2 dX4_waysOf_9 rfl ?_
      refine v_aload_n hC 0 dX4_waysOf_10 rfl ?_
      refine gf_X4_18 hC dX4_waysOf_11 ?_
      refine v_iload_n hC 3 dX4_waysOf_14 rfl ?_
      obtain ⟨hi2, h⟩ := h
      refine v_iald hC (Nat.le_of_ble_eq_true rfl) rfl rfl hi2 dX4_waysOf_15 ?_
      refine v_iadd hC dX4_waysOf_16 ?_
      refine v_istore_nN hC dX4_waysOf_17 (by decide) (lo2 := fun x2_3 => [(2, .int x2_3), (0, .ref (xad X 35)), (1, .int x1), (3, .int x3)]) (fun _ => rfl) (fun x2_3 e3 => ?_)
      replace h := h x2_3 e3
      refine v_iincN hC (nI 1) 3 dX4_waysOf_18 rfl rfl (by decide) (lo2 := fun x3_4 => [(3, .int x3_4), (2, .int x2_3), (0, .ref (xad X 35)), (1, .int x1)]) (fun _ => rfl) (fun x3_4 e4 => ?_)
      replace h := h x3_4 e4
      refine v_goto hC 4 dX4_waysOf_21 (by decide) ?_
      exact V.sub [2, 3, 1, 0] rfl (ih _ _ _ _ h)
set_option maxHeartbeats 4000000 in
set_option maxRecDepth 100000 in
theorem kS_waysOf (x1 : Int32) (σ : gM) (Q : Int32 → gM → Prop) (h : wS_waysOf x1 σ Q) : CT yX4_waysOf cX4_waysOf 4 (some .int) rmS_waysOf (fun G => [.ref (gad G 35), .int x1]) σ (gPi Q) := by
  refine c_enter (by decide) (fun _ => Nat.le_of_ble_eq_true rfl) (fun X hC hR => ?_)
  show V X 4 0 [(0, .ref (xad X 35)), (1, .int x1)] [] σ
  replace h : ∃ n5 : Nat, wS_waysOf_l4 Q n5 x1 (nI 0) (nI 0) σ := h
  refine v_iconst hC (nI 0) dX4_waysOf_0 rfl ?_
  refine v_istore_n hC dX4_waysOf_1 (by decide) rfl ?_
  refine v_iconst hC (nI 0) dX4_waysOf_2 rfl ?_
  refine v_istore_n hC dX4_waysOf_3 (by decide) rfl ?_
  obtain ⟨n5, h⟩ := h
  exact V.sub [2, 3, 1, 0] rfl (tS_waysOf_l4 hC hR  n5 _ _ _ _ h)
theorem cmS_waysOf : CM yX4_waysOf cX4_waysOf 4 (some .int) rmS_waysOf 1 := ⟨kw80, kw855, rfl, rfl, by decide, by decide, by decide +kernel⟩
def rmS_bitsOf : Room := { frames := 0, cells := 0, slots := 0, locals := 0 }
def wS_bitsOf_l6 (Q : Int32 → gM → Prop)  : Nat → Int32 → Int32 → Int32 → Int32 → gM → Prop
  | 0, _, _, _, _, _ => False
  | n + 1, x2, x3, x4, x5, σ =>
    ((x2 + x3) ≤ x5 → (Q x4 σ)) ∧ (¬ ((x2 + x3) ≤ x5) → (vp_in x5 16 ∧ (∀ x4_3 : Int32, x4_3 = (x4 ||| ((nI 1) <<< ((σ 51 x5.toNatClampNeg) &&& 31))) → (∀ x5_4 : Int32, x5_4 = x5 + (nI 1) → (wS_bitsOf_l6 Q n x2 x3 x4_3 x5_4 σ)))))
def wS_bitsOf (x2 : Int32) (x3 : Int32) (σ : gM) (Q : Int32 → gM → Prop) : Prop :=
    ∃ n5 : Nat, wS_bitsOf_l6 Q n5 x2 x3 (nI 0) x2 σ
set_option maxHeartbeats 4000000 in
set_option maxRecDepth 100000 in
theorem tS_bitsOf_l6 {X : gX} {Q : Int32 → gM → Prop} (hC : VC X cX4_bitsOf RX4 6 rmS_bitsOf) (hR : VR X (some .int) (gPi Q))  : ∀ (n : Nat) (x2 : Int32) (x3 : Int32) (x4 : Int32) (x5 : Int32) (σ : gM), wS_bitsOf_l6 Q  n x2 x3 x4 x5 σ → V X 6 6 [(1, .ref (xad X 42)), (2, .int x2), (3, .int x3), (4, .int x4), (5, .int x5)] [] σ := by
  intro n
  induction n with
  | zero => intro x2 x3 x4 x5 σ h; exact h.elim
  | succ n ih =>
    intro x2 x3 x4 x5 σ h
    replace h : ((x2 + x3) ≤ x5 → (Q x4 σ)) ∧ (¬ ((x2 + x3) ≤ x5) → (vp_in x5 16 ∧ (∀ x4_3 : Int32, x4_3 = (x4 ||| ((nI 1) <<< ((σ 51 x5.toNatClampNeg) &&& 31))) → (∀ x5_4 : Int32, x5_4 = x5 + (nI 1) → (wS_bitsOf_l6 Q n x2 x3 x4_3 x5_4 σ))))) := h
    refine v_iload hC 4 dX4_bitsOf_6 rfl ?_
    refine v_iload_n hC 1 dX4_bitsOf_8 rfl ?_
    refine v_iload_n hC 2 dX4_bitsOf_9 rfl ?_
    refine v_iadd hC dX4_bitsOf_10 ?_
    refine v_icmp_ge hC 34 dX4_bitsOf_11 (by decide) (fun c1 => ?_) (fun c1 => ?_)
    · replace h := h.1 c1
      refine v_iload hC 3 dX4_bitsOf_34 rfl ?_
      exact v_iret hC hR h dX4_bitsOf_36
    · replace h := h.2 c1
      refine v_iload hC 3 dX4_bitsOf_14 rfl ?_
      refine v_iconst hC (nI 1) dX4_bitsOf_16 rfl ?_
      refine v_aload_n hC 0 dX4_bitsOf_17 rfl ?_
      refine gf_X4_35_42 hC dX4_bitsOf_18 ?_
      refine v_iload hC 4 dX4_bitsOf_21 rfl ?_
      obtain ⟨hi2, h⟩ := h
      refine v_iald hC (Nat.le_of_ble_eq_true rfl) rfl rfl hi2 dX4_bitsOf_23 ?_
      refine v_ishl hC dX4_bitsOf_24 ?_
      refine v_ior hC dX4_bitsOf_25 ?_
      refine v_istoreN hC dX4_bitsOf_26 (by decide) (lo2 := fun x4_3 => [(4, .int x4_3), (1, .ref (xad X 42)), (2, .int x2), (3, .int x3), (5, .int x5)]) (fun _ => rfl) (fun x4_3 e3 => ?_)
      replace h := h x4_3 e3
      refine v_iincN hC (nI 1) 4 dX4_bitsOf_28 rfl rfl (by decide) (lo2 := fun x5_4 => [(5, .int x5_4), (4, .int x4_3), (1, .ref (xad X 42)), (2, .int x2), (3, .int x3)]) (fun _ => rfl) (fun x5_4 e4 => ?_)
      replace h := h x5_4 e4
      refine v_goto hC 6 dX4_bitsOf_31 (by decide) ?_
      exact V.sub [2, 3, 4, 1, 0] rfl (ih _ _ _ _ _ h)
set_option maxHeartbeats 4000000 in
set_option maxRecDepth 100000 in
theorem kS_bitsOf (x2 : Int32) (x3 : Int32) (σ : gM) (Q : Int32 → gM → Prop) (h : wS_bitsOf x2 x3 σ Q) : CT yX4_bitsOf cX4_bitsOf 6 (some .int) rmS_bitsOf (fun G => [.ref (gad G 35), .ref (gad G 42), .int x2, .int x3]) σ (gPi Q) := by
  refine c_enter (by decide) (fun _ => Nat.le_of_ble_eq_true rfl) (fun X hC hR => ?_)
  show V X 6 0 [(0, .ref (xad X 35)), (1, .ref (xad X 42)), (2, .int x2), (3, .int x3)] [] σ
  replace h : ∃ n5 : Nat, wS_bitsOf_l6 Q n5 x2 x3 (nI 0) x2 σ := h
  refine v_iconst hC (nI 0) dX4_bitsOf_0 rfl ?_
  refine v_istore hC dX4_bitsOf_1 (by decide) rfl ?_
  refine v_iload_n hC 3 dX4_bitsOf_3 rfl ?_
  refine v_istore hC dX4_bitsOf_4 (by decide) rfl ?_
  obtain ⟨n5, h⟩ := h
  exact V.sub [3, 4, 5, 1, 0] rfl (tS_bitsOf_l6 hC hR  n5 _ _ _ _ _ h)
theorem cmS_bitsOf : CM yX4_bitsOf cX4_bitsOf 6 (some .int) rmS_bitsOf 3 := ⟨kw80, kw863, rfl, rfl, by decide, by decide, by decide +kernel⟩
def rmS_surelyTaken : Room := { frames := 1, cells := 0, slots := 0, locals := 25 }
def wS_surelyTaken_l5 (Q : Int32 → gM → Prop)  : Nat → Int32 → Int32 → Int32 → gM → Prop
  | 0, _, _, _, _ => False
  | n + 1, x2, x3, x4, σ =>
    (x2 < x4 → (∀ v3 : Int32, v3 = (if x3 = (-1 : Int32) then (-1000000 : Int32) else x3) → (Q v3 σ))) ∧ (¬ (x2 < x4) → (vp_in x4 11 ∧ (((σ 38 x4.toNatClampNeg) ≤ nI 0 → (∀ x4_6 : Int32, x4_6 = x4 + (nI 1) → (wS_surelyTaken_l5 Q n x2 x3 x4_6 σ))) ∧ (¬ ((σ 38 x4.toNatClampNeg) ≤ nI 0) → (wS_bitsOf (nI 0) x4 σ (fun (r8 : Int32) (σ8 : gM) => wS_bitsOf ((σ8 42 5) - (x2 - x4)) (x2 - x4) σ8 (fun (r10 : Int32) (σ10 : gM) => ∀ x3_11 : Int32, x3_11 = (x3 &&& (r8 ||| r10)) → (∀ x4_12 : Int32, x4_12 = x4 + (nI 1) → (wS_surelyTaken_l5 Q n x2 x3_11 x4_12 σ10)))))))))
def wS_surelyTaken (x2 : Int32) (σ : gM) (Q : Int32 → gM → Prop) : Prop :=
    ∃ n13 : Nat, wS_surelyTaken_l5 Q n13 x2 (-1 : Int32) (nI 0) σ
set_option maxHeartbeats 4000000 in
set_option maxRecDepth 100000 in
theorem tS_surelyTaken_l5 {X : gX} {Q : Int32 → gM → Prop} (hC : VC X cX4_surelyTaken RX4 5 rmS_surelyTaken) (hR : VR X (some .int) (gPi Q))  : ∀ (n : Nat) (x2 : Int32) (x3 : Int32) (x4 : Int32) (σ : gM), wS_surelyTaken_l5 Q  n x2 x3 x4 σ → V X 5 5 [(0, .ref (xad X 35)), (1, .ref (xad X 42)), (2, .int x2), (3, .int x3), (4, .int x4)] [] σ := by
  intro n
  induction n with
  | zero => intro x2 x3 x4 σ h; exact h.elim
  | succ n ih =>
    intro x2 x3 x4 σ h
    replace h : (x2 < x4 → (∀ v3 : Int32, v3 = (if x3 = (-1 : Int32) then (-1000000 : Int32) else x3) → (Q v3 σ))) ∧ (¬ (x2 < x4) → (vp_in x4 11 ∧ (((σ 38 x4.toNatClampNeg) ≤ nI 0 → (∀ x4_6 : Int32, x4_6 = x4 + (nI 1) → (wS_surelyTaken_l5 Q n x2 x3 x4_6 σ))) ∧ (¬ ((σ 38 x4.toNatClampNeg) ≤ nI 0) → (wS_bitsOf (nI 0) x4 σ (fun (r8 : Int32) (σ8 : gM) => wS_bitsOf ((σ8 42 5) - (x2 - x4)) (x2 - x4) σ8 (fun (r10 : Int32) (σ10 : gM) => ∀ x3_11 : Int32, x3_11 = (x3 &&& (r8 ||| r10)) → (∀ x4_12 : Int32, x4_12 = x4 + (nI 1) → (wS_surelyTaken_l5 Q n x2 x3_11 x4_12 σ10))))))))) := h
    refine v_iload hC 4 dX4_surelyTaken_5 rfl ?_
    refine v_iload_n hC 2 dX4_surelyTaken_7 rfl ?_
    refine v_icmp_gt hC 57 dX4_surelyTaken_8 (by decide) (fun c1 => ?_) (fun c1 => ?_)
    · replace h := h.1 c1
      refine v_iload_n hC 3 dX4_surelyTaken_57 rfl ?_
      refine v_iconst hC (-1 : Int32) dX4_surelyTaken_58 rfl ?_
      have J2 : ∀ (v3 : Int32) (ev3 : v3 = (if x3 = (-1 : Int32) then (-1000000 : Int32) else x3)), V X 5 68 [] [.int v3] σ := by
        intro v3 ev3
        replace h := h v3 ev3
        exact v_iret hC hR h dX4_surelyTaken_68
      refine v_icmp_ne hC 67 dX4_surelyTaken_59 (by decide) (fun c2 => ?_) (fun c2 => ?_)
      · refine v_iload_n hC 3 dX4_surelyTaken_67 rfl ?_
        exact V.sub [] rfl (J2 _ (by rw [if_neg c2]))
      · refine v_ldc hC kw835 dX4_surelyTaken_62 ?_
        refine v_goto hC 68 dX4_surelyTaken_64 (by decide) ?_
        exact V.sub [] rfl (J2 _ (by rw [if_pos c2]))
    · replace h := h.2 c1
      refine v_aload_n hC 0 dX4_surelyTaken_11 rfl ?_
      refine gf_X4_18 hC dX4_surelyTaken_12 ?_
      refine v_iload hC 4 dX4_surelyTaken_15 rfl ?_
      obtain ⟨hi4, h⟩ := h
      refine v_iald hC (Nat.le_of_ble_eq_true rfl) rfl rfl hi4 dX4_surelyTaken_17 ?_
      refine v_if_le hC 51 dX4_surelyTaken_18 (by decide) (fun c5 => ?_) (fun c5 => ?_)
      · replace h := h.1 c5
        refine v_iincN hC (nI 1) 4 dX4_surelyTaken_51 rfl rfl (by decide) (lo2 := fun x4_6 => [(4, .int x4_6), (0, .ref (xad X 35)), (1, .ref (xad X 42)), (2, .int x2), (3, .int x3)]) (fun _ => rfl) (fun x4_6 e6 => ?_)
        replace h := h x4_6 e6
        refine v_goto hC 5 dX4_surelyTaken_54 (by decide) ?_
        exact V.sub [1, 2, 3, 4, 0] rfl (ih _ _ _ _ h)
      · replace h := h.2 c5
        refine v_iload_n hC 3 dX4_surelyTaken_21 rfl ?_
        refine v_aload_n hC 0 dX4_surelyTaken_22 rfl ?_
        refine v_aload_n hC 1 dX4_surelyTaken_23 rfl ?_
        refine v_iconst hC (nI 0) dX4_surelyTaken_24 rfl ?_
        refine v_iload hC 4 dX4_surelyTaken_25 rfl ?_
        refine v_callV hC (kS_bitsOf _ _ _ _ h) cmS_bitsOf ⟨kw862, kw30⟩ kw860 ⟨Nat.le_of_ble_eq_true rfl, Nat.le_of_ble_eq_true rfl⟩ (Nat.le_of_ble_eq_true rfl) rfl (ci := 4) (T := TX4) (N := 4) rfl (As := fun G => [.ref (gad G 42), .int (nI 0), .int x4]) (fun _ => rfl) (fun _ => rfl) (st := [.int x3]) (Nat.le_of_ble_eq_true rfl) rfl dX4_surelyTaken_27 (kk_i (fun r8 σ8 h => ?_))
        refine v_aload_n hC 0 dX4_surelyTaken_30 rfl ?_
        refine v_aload_n hC 1 dX4_surelyTaken_31 rfl ?_
        refine v_aload_n hC 1 dX4_surelyTaken_32 rfl ?_
        refine gf_X4_24_42 hC dX4_surelyTaken_33 ?_
        refine v_iload_n hC 2 dX4_surelyTaken_36 rfl ?_
        refine v_iload hC 4 dX4_surelyTaken_37 rfl ?_
        refine v_isub hC dX4_surelyTaken_39 ?_
        refine v_isub hC dX4_surelyTaken_40 ?_
        refine v_iload_n hC 2 dX4_surelyTaken_41 rfl ?_
        refine v_iload hC 4 dX4_surelyTaken_42 rfl ?_
        refine v_isub hC dX4_surelyTaken_44 ?_
        refine v_callV hC (kS_bitsOf _ _ _ _ h) cmS_bitsOf ⟨kw862, kw30⟩ kw860 ⟨Nat.le_of_ble_eq_true rfl, Nat.le_of_ble_eq_true rfl⟩ (Nat.le_of_ble_eq_true rfl) rfl (ci := 4) (T := TX4) (N := 4) rfl (As := fun G => [.ref (gad G 42), .int ((σ8 42 5) - (x2 - x4)), .int (x2 - x4)]) (fun _ => rfl) (fun _ => rfl) (st := [.int r8, .int x3]) (Nat.le_of_ble_eq_true rfl) rfl dX4_surelyTaken_45 (kk_i (fun r10 σ10 h => ?_))
        refine v_ior hC dX4_surelyTaken_48 ?_
        refine v_iand hC dX4_surelyTaken_49 ?_
        refine v_istore_nN hC dX4_surelyTaken_50 (by decide) (lo2 := fun x3_11 => [(3, .int x3_11), (0, .ref (xad X 35)), (1, .ref (xad X 42)), (2, .int x2), (4, .int x4)]) (fun _ => rfl) (fun x3_11 e11 => ?_)
        replace h := h x3_11 e11
        refine v_iincN hC (nI 1) 4 dX4_surelyTaken_51 rfl rfl (by decide) (lo2 := fun x4_12 => [(4, .int x4_12), (3, .int x3_11), (0, .ref (xad X 35)), (1, .ref (xad X 42)), (2, .int x2)]) (fun _ => rfl) (fun x4_12 e12 => ?_)
        replace h := h x4_12 e12
        refine v_goto hC 5 dX4_surelyTaken_54 (by decide) ?_
        exact V.sub [2, 3, 4, 1, 0] rfl (ih _ _ _ _ h)
set_option maxHeartbeats 4000000 in
set_option maxRecDepth 100000 in
theorem kS_surelyTaken (x2 : Int32) (σ : gM) (Q : Int32 → gM → Prop) (h : wS_surelyTaken x2 σ Q) : CT yX4_surelyTaken cX4_surelyTaken 5 (some .int) rmS_surelyTaken (fun G => [.ref (gad G 35), .ref (gad G 42), .int x2]) σ (gPi Q) := by
  refine c_enter (by decide) (fun _ => Nat.le_of_ble_eq_true rfl) (fun X hC hR => ?_)
  show V X 5 0 [(0, .ref (xad X 35)), (1, .ref (xad X 42)), (2, .int x2)] [] σ
  replace h : ∃ n13 : Nat, wS_surelyTaken_l5 Q n13 x2 (-1 : Int32) (nI 0) σ := h
  refine v_iconst hC (-1 : Int32) dX4_surelyTaken_0 rfl ?_
  refine v_istore_n hC dX4_surelyTaken_1 (by decide) rfl ?_
  refine v_iconst hC (nI 0) dX4_surelyTaken_2 rfl ?_
  refine v_istore hC dX4_surelyTaken_3 (by decide) rfl ?_
  obtain ⟨n13, h⟩ := h
  exact V.sub [2, 3, 4, 1, 0] rfl (tS_surelyTaken_l5 hC hR  n13 _ _ _ _ h)
theorem cmS_surelyTaken : CM yX4_surelyTaken cX4_surelyTaken 5 (some .int) rmS_surelyTaken 2 := ⟨kw80, kw859, rfl, rfl, by decide, by decide, by decide +kernel⟩
