def rmM_image : Room := { frames := 1, cells := 0, slots := 0, locals := 22 }
def wM_image_l26 (Q : Int32 → gM → Prop)  : Nat → Int32 → Int32 → gM → Prop
  | 0, _, _, _ => False
  | n + 1, x1, x2, σ =>
    ((nI 102) ≤ x2 → (vp_in x1 2 ∧ (∀ σ7 : gM, σ7 = gU σ 91 x1.toNatClampNeg (vp_nar .boolean (nI 1)) → (Q (nI 1) σ7)))) ∧ (¬ ((nI 102) ≤ x2) → (vp_in x2 102 ∧ (vp_in (((nI 102) * x1) + x2) 204 ∧ (∀ σ9 : gM, σ9 = gU σ 90 (((nI 102) * x1) + x2).toNatClampNeg (σ 89 x2.toNatClampNeg) → (∀ x2_10 : Int32, x2_10 = x2 + (nI 1) → (wM_image_l26 Q n x1 x2_10 σ9))))))
def wM_image (x1 : Int32) (σ : gM) (Q : Int32 → gM → Prop) : Prop :=
    wM_in x1 (nI 0) (nI 1) σ (fun (r2 : Int32) (σ2 : gM) => (r2 = nI 0 → (Q (-1000001 : Int32) σ2)) ∧ (¬ (r2 = nI 0) → (((σ2 89 0) = nI 0 → (Q (-1000002 : Int32) σ2)) ∧ (¬ ((σ2 89 0) = nI 0) → (∃ n11 : Nat, wM_image_l26 Q n11 x1 (nI 0) σ2)))))
set_option maxHeartbeats 4000000 in
set_option maxRecDepth 100000 in
theorem tM_image_l26 {X : gX} {Q : Int32 → gM → Prop} (hC : VC X cX7_image RX7 3 rmM_image) (hR : VR X (some .int) (gPi Q))  : ∀ (n : Nat) (x1 : Int32) (x2 : Int32) (σ : gM), wM_image_l26 Q  n x1 x2 σ → V X 3 26 [(0, .ref (xad X 82)), (1, .int x1), (2, .int x2)] [] σ := by
  intro n
  induction n with
  | zero => intro x1 x2 σ h; exact h.elim
  | succ n ih =>
    intro x1 x2 σ h
    replace h : ((nI 102) ≤ x2 → (vp_in x1 2 ∧ (∀ σ7 : gM, σ7 = gU σ 91 x1.toNatClampNeg (vp_nar .boolean (nI 1)) → (Q (nI 1) σ7)))) ∧ (¬ ((nI 102) ≤ x2) → (vp_in x2 102 ∧ (vp_in (((nI 102) * x1) + x2) 204 ∧ (∀ σ9 : gM, σ9 = gU σ 90 (((nI 102) * x1) + x2).toNatClampNeg (σ 89 x2.toNatClampNeg) → (∀ x2_10 : Int32, x2_10 = x2 + (nI 1) → (wM_image_l26 Q n x1 x2_10 σ9)))))) := h
    refine v_iload_n hC 2 dX7_image_26 rfl ?_
    refine v_bipush hC (nI 102) dX7_image_27 rfl ?_
    refine v_icmp_ge hC 55 dX7_image_29 (by decide) (fun c6 => ?_) (fun c6 => ?_)
    · replace h := h.1 c6
      refine v_aload_n hC 0 dX7_image_55 rfl ?_
      refine gf_X7_34 hC dX7_image_56 ?_
      refine v_iload_n hC 1 dX7_image_59 rfl ?_
      refine v_iconst hC (nI 1) dX7_image_60 rfl ?_
      obtain ⟨hi7, h⟩ := h
      refine v_zast hC (Nat.le_of_ble_eq_true rfl) rfl rfl hi7 dX7_image_61 (fun σ7 e7 => ?_)
      replace h := h σ7 e7
      refine v_iconst hC (nI 1) dX7_image_62 rfl ?_
      exact v_iret hC hR h dX7_image_63
    · replace h := h.2 c6
      refine v_aload_n hC 0 dX7_image_32 rfl ?_
      refine gf_X7_31 hC dX7_image_33 ?_
      refine v_bipush hC (nI 102) dX7_image_36 rfl ?_
      refine v_iload_n hC 1 dX7_image_38 rfl ?_
      refine v_imul hC dX7_image_39 ?_
      refine v_iload_n hC 2 dX7_image_40 rfl ?_
      refine v_iadd hC dX7_image_41 ?_
      refine v_aload_n hC 0 dX7_image_42 rfl ?_
      refine gf_X7_28 hC dX7_image_43 ?_
      refine v_iload_n hC 2 dX7_image_46 rfl ?_
      obtain ⟨hi8, h⟩ := h
      refine v_iald hC (Nat.le_of_ble_eq_true rfl) rfl rfl hi8 dX7_image_47 ?_
      obtain ⟨hi9, h⟩ := h
      refine v_iast hC (Nat.le_of_ble_eq_true rfl) rfl rfl hi9 dX7_image_48 (fun σ9 e9 => ?_)
      replace h := h σ9 e9
      refine v_iincN hC (nI 1) 2 dX7_image_49 rfl rfl (by decide) (lo2 := fun x2_10 => [(2, .int x2_10), (0, .ref (xad X 82)), (1, .int x1)]) (fun _ => rfl) (fun x2_10 e10 => ?_)
      replace h := h x2_10 e10
      refine v_goto hC 26 dX7_image_52 (by decide) ?_
      exact V.sub [1, 2, 0] rfl (ih _ _ _ h)
set_option maxHeartbeats 4000000 in
set_option maxRecDepth 100000 in
theorem kM_image (x1 : Int32) (σ : gM) (Q : Int32 → gM → Prop) (h : wM_image x1 σ Q) : CT yX7_image cX7_image 3 (some .int) rmM_image (fun G => [.ref (gad G 82), .int x1]) σ (gPi Q) := by
  refine c_enter (by decide) (fun _ => Nat.le_of_ble_eq_true rfl) (fun X hC hR => ?_)
  show V X 3 0 [(0, .ref (xad X 82)), (1, .int x1)] [] σ
  replace h : wM_in x1 (nI 0) (nI 1) σ (fun (r2 : Int32) (σ2 : gM) => (r2 = nI 0 → (Q (-1000001 : Int32) σ2)) ∧ (¬ (r2 = nI 0) → (((σ2 89 0) = nI 0 → (Q (-1000002 : Int32) σ2)) ∧ (¬ ((σ2 89 0) = nI 0) → (∃ n11 : Nat, wM_image_l26 Q n11 x1 (nI 0) σ2))))) := h
  refine v_iload_n hC 1 dX7_image_0 rfl ?_
  refine v_iconst hC (nI 0) dX7_image_1 rfl ?_
  refine v_iconst hC (nI 1) dX7_image_2 rfl ?_
  refine v_callS hC (kM_in _ _ _ _ _ h) cmM_in kw1051 kw1050 ⟨Nat.le_of_ble_eq_true rfl, Nat.le_of_ble_eq_true rfl⟩ (fun _ => rfl) (st := []) (Nat.le_of_ble_eq_true rfl) rfl dX7_image_3 (kk_i (fun r2 σ2 h => ?_))
  refine v_if_ne hC 12 dX7_image_6 (by decide) (fun c3 => ?_) (fun c3 => ?_)
  · replace h := h.2 c3
    refine v_aload_n hC 0 dX7_image_12 rfl ?_
    refine gf_X7_28 hC dX7_image_13 ?_
    refine v_iconst hC (nI 0) dX7_image_16 rfl ?_
    refine v_iald hC (Nat.le_of_ble_eq_true rfl) rfl (j := 0) (by decide) (by unfold vp_in; decide) dX7_image_17 ?_
    refine v_if_ne hC 24 dX7_image_18 (by decide) (fun c5 => ?_) (fun c5 => ?_)
    · replace h := h.2 c5
      refine v_iconst hC (nI 0) dX7_image_24 rfl ?_
      refine v_istore_n hC dX7_image_25 (by decide) rfl ?_
      obtain ⟨n11, h⟩ := h
      exact V.sub [1, 2, 0] rfl (tM_image_l26 hC hR  n11 _ _ _ h)
    · replace h := h.1 c5
      refine v_ldc hC kw1145 dX7_image_21 ?_
      exact v_iret hC hR h dX7_image_23
  · replace h := h.1 c3
    refine v_ldc hC kw1053 dX7_image_9 ?_
    exact v_iret hC hR h dX7_image_11
theorem cmM_image : CM yX7_image cX7_image 3 (some .int) rmM_image 1 := ⟨kw82, kw1295, rfl, rfl, by decide, by decide, by decide +kernel⟩
def rmM_restore : Room := { frames := 1, cells := 0, slots := 0, locals := 22 }
def wM_restore_l26 (Q : Int32 → gM → Prop)  : Nat → Int32 → Int32 → gM → Prop
  | 0, _, _, _ => False
  | n + 1, x1, x2, σ =>
    ((nI 102) ≤ x2 → (∀ σ7 : gM, σ7 = gU σ 82 20 (nI 0) → (Q (nI 1) σ7))) ∧ (¬ ((nI 102) ≤ x2) → (vp_in (((nI 102) * x1) + x2) 204 ∧ (vp_in x2 102 ∧ (∀ σ9 : gM, σ9 = gU σ 89 x2.toNatClampNeg (σ 90 (((nI 102) * x1) + x2).toNatClampNeg) → (∀ x2_10 : Int32, x2_10 = x2 + (nI 1) → (wM_restore_l26 Q n x1 x2_10 σ9))))))
def wM_restore (x1 : Int32) (σ : gM) (Q : Int32 → gM → Prop) : Prop :=
    wM_in x1 (nI 0) (nI 1) σ (fun (r2 : Int32) (σ2 : gM) => (r2 = nI 0 → (Q (-1000001 : Int32) σ2)) ∧ (¬ (r2 = nI 0) → (vp_in x1 2 ∧ (((σ2 91 x1.toNatClampNeg) = nI 0 → (Q (-1000002 : Int32) σ2)) ∧ (¬ ((σ2 91 x1.toNatClampNeg) = nI 0) → (∃ n11 : Nat, wM_restore_l26 Q n11 x1 (nI 0) σ2))))))
set_option maxHeartbeats 4000000 in
set_option maxRecDepth 100000 in
theorem tM_restore_l26 {X : gX} {Q : Int32 → gM → Prop} (hC : VC X cX7_restore RX7 3 rmM_restore) (hR : VR X (some .int) (gPi Q))  : ∀ (n : Nat) (x1 : Int32) (x2 : Int32) (σ : gM), wM_restore_l26 Q  n x1 x2 σ → V X 3 26 [(0, .ref (xad X 82)), (1, .int x1), (2, .int x2)] [] σ := by
  intro n
  induction n with
  | zero => intro x1 x2 σ h; exact h.elim
  | succ n ih =>
    intro x1 x2 σ h
    replace h : ((nI 102) ≤ x2 → (∀ σ7 : gM, σ7 = gU σ 82 20 (nI 0) → (Q (nI 1) σ7))) ∧ (¬ ((nI 102) ≤ x2) → (vp_in (((nI 102) * x1) + x2) 204 ∧ (vp_in x2 102 ∧ (∀ σ9 : gM, σ9 = gU σ 89 x2.toNatClampNeg (σ 90 (((nI 102) * x1) + x2).toNatClampNeg) → (∀ x2_10 : Int32, x2_10 = x2 + (nI 1) → (wM_restore_l26 Q n x1 x2_10 σ9)))))) := h
    refine v_iload_n hC 2 dX7_restore_26 rfl ?_
    refine v_bipush hC (nI 102) dX7_restore_27 rfl ?_
    refine v_icmp_ge hC 55 dX7_restore_29 (by decide) (fun c6 => ?_) (fun c6 => ?_)
    · replace h := h.1 c6
      refine v_aload_n hC 0 dX7_restore_55 rfl ?_
      refine v_iconst hC (nI 0) dX7_restore_56 rfl ?_
      refine pf_X7_173 hC dX7_restore_57 (fun σ7 e7 => ?_)
      replace h := h σ7 e7
      refine v_iconst hC (nI 1) dX7_restore_60 rfl ?_
      exact v_iret hC hR h dX7_restore_61
    · replace h := h.2 c6
      refine v_aload_n hC 0 dX7_restore_32 rfl ?_
      refine gf_X7_28 hC dX7_restore_33 ?_
      refine v_iload_n hC 2 dX7_restore_36 rfl ?_
      refine v_aload_n hC 0 dX7_restore_37 rfl ?_
      refine gf_X7_31 hC dX7_restore_38 ?_
      refine v_bipush hC (nI 102) dX7_restore_41 rfl ?_
      refine v_iload_n hC 1 dX7_restore_43 rfl ?_
      refine v_imul hC dX7_restore_44 ?_
      refine v_iload_n hC 2 dX7_restore_45 rfl ?_
      refine v_iadd hC dX7_restore_46 ?_
      obtain ⟨hi8, h⟩ := h
      refine v_iald hC (Nat.le_of_ble_eq_true rfl) rfl rfl hi8 dX7_restore_47 ?_
      obtain ⟨hi9, h⟩ := h
      refine v_iast hC (Nat.le_of_ble_eq_true rfl) rfl rfl hi9 dX7_restore_48 (fun σ9 e9 => ?_)
      replace h := h σ9 e9
      refine v_iincN hC (nI 1) 2 dX7_restore_49 rfl rfl (by decide) (lo2 := fun x2_10 => [(2, .int x2_10), (0, .ref (xad X 82)), (1, .int x1)]) (fun _ => rfl) (fun x2_10 e10 => ?_)
      replace h := h x2_10 e10
      refine v_goto hC 26 dX7_restore_52 (by decide) ?_
      exact V.sub [1, 2, 0] rfl (ih _ _ _ h)
set_option maxHeartbeats 4000000 in
set_option maxRecDepth 100000 in
theorem kM_restore (x1 : Int32) (σ : gM) (Q : Int32 → gM → Prop) (h : wM_restore x1 σ Q) : CT yX7_restore cX7_restore 3 (some .int) rmM_restore (fun G => [.ref (gad G 82), .int x1]) σ (gPi Q) := by
  refine c_enter (by decide) (fun _ => Nat.le_of_ble_eq_true rfl) (fun X hC hR => ?_)
  show V X 3 0 [(0, .ref (xad X 82)), (1, .int x1)] [] σ
  replace h : wM_in x1 (nI 0) (nI 1) σ (fun (r2 : Int32) (σ2 : gM) => (r2 = nI 0 → (Q (-1000001 : Int32) σ2)) ∧ (¬ (r2 = nI 0) → (vp_in x1 2 ∧ (((σ2 91 x1.toNatClampNeg) = nI 0 → (Q (-1000002 : Int32) σ2)) ∧ (¬ ((σ2 91 x1.toNatClampNeg) = nI 0) → (∃ n11 : Nat, wM_restore_l26 Q n11 x1 (nI 0) σ2)))))) := h
  refine v_iload_n hC 1 dX7_restore_0 rfl ?_
  refine v_iconst hC (nI 0) dX7_restore_1 rfl ?_
  refine v_iconst hC (nI 1) dX7_restore_2 rfl ?_
  refine v_callS hC (kM_in _ _ _ _ _ h) cmM_in kw1051 kw1050 ⟨Nat.le_of_ble_eq_true rfl, Nat.le_of_ble_eq_true rfl⟩ (fun _ => rfl) (st := []) (Nat.le_of_ble_eq_true rfl) rfl dX7_restore_3 (kk_i (fun r2 σ2 h => ?_))
  refine v_if_ne hC 12 dX7_restore_6 (by decide) (fun c3 => ?_) (fun c3 => ?_)
  · replace h := h.2 c3
    refine v_aload_n hC 0 dX7_restore_12 rfl ?_
    refine gf_X7_34 hC dX7_restore_13 ?_
    refine v_iload_n hC 1 dX7_restore_16 rfl ?_
    obtain ⟨hi4, h⟩ := h
    refine v_zald hC (Nat.le_of_ble_eq_true rfl) rfl rfl hi4 dX7_restore_17 ?_
    refine v_if_ne hC 24 dX7_restore_18 (by decide) (fun c5 => ?_) (fun c5 => ?_)
    · replace h := h.2 c5
      refine v_iconst hC (nI 0) dX7_restore_24 rfl ?_
      refine v_istore_n hC dX7_restore_25 (by decide) rfl ?_
      obtain ⟨n11, h⟩ := h
      exact V.sub [1, 2, 0] rfl (tM_restore_l26 hC hR  n11 _ _ _ h)
    · replace h := h.1 c5
      refine v_ldc hC kw1145 dX7_restore_21 ?_
      exact v_iret hC hR h dX7_restore_23
  · replace h := h.1 c3
    refine v_ldc hC kw1053 dX7_restore_9 ?_
    exact v_iret hC hR h dX7_restore_11
theorem cmM_restore : CM yX7_restore cX7_restore 3 (some .int) rmM_restore 1 := ⟨kw82, kw1299, rfl, rfl, by decide, by decide, by decide +kernel⟩
def rmM_kind : Room := { frames := 2, cells := 0, slots := 0, locals := 43 }
def wM_kind (x1 : Int32) (σ : gM) (Q : Int32 → gM → Prop) : Prop :=
    wM_isWareAt x1 σ (fun (r2 : Int32) (σ2 : gM) => (r2 = nI 0 → (Q (-1000001 : Int32) σ2)) ∧ (¬ (r2 = nI 0) → (wM_kindOf x1 σ2 (fun (r5 : Int32) (σ5 : gM) => Q r5 σ5))))
set_option maxHeartbeats 4000000 in
set_option maxRecDepth 100000 in
theorem kM_kind (x1 : Int32) (σ : gM) (Q : Int32 → gM → Prop) (h : wM_kind x1 σ Q) : CT yX7_kind cX7_kind 2 (some .int) rmM_kind (fun G => [.ref (gad G 82), .int x1]) σ (gPi Q) := by
  refine c_enter (by decide) (fun _ => Nat.le_of_ble_eq_true rfl) (fun X hC hR => ?_)
  show V X 2 0 [(0, .ref (xad X 82)), (1, .int x1)] [] σ
  replace h : wM_isWareAt x1 σ (fun (r2 : Int32) (σ2 : gM) => (r2 = nI 0 → (Q (-1000001 : Int32) σ2)) ∧ (¬ (r2 = nI 0) → (wM_kindOf x1 σ2 (fun (r5 : Int32) (σ5 : gM) => Q r5 σ5)))) := h
  refine v_aload_n hC 0 dX7_kind_0 rfl ?_
  refine v_iload_n hC 1 dX7_kind_1 rfl ?_
  refine v_callV hC (kM_isWareAt _ _ _ h) cmM_isWareAt ⟨kw1203, kw61⟩ kw1201 ⟨Nat.le_of_ble_eq_true rfl, Nat.le_of_ble_eq_true rfl⟩ (Nat.le_of_ble_eq_true rfl) rfl (ci := 7) (T := TX7) (N := 30) rfl (As := fun G => [.int x1]) (fun _ => rfl) (fun _ => rfl) (st := []) (Nat.le_of_ble_eq_true rfl) rfl dX7_kind_2 (kk_i (fun r2 σ2 h => ?_))
  refine v_if_eq hC 16 dX7_kind_5 (by decide) (fun c3 => ?_) (fun c3 => ?_)
  · replace h := h.1 c3
    refine v_ldc hC kw1053 dX7_kind_16 ?_
    exact v_iret hC hR h dX7_kind_18
  · replace h := h.2 c3
    refine v_aload_n hC 0 dX7_kind_8 rfl ?_
    refine v_iload_n hC 1 dX7_kind_9 rfl ?_
    refine v_callV hC (kM_kindOf _ _ _ h) cmM_kindOf ⟨kw1156, kw54⟩ kw1154 ⟨Nat.le_of_ble_eq_true rfl, Nat.le_of_ble_eq_true rfl⟩ (Nat.le_of_ble_eq_true rfl) rfl (ci := 7) (T := TX7) (N := 30) rfl (As := fun G => [.int x1]) (fun _ => rfl) (fun _ => rfl) (st := []) (Nat.le_of_ble_eq_true rfl) rfl dX7_kind_10 (kk_i (fun r5 σ5 h => ?_))
    refine v_goto hC 18 dX7_kind_13 (by decide) ?_
    exact v_iret hC hR h dX7_kind_18
theorem cmM_kind : CM yX7_kind cX7_kind 2 (some .int) rmM_kind 1 := ⟨kw82, kw1303, rfl, rfl, by decide, by decide, by decide +kernel⟩
def rmM_as : Room := { frames := 2, cells := 0, slots := 0, locals := 43 }
def wM_as (x1 : Int32) (x2 : Int32) (σ : gM) (Q : Int32 → gM → Prop) : Prop :=
    wM_isWareAt x1 σ (fun (r2 : Int32) (σ2 : gM) => (r2 = nI 0 → (Q (-1000001 : Int32) σ2)) ∧ (¬ (r2 = nI 0) → (wM_in x2 (nI 0) (nI 5) σ2 (fun (r5 : Int32) (σ5 : gM) => (r5 = nI 0 → (Q (-1000001 : Int32) σ5)) ∧ (¬ (r5 = nI 0) → (wM_kindOf x1 σ5 (fun (r8 : Int32) (σ8 : gM) => wM_isOf r8 x2 σ8 (fun (r10 : Int32) (σ10 : gM) => (r10 = nI 0 → (wM_finds (nI 3) σ10 (fun (r13 : Int32) (σ13 : gM) => Q r13 σ13))) ∧ (¬ (r10 = nI 0) → (wM_did x1 σ10 (fun (r15 : Int32) (σ15 : gM) => Q r15 σ15)))))))))))
set_option maxHeartbeats 4000000 in
set_option maxRecDepth 100000 in
theorem kM_as (x1 : Int32) (x2 : Int32) (σ : gM) (Q : Int32 → gM → Prop) (h : wM_as x1 x2 σ Q) : CT yX7_as cX7_as 3 (some .int) rmM_as (fun G => [.ref (gad G 82), .int x1, .int x2]) σ (gPi Q) := by
  refine c_enter (by decide) (fun _ => Nat.le_of_ble_eq_true rfl) (fun X hC hR => ?_)
  show V X 3 0 [(0, .ref (xad X 82)), (1, .int x1), (2, .int x2)] [] σ
  replace h : wM_isWareAt x1 σ (fun (r2 : Int32) (σ2 : gM) => (r2 = nI 0 → (Q (-1000001 : Int32) σ2)) ∧ (¬ (r2 = nI 0) → (wM_in x2 (nI 0) (nI 5) σ2 (fun (r5 : Int32) (σ5 : gM) => (r5 = nI 0 → (Q (-1000001 : Int32) σ5)) ∧ (¬ (r5 = nI 0) → (wM_kindOf x1 σ5 (fun (r8 : Int32) (σ8 : gM) => wM_isOf r8 x2 σ8 (fun (r10 : Int32) (σ10 : gM) => (r10 = nI 0 → (wM_finds (nI 3) σ10 (fun (r13 : Int32) (σ13 : gM) => Q r13 σ13))) ∧ (¬ (r10 = nI 0) → (wM_did x1 σ10 (fun (r15 : Int32) (σ15 : gM) => Q r15 σ15))))))))))) := h
  refine v_aload_n hC 0 dX7_as_0 rfl ?_
  refine v_iload_n hC 1 dX7_as_1 rfl ?_
  refine v_callV hC (kM_isWareAt _ _ _ h) cmM_isWareAt ⟨kw1203, kw61⟩ kw1201 ⟨Nat.le_of_ble_eq_true rfl, Nat.le_of_ble_eq_true rfl⟩ (Nat.le_of_ble_eq_true rfl) rfl (ci := 7) (T := TX7) (N := 30) rfl (As := fun G => [.int x1]) (fun _ => rfl) (fun _ => rfl) (st := []) (Nat.le_of_ble_eq_true rfl) rfl dX7_as_2 (kk_i (fun r2 σ2 h => ?_))
  refine v_if_eq hC 17 dX7_as_5 (by decide) (fun c3 => ?_) (fun c3 => ?_)
  · replace h := h.1 c3
    refine v_ldc hC kw1053 dX7_as_17 ?_
    exact v_iret hC hR h dX7_as_19
  · replace h := h.2 c3
    refine v_iload_n hC 2 dX7_as_8 rfl ?_
    refine v_iconst hC (nI 0) dX7_as_9 rfl ?_
    refine v_iconst hC (nI 5) dX7_as_10 rfl ?_
    refine v_callS hC (kM_in _ _ _ _ _ h) cmM_in kw1051 kw1050 ⟨Nat.le_of_ble_eq_true rfl, Nat.le_of_ble_eq_true rfl⟩ (fun _ => rfl) (st := []) (Nat.le_of_ble_eq_true rfl) rfl dX7_as_11 (kk_i (fun r5 σ5 h => ?_))
    refine v_if_ne hC 20 dX7_as_14 (by decide) (fun c6 => ?_) (fun c6 => ?_)
    · replace h := h.2 c6
      refine v_aload_n hC 0 dX7_as_20 rfl ?_
      refine v_iload_n hC 1 dX7_as_21 rfl ?_
      refine v_callV hC (kM_kindOf _ _ _ h) cmM_kindOf ⟨kw1156, kw54⟩ kw1154 ⟨Nat.le_of_ble_eq_true rfl, Nat.le_of_ble_eq_true rfl⟩ (Nat.le_of_ble_eq_true rfl) rfl (ci := 7) (T := TX7) (N := 30) rfl (As := fun G => [.int x1]) (fun _ => rfl) (fun _ => rfl) (st := []) (Nat.le_of_ble_eq_true rfl) rfl dX7_as_22 (kk_i (fun r8 σ8 h => ?_))
      refine v_iload_n hC 2 dX7_as_25 rfl ?_
      refine v_callS hC (kM_isOf _ _ _ _ h) cmM_isOf kw1163 kw1162 ⟨Nat.le_of_ble_eq_true rfl, Nat.le_of_ble_eq_true rfl⟩ (fun _ => rfl) (st := []) (Nat.le_of_ble_eq_true rfl) rfl dX7_as_26 (kk_i (fun r10 σ10 h => ?_))
      refine v_if_eq hC 40 dX7_as_29 (by decide) (fun c11 => ?_) (fun c11 => ?_)
      · replace h := h.1 c11
        refine v_aload_n hC 0 dX7_as_40 rfl ?_
        refine v_iconst hC (nI 3) dX7_as_41 rfl ?_
        refine v_callV hC (kM_finds _ _ _ h) cmM_finds ⟨kw1056, kw41⟩ kw1054 ⟨Nat.le_of_ble_eq_true rfl, Nat.le_of_ble_eq_true rfl⟩ (Nat.le_of_ble_eq_true rfl) rfl (ci := 7) (T := TX7) (N := 30) rfl (As := fun G => [.int (nI 3)]) (fun _ => rfl) (fun _ => rfl) (st := []) (Nat.le_of_ble_eq_true rfl) rfl dX7_as_42 (kk_i (fun r13 σ13 h => ?_))
        exact v_iret hC hR h dX7_as_45
      · replace h := h.2 c11
        refine v_aload_n hC 0 dX7_as_32 rfl ?_
        refine v_iload_n hC 1 dX7_as_33 rfl ?_
        refine v_callV hC (kM_did _ _ _ h) cmM_did ⟨kw1061, kw42⟩ kw1059 ⟨Nat.le_of_ble_eq_true rfl, Nat.le_of_ble_eq_true rfl⟩ (Nat.le_of_ble_eq_true rfl) rfl (ci := 7) (T := TX7) (N := 30) rfl (As := fun G => [.int x1]) (fun _ => rfl) (fun _ => rfl) (st := []) (Nat.le_of_ble_eq_true rfl) rfl dX7_as_34 (kk_i (fun r15 σ15 h => ?_))
        refine v_goto hC 45 dX7_as_37 (by decide) ?_
        exact v_iret hC hR h dX7_as_45
    · replace h := h.1 c6
      refine v_ldc hC kw1053 dX7_as_17 ?_
      exact v_iret hC hR h dX7_as_19
theorem cmM_as : CM yX7_as cX7_as 3 (some .int) rmM_as 2 := ⟨kw82, kw1307, rfl, rfl, by decide, by decide, by decide +kernel⟩
def rmM_leave : Room := { frames := 0, cells := 0, slots := 0, locals := 0 }
def wM_leave (x1 : Int32) (σ : gM) (Q : gM → Prop) : Prop :=
    ((nI 16) ≤ (σ 82 22) → (Q σ)) ∧ (¬ ((nI 16) ≤ (σ 82 22)) → (vp_in (σ 82 22) 16 ∧ (∀ σ2 : gM, σ2 = gU σ 93 (σ 82 22).toNatClampNeg x1 → (∀ σ3 : gM, σ3 = gU σ2 82 22 ((σ2 82 22) + (nI 1)) → (Q σ3)))))
set_option maxHeartbeats 4000000 in
set_option maxRecDepth 100000 in
theorem kM_leave (x1 : Int32) (σ : gM) (Q : gM → Prop) (h : wM_leave x1 σ Q) : CT yX7_leave cX7_leave 2 none rmM_leave (fun G => [.ref (gad G 82), .int x1]) σ (gPv Q) := by
  refine c_enter (by decide) (fun _ => Nat.le_of_ble_eq_true rfl) (fun X hC hR => ?_)
  show V X 2 0 [(0, .ref (xad X 82)), (1, .int x1)] [] σ
  replace h : ((nI 16) ≤ (σ 82 22) → (Q σ)) ∧ (¬ ((nI 16) ≤ (σ 82 22)) → (vp_in (σ 82 22) 16 ∧ (∀ σ2 : gM, σ2 = gU σ 93 (σ 82 22).toNatClampNeg x1 → (∀ σ3 : gM, σ3 = gU σ2 82 22 ((σ2 82 22) + (nI 1)) → (Q σ3))))) := h
  refine v_aload_n hC 0 dX7_leave_0 rfl ?_
  refine gf_X7_247 hC dX7_leave_1 ?_
  refine v_bipush hC (nI 16) dX7_leave_4 rfl ?_
  refine v_icmp_ge hC 29 dX7_leave_6 (by decide) (fun c1 => ?_) (fun c1 => ?_)
  · replace h := h.1 c1
    exact v_vret hC hR h dX7_leave_29
  · replace h := h.2 c1
    refine v_aload_n hC 0 dX7_leave_9 rfl ?_
    refine gf_X7_41 hC dX7_leave_10 ?_
    refine v_aload_n hC 0 dX7_leave_13 rfl ?_
    refine gf_X7_247 hC dX7_leave_14 ?_
    refine v_iload_n hC 1 dX7_leave_17 rfl ?_
    obtain ⟨hi2, h⟩ := h
    refine v_iast hC (Nat.le_of_ble_eq_true rfl) rfl rfl hi2 dX7_leave_18 (fun σ2 e2 => ?_)
    replace h := h σ2 e2
    refine v_aload_n hC 0 dX7_leave_19 rfl ?_
    refine v_dup hC dX7_leave_20 rfl ?_
    refine gf_X7_247 hC dX7_leave_21 ?_
    refine v_iconst hC (nI 1) dX7_leave_24 rfl ?_
    refine v_iadd hC dX7_leave_25 ?_
    refine pf_X7_247 hC dX7_leave_26 (fun σ3 e3 => ?_)
    replace h := h σ3 e3
    exact v_vret hC hR h dX7_leave_29
theorem cmM_leave : CM yX7_leave cX7_leave 2 none rmM_leave 1 := ⟨kw82, kw1323, rfl, rfl, by decide, by decide, by decide +kernel⟩
def rmM_fruitMark : Room := { frames := 1, cells := 0, slots := 0, locals := 21 }
def wM_fruitMark_b27 (Q : Int32 → gM → Prop)  (x1 : Int32) (x2 : Int32) (σ : gM) : Prop :=
    wM_leave (nI 21) σ (fun (σ5 : gM) => wM_leave (nI 20) σ5 (fun (σ7 : gM) => vp_in (((nI 22) + ((nI 4) * x1)) + (nI 2)) 102 ∧ (∀ x3_9 : Int32, x3_9 = (x1 + (σ7 89 (((nI 22) + ((nI 4) * x1)) + (nI 2)).toNatClampNeg)) → (∀ v11 : Int32, v11 = (if x2 = (nI 2) then ((nI 2) * x3_9) else (if x2 = (nI 3) then (x3_9 - (nI 1000)) else x3_9)) → (Q v11 σ7)))))
def wM_fruitMark (x1 : Int32) (σ : gM) (Q : Int32 → gM → Prop) : Prop :=
    wM_kindOf x1 σ (fun (r2 : Int32) (σ2 : gM) => (r2 = (nI 1) → (wM_fruitMark_b27 Q x1 r2 σ2)) ∧ (¬ (r2 = (nI 1)) → (∀ v14 : Int32, v14 = (if r2 = (nI 2) then (nI 24) else (nI 22)) → (wM_leave v14 σ2 (fun (σ16 : gM) => wM_fruitMark_b27 Q x1 r2 σ16)))))
set_option maxHeartbeats 4000000 in
set_option maxRecDepth 100000 in
theorem tM_fruitMark_b27 {X : gX} {Q : Int32 → gM → Prop} (hC : VC X cX7_fruitMark RX7 4 rmM_fruitMark) (hR : VR X (some .int) (gPi Q))  (x1 : Int32) (x2 : Int32) (σ : gM) (h : wM_fruitMark_b27 Q  x1 x2 σ) : V X 4 27 [(0, .ref (xad X 82)), (1, .int x1), (2, .int x2)] [] σ := by
  replace h : wM_leave (nI 21) σ (fun (σ5 : gM) => wM_leave (nI 20) σ5 (fun (σ7 : gM) => vp_in (((nI 22) + ((nI 4) * x1)) + (nI 2)) 102 ∧ (∀ x3_9 : Int32, x3_9 = (x1 + (σ7 89 (((nI 22) + ((nI 4) * x1)) + (nI 2)).toNatClampNeg)) → (∀ v11 : Int32, v11 = (if x2 = (nI 2) then ((nI 2) * x3_9) else (if x2 = (nI 3) then (x3_9 - (nI 1000)) else x3_9)) → (Q v11 σ7))))) := h
  refine v_aload_n hC 0 dX7_fruitMark_27 rfl ?_
  refine v_bipush hC (nI 21) dX7_fruitMark_28 rfl ?_
  refine v_callV hC (kM_leave _ _ _ h) cmM_leave ⟨kw1322, kw72⟩ kw1320 ⟨Nat.le_of_ble_eq_true rfl, Nat.le_of_ble_eq_true rfl⟩ (Nat.le_of_ble_eq_true rfl) rfl (ci := 7) (T := TX7) (N := 30) rfl (As := fun G => [.int (nI 21)]) (fun _ => rfl) (fun _ => rfl) (st := []) (Nat.le_of_ble_eq_true rfl) rfl dX7_fruitMark_30 (kk_v (fun σ5 h => ?_))
  refine v_aload_n hC 0 dX7_fruitMark_33 rfl ?_
  refine v_bipush hC (nI 20) dX7_fruitMark_34 rfl ?_
  refine v_callV hC (kM_leave _ _ _ h) cmM_leave ⟨kw1322, kw72⟩ kw1320 ⟨Nat.le_of_ble_eq_true rfl, Nat.le_of_ble_eq_true rfl⟩ (Nat.le_of_ble_eq_true rfl) rfl (ci := 7) (T := TX7) (N := 30) rfl (As := fun G => [.int (nI 20)]) (fun _ => rfl) (fun _ => rfl) (st := []) (Nat.le_of_ble_eq_true rfl) rfl dX7_fruitMark_36 (kk_v (fun σ7 h => ?_))
  refine v_iload_n hC 1 dX7_fruitMark_39 rfl ?_
  refine v_aload_n hC 0 dX7_fruitMark_40 rfl ?_
  refine gf_X7_28 hC dX7_fruitMark_41 ?_
  refine v_bipush hC (nI 22) dX7_fruitMark_44 rfl ?_
  refine v_iconst hC (nI 4) dX7_fruitMark_46 rfl ?_
  refine v_iload_n hC 1 dX7_fruitMark_47 rfl ?_
  refine v_imul hC dX7_fruitMark_48 ?_
  refine v_iadd hC dX7_fruitMark_49 ?_
  refine v_iconst hC (nI 2) dX7_fruitMark_50 rfl ?_
  refine v_iadd hC dX7_fruitMark_51 ?_
  obtain ⟨hi8, h⟩ := h
  refine v_iald hC (Nat.le_of_ble_eq_true rfl) rfl rfl hi8 dX7_fruitMark_52 ?_
  refine v_iadd hC dX7_fruitMark_53 ?_
  refine v_istore_nN hC dX7_fruitMark_54 (by decide) (lo2 := fun x3_9 => [(3, .int x3_9), (0, .ref (xad X 82)), (1, .int x1), (2, .int x2)]) (fun _ => rfl) (fun x3_9 e9 => ?_)
  replace h := h x3_9 e9
  refine v_iload_n hC 3 dX7_fruitMark_55 rfl ?_
  refine v_iconst hC (nI 2) dX7_fruitMark_56 rfl ?_
  have J10 : ∀ (v11 : Int32) (ev11 : v11 = (if x2 = (nI 2) then ((nI 2) * x3_9) else (if x2 = (nI 3) then (x3_9 - (nI 1000)) else x3_9))), V X 4 80 [] [.int v11] σ7 := by
    intro v11 ev11
    replace h := h v11 ev11
    exact v_iret hC hR h dX7_fruitMark_80
  refine v_icmp_ne hC 66 dX7_fruitMark_57 (by decide) (fun c10 => ?_) (fun c10 => ?_)
  · refine v_iload_n hC 3 dX7_fruitMark_66 rfl ?_
    refine v_iconst hC (nI 3) dX7_fruitMark_67 rfl ?_
    have J12 : V X 4 80 [] [.int (if x2 = (nI 3) then (x3_9 - (nI 1000)) else x3_9)] σ7 := by
      exact V.sub [] rfl (J10 _ (by rw [if_neg c10]))
    refine v_icmp_ne hC 79 dX7_fruitMark_68 (by decide) (fun c12 => ?_) (fun c12 => ?_)
    · refine v_iload_n hC 0 dX7_fruitMark_79 rfl ?_
      rw [if_neg c12] at J12
      exact V.sub [] rfl J12
    · refine v_iload_n hC 0 dX7_fruitMark_71 rfl ?_
      refine v_sipush hC (nI 1000) dX7_fruitMark_72 rfl ?_
      refine v_isub hC dX7_fruitMark_75 ?_
      refine v_goto hC 80 dX7_fruitMark_76 (by decide) ?_
      rw [if_pos c12] at J12
      exact V.sub [] rfl J12
  · refine v_iconst hC (nI 2) dX7_fruitMark_60 rfl ?_
    refine v_iload_n hC 0 dX7_fruitMark_61 rfl ?_
    refine v_imul hC dX7_fruitMark_62 ?_
    refine v_goto hC 80 dX7_fruitMark_63 (by decide) ?_
    exact V.sub [] rfl (J10 _ (by rw [if_pos c10]))
set_option maxHeartbeats 4000000 in
set_option maxRecDepth 100000 in
theorem kM_fruitMark (x1 : Int32) (σ : gM) (Q : Int32 → gM → Prop) (h : wM_fruitMark x1 σ Q) : CT yX7_fruitMark cX7_fruitMark 4 (some .int) rmM_fruitMark (fun G => [.ref (gad G 82), .int x1]) σ (gPi Q) := by
  refine c_enter (by decide) (fun _ => Nat.le_of_ble_eq_true rfl) (fun X hC hR => ?_)
  show V X 4 0 [(0, .ref (xad X 82)), (1, .int x1)] [] σ
  replace h : wM_kindOf x1 σ (fun (r2 : Int32) (σ2 : gM) => (r2 = (nI 1) → (wM_fruitMark_b27 Q x1 r2 σ2)) ∧ (¬ (r2 = (nI 1)) → (∀ v14 : Int32, v14 = (if r2 = (nI 2) then (nI 24) else (nI 22)) → (wM_leave v14 σ2 (fun (σ16 : gM) => wM_fruitMark_b27 Q x1 r2 σ16))))) := h
  refine v_aload_n hC 0 dX7_fruitMark_0 rfl ?_
  refine v_iload_n hC 1 dX7_fruitMark_1 rfl ?_
  refine v_callV hC (kM_kindOf _ _ _ h) cmM_kindOf ⟨kw1156, kw54⟩ kw1154 ⟨Nat.le_of_ble_eq_true rfl, Nat.le_of_ble_eq_true rfl⟩ (Nat.le_of_ble_eq_true rfl) rfl (ci := 7) (T := TX7) (N := 30) rfl (As := fun G => [.int x1]) (fun _ => rfl) (fun _ => rfl) (st := []) (Nat.le_of_ble_eq_true rfl) rfl dX7_fruitMark_2 (kk_i (fun r2 σ2 h => ?_))
  refine v_istore_n hC dX7_fruitMark_5 (by decide) rfl ?_
  refine v_iload_n hC 0 dX7_fruitMark_6 rfl ?_
  refine v_iconst hC (nI 1) dX7_fruitMark_7 rfl ?_
  refine v_icmp_eq hC 27 dX7_fruitMark_8 (by decide) (fun c3 => ?_) (fun c3 => ?_)
  · replace h := h.1 c3
    exact V.sub [1, 2, 0] rfl (tM_fruitMark_b27 hC hR  _ _ _ h)
  · replace h := h.2 c3
    refine v_aload_n hC 1 dX7_fruitMark_11 rfl ?_
    refine v_iload_n hC 0 dX7_fruitMark_12 rfl ?_
    refine v_iconst hC (nI 2) dX7_fruitMark_13 rfl ?_
    have J13 : ∀ (v14 : Int32) (ev14 : v14 = (if r2 = (nI 2) then (nI 24) else (nI 22))), V X 4 24 [(0, .ref (xad X 82)), (1, .int x1), (2, .int r2)] [.int v14, .ref (xad X 82)] σ2 := by
      intro v14 ev14
      replace h := h v14 ev14
      refine v_callV hC (kM_leave _ _ _ h) cmM_leave ⟨kw1322, kw72⟩ kw1320 ⟨Nat.le_of_ble_eq_true rfl, Nat.le_of_ble_eq_true rfl⟩ (Nat.le_of_ble_eq_true rfl) rfl (ci := 7) (T := TX7) (N := 30) rfl (As := fun G => [.int v14]) (fun _ => rfl) (fun _ => rfl) (st := []) (Nat.le_of_ble_eq_true rfl) rfl dX7_fruitMark_24 (kk_v (fun σ16 h => ?_))
      exact V.sub [0, 1, 2] rfl (tM_fruitMark_b27 hC hR  _ _ _ h)
    refine v_icmp_ne hC 22 dX7_fruitMark_14 (by decide) (fun c13 => ?_) (fun c13 => ?_)
    · refine v_bipush hC (nI 22) dX7_fruitMark_22 rfl ?_
      exact V.sub [1, 2, 0] rfl (J13 _ (by rw [if_neg c13]))
    · refine v_bipush hC (nI 24) dX7_fruitMark_17 rfl ?_
      refine v_goto hC 24 dX7_fruitMark_19 (by decide) ?_
      exact V.sub [1, 2, 0] rfl (J13 _ (by rw [if_pos c13]))
theorem cmM_fruitMark : CM yX7_fruitMark cX7_fruitMark 4 (some .int) rmM_fruitMark 1 := ⟨kw82, kw1327, rfl, rfl, by decide, by decide, by decide +kernel⟩
def rmM_sizeBy : Room := { frames := 2, cells := 0, slots := 0, locals := 44 }
def wM_sizeBy_b103 (Q : Int32 → gM → Prop)  (x1 : Int32) (x2 : Int32) (σ : gM) : Prop :=
    wM_leave (nI 10) σ (fun (σ19 : gM) => vp_in (((nI 22) + ((nI 4) * x1)) + (nI 1)) 102 ∧ (wM_fruitMark x1 σ19 (fun (r22 : Int32) (σ22 : gM) => ∀ x3_23 : Int32, x3_23 = ((σ19 89 (((nI 22) + ((nI 4) * x1)) + (nI 1)).toNatClampNeg) + r22) → (∀ v25 : Int32, v25 = (if x2 = (nI 12) then (-x3_23) else x3_23) → (Q v25 σ22)))))
def wM_sizeBy (x1 : Int32) (x2 : Int32) (σ : gM) (Q : Int32 → gM → Prop) : Prop :=
    wM_leave x2 σ (fun (σ2 : gM) => (x2 = (nI 10) → (vp_in (((nI 22) + ((nI 4) * x1)) + (nI 1)) 102 ∧ (Q (σ2 89 (((nI 22) + ((nI 4) * x1)) + (nI 1)).toNatClampNeg) σ2))) ∧ (¬ (x2 = (nI 10)) → ((x2 = (nI 13) → (wM_leave (nI 10) σ2 (fun (σ7 : gM) => vp_in (((nI 22) + ((nI 4) * x1)) + (nI 1)) 102 ∧ (Q ((σ7 89 (((nI 22) + ((nI 4) * x1)) + (nI 1)).toNatClampNeg) - (nI 100)) σ7)))) ∧ (¬ (x2 = (nI 13)) → ((x2 = (nI 14) → (wM_leave (nI 13) σ2 (fun (σ11 : gM) => wM_leave (nI 10) σ11 (fun (σ13 : gM) => vp_in (((nI 22) + ((nI 4) * x1)) + (nI 1)) 102 ∧ (Q ((nI 2) * ((σ13 89 (((nI 22) + ((nI 4) * x1)) + (nI 1)).toNatClampNeg) - (nI 100))) σ13))))) ∧ (¬ (x2 = (nI 14)) → ((x2 = (nI 12) → (wM_leave (nI 11) σ2 (fun (σ17 : gM) => wM_sizeBy_b103 Q x1 x2 σ17))) ∧ (¬ (x2 = (nI 12)) → (wM_sizeBy_b103 Q x1 x2 σ2)))))))))
set_option maxHeartbeats 4000000 in
set_option maxRecDepth 100000 in
theorem tM_sizeBy_b103 {X : gX} {Q : Int32 → gM → Prop} (hC : VC X cX7_sizeBy RX7 4 rmM_sizeBy) (hR : VR X (some .int) (gPi Q))  (x1 : Int32) (x2 : Int32) (σ : gM) (h : wM_sizeBy_b103 Q  x1 x2 σ) : V X 4 103 [(0, .ref (xad X 82)), (1, .int x1), (2, .int x2)] [] σ := by
  replace h : wM_leave (nI 10) σ (fun (σ19 : gM) => vp_in (((nI 22) + ((nI 4) * x1)) + (nI 1)) 102 ∧ (wM_fruitMark x1 σ19 (fun (r22 : Int32) (σ22 : gM) => ∀ x3_23 : Int32, x3_23 = ((σ19 89 (((nI 22) + ((nI 4) * x1)) + (nI 1)).toNatClampNeg) + r22) → (∀ v25 : Int32, v25 = (if x2 = (nI 12) then (-x3_23) else x3_23) → (Q v25 σ22))))) := h
  refine v_aload_n hC 0 dX7_sizeBy_103 rfl ?_
  refine v_bipush hC (nI 10) dX7_sizeBy_104 rfl ?_
  refine v_callV hC (kM_leave _ _ _ h) cmM_leave ⟨kw1322, kw72⟩ kw1320 ⟨Nat.le_of_ble_eq_true rfl, Nat.le_of_ble_eq_true rfl⟩ (Nat.le_of_ble_eq_true rfl) rfl (ci := 7) (T := TX7) (N := 30) rfl (As := fun G => [.int (nI 10)]) (fun _ => rfl) (fun _ => rfl) (st := []) (Nat.le_of_ble_eq_true rfl) rfl dX7_sizeBy_106 (kk_v (fun σ19 h => ?_))
  refine v_aload_n hC 0 dX7_sizeBy_109 rfl ?_
  refine gf_X7_28 hC dX7_sizeBy_110 ?_
  refine v_bipush hC (nI 22) dX7_sizeBy_113 rfl ?_
  refine v_iconst hC (nI 4) dX7_sizeBy_115 rfl ?_
  refine v_iload_n hC 1 dX7_sizeBy_116 rfl ?_
  refine v_imul hC dX7_sizeBy_117 ?_
  refine v_iadd hC dX7_sizeBy_118 ?_
  refine v_iconst hC (nI 1) dX7_sizeBy_119 rfl ?_
  refine v_iadd hC dX7_sizeBy_120 ?_
  obtain ⟨hi20, h⟩ := h
  refine v_iald hC (Nat.le_of_ble_eq_true rfl) rfl rfl hi20 dX7_sizeBy_121 ?_
  refine v_aload_n hC 0 dX7_sizeBy_122 rfl ?_
  refine v_iload_n hC 1 dX7_sizeBy_123 rfl ?_
  refine v_callV hC (kM_fruitMark _ _ _ h) cmM_fruitMark ⟨kw1326, kw73⟩ kw1324 ⟨Nat.le_of_ble_eq_true rfl, Nat.le_of_ble_eq_true rfl⟩ (Nat.le_of_ble_eq_true rfl) rfl (ci := 7) (T := TX7) (N := 30) rfl (As := fun G => [.int x1]) (fun _ => rfl) (fun _ => rfl) (st := [.int (σ19 89 (((nI 22) + ((nI 4) * x1)) + (nI 1)).toNatClampNeg)]) (Nat.le_of_ble_eq_true rfl) rfl dX7_sizeBy_124 (kk_i (fun r22 σ22 h => ?_))
  refine v_iadd hC dX7_sizeBy_127 ?_
  refine v_istore_nN hC dX7_sizeBy_128 (by decide) (lo2 := fun x3_23 => [(3, .int x3_23), (0, .ref (xad X 82)), (1, .int x1), (2, .int x2)]) (fun _ => rfl) (fun x3_23 e23 => ?_)
  replace h := h x3_23 e23
  refine v_iload_n hC 3 dX7_sizeBy_129 rfl ?_
  refine v_bipush hC (nI 12) dX7_sizeBy_130 rfl ?_
  have J24 : ∀ (v25 : Int32) (ev25 : v25 = (if x2 = (nI 12) then (-x3_23) else x3_23)), V X 4 141 [] [.int v25] σ22 := by
    intro v25 ev25
    replace h := h v25 ev25
    exact v_iret hC hR h dX7_sizeBy_141
  refine v_icmp_ne hC 140 dX7_sizeBy_132 (by decide) (fun c24 => ?_) (fun c24 => ?_)
  · refine v_iload_n hC 0 dX7_sizeBy_140 rfl ?_
    exact V.sub [] rfl (J24 _ (by rw [if_neg c24]))
  · refine v_iload_n hC 0 dX7_sizeBy_135 rfl ?_
    refine v_ineg hC dX7_sizeBy_136 ?_
    refine v_goto hC 141 dX7_sizeBy_137 (by decide) ?_
    exact V.sub [] rfl (J24 _ (by rw [if_pos c24]))
set_option maxHeartbeats 4000000 in
set_option maxRecDepth 100000 in
theorem kM_sizeBy (x1 : Int32) (x2 : Int32) (σ : gM) (Q : Int32 → gM → Prop) (h : wM_sizeBy x1 x2 σ Q) : CT yX7_sizeBy cX7_sizeBy 4 (some .int) rmM_sizeBy (fun G => [.ref (gad G 82), .int x1, .int x2]) σ (gPi Q) := by
  refine c_enter (by decide) (fun _ => Nat.le_of_ble_eq_true rfl) (fun X hC hR => ?_)
  show V X 4 0 [(0, .ref (xad X 82)), (1, .int x1), (2, .int x2)] [] σ
  replace h : wM_leave x2 σ (fun (σ2 : gM) => (x2 = (nI 10) → (vp_in (((nI 22) + ((nI 4) * x1)) + (nI 1)) 102 ∧ (Q (σ2 89 (((nI 22) + ((nI 4) * x1)) + (nI 1)).toNatClampNeg) σ2))) ∧ (¬ (x2 = (nI 10)) → ((x2 = (nI 13) → (wM_leave (nI 10) σ2 (fun (σ7 : gM) => vp_in (((nI 22) + ((nI 4) * x1)) + (nI 1)) 102 ∧ (Q ((σ7 89 (((nI 22) + ((nI 4) * x1)) + (nI 1)).toNatClampNeg) - (nI 100)) σ7)))) ∧ (¬ (x2 = (nI 13)) → ((x2 = (nI 14) → (wM_leave (nI 13) σ2 (fun (σ11 : gM) => wM_leave (nI 10) σ11 (fun (σ13 : gM) => vp_in (((nI 22) + ((nI 4) * x1)) + (nI 1)) 102 ∧ (Q ((nI 2) * ((σ13 89 (((nI 22) + ((nI 4) * x1)) + (nI 1)).toNatClampNeg) - (nI 100))) σ13))))) ∧ (¬ (x2 = (nI 14)) → ((x2 = (nI 12) → (wM_leave (nI 11) σ2 (fun (σ17 : gM) => wM_sizeBy_b103 Q x1 x2 σ17))) ∧ (¬ (x2 = (nI 12)) → (wM_sizeBy_b103 Q x1 x2 σ2))))))))) := h
  refine v_aload_n hC 0 dX7_sizeBy_0 rfl ?_
  refine v_iload_n hC 2 dX7_sizeBy_1 rfl ?_
  refine v_callV hC (kM_leave _ _ _ h) cmM_leave ⟨kw1322, kw72⟩ kw1320 ⟨Nat.le_of_ble_eq_true rfl, Nat.le_of_ble_eq_true rfl⟩ (Nat.le_of_ble_eq_true rfl) rfl (ci := 7) (T := TX7) (N := 30) rfl (As := fun G => [.int x2]) (fun _ => rfl) (fun _ => rfl) (st := []) (Nat.le_of_ble_eq_true rfl) rfl dX7_sizeBy_2 (kk_v (fun σ2 h => ?_))
  refine v_iload_n hC 2 dX7_sizeBy_5 rfl ?_
  refine v_bipush hC (nI 10) dX7_sizeBy_6 rfl ?_
  refine v_icmp_ne hC 25 dX7_sizeBy_8 (by decide) (fun c3 => ?_) (fun c3 => ?_)
  · replace h := h.2 c3
    refine v_iload_n hC 2 dX7_sizeBy_25 rfl ?_
    refine v_bipush hC (nI 13) dX7_sizeBy_26 rfl ?_
    refine v_icmp_ne hC 54 dX7_sizeBy_28 (by decide) (fun c5 => ?_) (fun c5 => ?_)
    · replace h := h.2 c5
      refine v_iload_n hC 2 dX7_sizeBy_54 rfl ?_
      refine v_bipush hC (nI 14) dX7_sizeBy_55 rfl ?_
      refine v_icmp_ne hC 91 dX7_sizeBy_57 (by decide) (fun c9 => ?_) (fun c9 => ?_)
      · replace h := h.2 c9
        refine v_iload_n hC 2 dX7_sizeBy_91 rfl ?_
        refine v_bipush hC (nI 12) dX7_sizeBy_92 rfl ?_
        refine v_icmp_ne hC 103 dX7_sizeBy_94 (by decide) (fun c15 => ?_) (fun c15 => ?_)
        · replace h := h.2 c15
          exact V.sub [0, 1, 2] rfl (tM_sizeBy_b103 hC hR  _ _ _ h)
        · replace h := h.1 c15
          refine v_aload_n hC 0 dX7_sizeBy_97 rfl ?_
          refine v_bipush hC (nI 11) dX7_sizeBy_98 rfl ?_
          refine v_callV hC (kM_leave _ _ _ h) cmM_leave ⟨kw1322, kw72⟩ kw1320 ⟨Nat.le_of_ble_eq_true rfl, Nat.le_of_ble_eq_true rfl⟩ (Nat.le_of_ble_eq_true rfl) rfl (ci := 7) (T := TX7) (N := 30) rfl (As := fun G => [.int (nI 11)]) (fun _ => rfl) (fun _ => rfl) (st := []) (Nat.le_of_ble_eq_true rfl) rfl dX7_sizeBy_100 (kk_v (fun σ17 h => ?_))
          exact V.sub [0, 1, 2] rfl (tM_sizeBy_b103 hC hR  _ _ _ h)
      · replace h := h.1 c9
        refine v_aload_n hC 0 dX7_sizeBy_60 rfl ?_
        refine v_bipush hC (nI 13) dX7_sizeBy_61 rfl ?_
        refine v_callV hC (kM_leave _ _ _ h) cmM_leave ⟨kw1322, kw72⟩ kw1320 ⟨Nat.le_of_ble_eq_true rfl, Nat.le_of_ble_eq_true rfl⟩ (Nat.le_of_ble_eq_true rfl) rfl (ci := 7) (T := TX7) (N := 30) rfl (As := fun G => [.int (nI 13)]) (fun _ => rfl) (fun _ => rfl) (st := []) (Nat.le_of_ble_eq_true rfl) rfl dX7_sizeBy_63 (kk_v (fun σ11 h => ?_))
        refine v_aload_n hC 0 dX7_sizeBy_66 rfl ?_
        refine v_bipush hC (nI 10) dX7_sizeBy_67 rfl ?_
        refine v_callV hC (kM_leave _ _ _ h) cmM_leave ⟨kw1322, kw72⟩ kw1320 ⟨Nat.le_of_ble_eq_true rfl, Nat.le_of_ble_eq_true rfl⟩ (Nat.le_of_ble_eq_true rfl) rfl (ci := 7) (T := TX7) (N := 30) rfl (As := fun G => [.int (nI 10)]) (fun _ => rfl) (fun _ => rfl) (st := []) (Nat.le_of_ble_eq_true rfl) rfl dX7_sizeBy_69 (kk_v (fun σ13 h => ?_))
        refine v_iconst hC (nI 2) dX7_sizeBy_72 rfl ?_
        refine v_aload_n hC 0 dX7_sizeBy_73 rfl ?_
        refine gf_X7_28 hC dX7_sizeBy_74 ?_
        refine v_bipush hC (nI 22) dX7_sizeBy_77 rfl ?_
        refine v_iconst hC (nI 4) dX7_sizeBy_79 rfl ?_
        refine v_iload_n hC 1 dX7_sizeBy_80 rfl ?_
        refine v_imul hC dX7_sizeBy_81 ?_
        refine v_iadd hC dX7_sizeBy_82 ?_
        refine v_iconst hC (nI 1) dX7_sizeBy_83 rfl ?_
        refine v_iadd hC dX7_sizeBy_84 ?_
        obtain ⟨hi14, h⟩ := h
        refine v_iald hC (Nat.le_of_ble_eq_true rfl) rfl rfl hi14 dX7_sizeBy_85 ?_
        refine v_bipush hC (nI 100) dX7_sizeBy_86 rfl ?_
        refine v_isub hC dX7_sizeBy_88 ?_
        refine v_imul hC dX7_sizeBy_89 ?_
        exact v_iret hC hR h dX7_sizeBy_90
    · replace h := h.1 c5
      refine v_aload_n hC 0 dX7_sizeBy_31 rfl ?_
      refine v_bipush hC (nI 10) dX7_sizeBy_32 rfl ?_
      refine v_callV hC (kM_leave _ _ _ h) cmM_leave ⟨kw1322, kw72⟩ kw1320 ⟨Nat.le_of_ble_eq_true rfl, Nat.le_of_ble_eq_true rfl⟩ (Nat.le_of_ble_eq_true rfl) rfl (ci := 7) (T := TX7) (N := 30) rfl (As := fun G => [.int (nI 10)]) (fun _ => rfl) (fun _ => rfl) (st := []) (Nat.le_of_ble_eq_true rfl) rfl dX7_sizeBy_34 (kk_v (fun σ7 h => ?_))
      refine v_aload_n hC 0 dX7_sizeBy_37 rfl ?_
      refine gf_X7_28 hC dX7_sizeBy_38 ?_
      refine v_bipush hC (nI 22) dX7_sizeBy_41 rfl ?_
      refine v_iconst hC (nI 4) dX7_sizeBy_43 rfl ?_
      refine v_iload_n hC 1 dX7_sizeBy_44 rfl ?_
      refine v_imul hC dX7_sizeBy_45 ?_
      refine v_iadd hC dX7_sizeBy_46 ?_
      refine v_iconst hC (nI 1) dX7_sizeBy_47 rfl ?_
      refine v_iadd hC dX7_sizeBy_48 ?_
      obtain ⟨hi8, h⟩ := h
      refine v_iald hC (Nat.le_of_ble_eq_true rfl) rfl rfl hi8 dX7_sizeBy_49 ?_
      refine v_bipush hC (nI 100) dX7_sizeBy_50 rfl ?_
      refine v_isub hC dX7_sizeBy_52 ?_
      exact v_iret hC hR h dX7_sizeBy_53
  · replace h := h.1 c3
    refine v_aload_n hC 0 dX7_sizeBy_11 rfl ?_
    refine gf_X7_28 hC dX7_sizeBy_12 ?_
    refine v_bipush hC (nI 22) dX7_sizeBy_15 rfl ?_
    refine v_iconst hC (nI 4) dX7_sizeBy_17 rfl ?_
    refine v_iload_n hC 1 dX7_sizeBy_18 rfl ?_
    refine v_imul hC dX7_sizeBy_19 ?_
    refine v_iadd hC dX7_sizeBy_20 ?_
    refine v_iconst hC (nI 1) dX7_sizeBy_21 rfl ?_
    refine v_iadd hC dX7_sizeBy_22 ?_
    obtain ⟨hi4, h⟩ := h
    refine v_iald hC (Nat.le_of_ble_eq_true rfl) rfl rfl hi4 dX7_sizeBy_23 ?_
    exact v_iret hC hR h dX7_sizeBy_24
theorem cmM_sizeBy : CM yX7_sizeBy cX7_sizeBy 4 (some .int) rmM_sizeBy 2 := ⟨kw82, kw1319, rfl, rfl, by decide, by decide, by decide +kernel⟩
def rmM_sizeOf : Room := { frames := 3, cells := 0, slots := 0, locals := 67 }
def wM_sizeOf (x1 : Int32) (σ : gM) (Q : Int32 → gM → Prop) : Prop :=
    wM_kindOf x1 σ (fun (r2 : Int32) (σ2 : gM) => ∀ v4 : Int32, v4 = (if r2 = (nI 2) then (nI 12) else (if r2 = (nI 4) then (nI 13) else (if r2 = (nI 5) then (nI 14) else (nI 11)))) → (wM_sizeBy x1 v4 σ2 (fun (r6 : Int32) (σ6 : gM) => Q r6 σ6)))
set_option maxHeartbeats 4000000 in
set_option maxRecDepth 100000 in
theorem kM_sizeOf (x1 : Int32) (σ : gM) (Q : Int32 → gM → Prop) (h : wM_sizeOf x1 σ Q) : CT yX7_sizeOf cX7_sizeOf 3 (some .int) rmM_sizeOf (fun G => [.ref (gad G 82), .int x1]) σ (gPi Q) := by
  refine c_enter (by decide) (fun _ => Nat.le_of_ble_eq_true rfl) (fun X hC hR => ?_)
  show V X 3 0 [(0, .ref (xad X 82)), (1, .int x1)] [] σ
  replace h : wM_kindOf x1 σ (fun (r2 : Int32) (σ2 : gM) => ∀ v4 : Int32, v4 = (if r2 = (nI 2) then (nI 12) else (if r2 = (nI 4) then (nI 13) else (if r2 = (nI 5) then (nI 14) else (nI 11)))) → (wM_sizeBy x1 v4 σ2 (fun (r6 : Int32) (σ6 : gM) => Q r6 σ6))) := h
  refine v_aload_n hC 0 dX7_sizeOf_0 rfl ?_
  refine v_iload_n hC 1 dX7_sizeOf_1 rfl ?_
  refine v_callV hC (kM_kindOf _ _ _ h) cmM_kindOf ⟨kw1156, kw54⟩ kw1154 ⟨Nat.le_of_ble_eq_true rfl, Nat.le_of_ble_eq_true rfl⟩ (Nat.le_of_ble_eq_true rfl) rfl (ci := 7) (T := TX7) (N := 30) rfl (As := fun G => [.int x1]) (fun _ => rfl) (fun _ => rfl) (st := []) (Nat.le_of_ble_eq_true rfl) rfl dX7_sizeOf_2 (kk_i (fun r2 σ2 h => ?_))
  refine v_istore_n hC dX7_sizeOf_5 (by decide) rfl ?_
  refine v_aload_n hC 1 dX7_sizeOf_6 rfl ?_
  refine v_iload_n hC 2 dX7_sizeOf_7 rfl ?_
  refine v_iload_n hC 0 dX7_sizeOf_8 rfl ?_
  refine v_iconst hC (nI 2) dX7_sizeOf_9 rfl ?_
  have J3 : ∀ (v4 : Int32) (ev4 : v4 = (if r2 = (nI 2) then (nI 12) else (if r2 = (nI 4) then (nI 13) else (if r2 = (nI 5) then (nI 14) else (nI 11))))), V X 3 40 [] [.int v4, .int x1, .ref (xad X 82)] σ2 := by
    intro v4 ev4
    replace h := h v4 ev4
    refine v_callV hC (kM_sizeBy _ _ _ _ h) cmM_sizeBy ⟨kw1318, kw71⟩ kw1316 ⟨Nat.le_of_ble_eq_true rfl, Nat.le_of_ble_eq_true rfl⟩ (Nat.le_of_ble_eq_true rfl) rfl (ci := 7) (T := TX7) (N := 30) rfl (As := fun G => [.int x1, .int v4]) (fun _ => rfl) (fun _ => rfl) (st := []) (Nat.le_of_ble_eq_true rfl) rfl dX7_sizeOf_40 (kk_i (fun r6 σ6 h => ?_))
    exact v_iret hC hR h dX7_sizeOf_43
  refine v_icmp_ne hC 18 dX7_sizeOf_10 (by decide) (fun c3 => ?_) (fun c3 => ?_)
  · refine v_iload_n hC 0 dX7_sizeOf_18 rfl ?_
    refine v_iconst hC (nI 4) dX7_sizeOf_19 rfl ?_
    have J7 : V X 3 40 [] [.int (if r2 = (nI 4) then (nI 13) else (if r2 = (nI 5) then (nI 14) else (nI 11))), .int x1, .ref (xad X 82)] σ2 := by
      exact V.sub [] rfl (J3 _ (by rw [if_neg c3]))
    refine v_icmp_ne hC 28 dX7_sizeOf_20 (by decide) (fun c7 => ?_) (fun c7 => ?_)
    · refine v_iload_n hC 0 dX7_sizeOf_28 rfl ?_
      refine v_iconst hC (nI 5) dX7_sizeOf_29 rfl ?_
      have J8 : V X 3 40 [] [.int (if r2 = (nI 5) then (nI 14) else (nI 11)), .int x1, .ref (xad X 82)] σ2 := by
        rw [if_neg c7] at J7
        exact V.sub [] rfl J7
      refine v_icmp_ne hC 38 dX7_sizeOf_30 (by decide) (fun c8 => ?_) (fun c8 => ?_)
      · refine v_bipush hC (nI 11) dX7_sizeOf_38 rfl ?_
        rw [if_neg c8] at J8
        exact V.sub [] rfl J8
      · refine v_bipush hC (nI 14) dX7_sizeOf_33 rfl ?_
        refine v_goto hC 40 dX7_sizeOf_35 (by decide) ?_
        rw [if_pos c8] at J8
        exact V.sub [] rfl J8
    · refine v_bipush hC (nI 13) dX7_sizeOf_23 rfl ?_
      refine v_goto hC 40 dX7_sizeOf_25 (by decide) ?_
      rw [if_pos c7] at J7
      exact V.sub [] rfl J7
  · refine v_bipush hC (nI 12) dX7_sizeOf_13 rfl ?_
    refine v_goto hC 40 dX7_sizeOf_15 (by decide) ?_
    exact V.sub [] rfl (J3 _ (by rw [if_pos c3]))
theorem cmM_sizeOf : CM yX7_sizeOf cX7_sizeOf 3 (some .int) rmM_sizeOf 1 := ⟨kw82, kw1315, rfl, rfl, by decide, by decide, by decide +kernel⟩
def rmM_ask : Room := { frames := 4, cells := 0, slots := 0, locals := 89 }
def wM_ask (x1 : Int32) (x2 : Int32) (σ : gM) (Q : Int32 → gM → Prop) : Prop :=
    wM_isWareAt x1 σ (fun (r2 : Int32) (σ2 : gM) => (r2 = nI 0 → (Q (-1000001 : Int32) σ2)) ∧ (¬ (r2 = nI 0) → (wM_in x2 (nI 0) (nI 1) σ2 (fun (r5 : Int32) (σ5 : gM) => (r5 = nI 0 → (Q (-1000001 : Int32) σ5)) ∧ (¬ (r5 = nI 0) → (∀ σ7 : gM, σ7 = gU σ5 82 22 (nI 0) → ((x2 = nI 0 → (wM_sizeOf x1 σ7 (fun (r10 : Int32) (σ10 : gM) => Q r10 σ10))) ∧ (¬ (x2 = nI 0) → (wM_kindOf x1 σ7 (fun (r12 : Int32) (σ12 : gM) => ((nI 4) ≤ r12 → (wM_leave (nI 23) σ12 (fun (σ15 : gM) => wM_leave (nI 20) σ15 (fun (σ17 : gM) => wM_sizeOf x1 σ17 (fun (r19 : Int32) (σ19 : gM) => Q (x1 - r19) σ19))))) ∧ (¬ ((nI 4) ≤ r12) → (wM_fruitMark x1 σ12 (fun (r21 : Int32) (σ21 : gM) => Q r21 σ21)))))))))))))
set_option maxHeartbeats 4000000 in
set_option maxRecDepth 100000 in
theorem kM_ask (x1 : Int32) (x2 : Int32) (σ : gM) (Q : Int32 → gM → Prop) (h : wM_ask x1 x2 σ Q) : CT yX7_ask cX7_ask 3 (some .int) rmM_ask (fun G => [.ref (gad G 82), .int x1, .int x2]) σ (gPi Q) := by
  refine c_enter (by decide) (fun _ => Nat.le_of_ble_eq_true rfl) (fun X hC hR => ?_)
  show V X 3 0 [(0, .ref (xad X 82)), (1, .int x1), (2, .int x2)] [] σ
  replace h : wM_isWareAt x1 σ (fun (r2 : Int32) (σ2 : gM) => (r2 = nI 0 → (Q (-1000001 : Int32) σ2)) ∧ (¬ (r2 = nI 0) → (wM_in x2 (nI 0) (nI 1) σ2 (fun (r5 : Int32) (σ5 : gM) => (r5 = nI 0 → (Q (-1000001 : Int32) σ5)) ∧ (¬ (r5 = nI 0) → (∀ σ7 : gM, σ7 = gU σ5 82 22 (nI 0) → ((x2 = nI 0 → (wM_sizeOf x1 σ7 (fun (r10 : Int32) (σ10 : gM) => Q r10 σ10))) ∧ (¬ (x2 = nI 0) → (wM_kindOf x1 σ7 (fun (r12 : Int32) (σ12 : gM) => ((nI 4) ≤ r12 → (wM_leave (nI 23) σ12 (fun (σ15 : gM) => wM_leave (nI 20) σ15 (fun (σ17 : gM) => wM_sizeOf x1 σ17 (fun (r19 : Int32) (σ19 : gM) => Q (x1 - r19) σ19))))) ∧ (¬ ((nI 4) ≤ r12) → (wM_fruitMark x1 σ12 (fun (r21 : Int32) (σ21 : gM) => Q r21 σ21))))))))))))) := h
  refine v_aload_n hC 0 dX7_ask_0 rfl ?_
  refine v_iload_n hC 1 dX7_ask_1 rfl ?_
  refine v_callV hC (kM_isWareAt _ _ _ h) cmM_isWareAt ⟨kw1203, kw61⟩ kw1201 ⟨Nat.le_of_ble_eq_true rfl, Nat.le_of_ble_eq_true rfl⟩ (Nat.le_of_ble_eq_true rfl) rfl (ci := 7) (T := TX7) (N := 30) rfl (As := fun G => [.int x1]) (fun _ => rfl) (fun _ => rfl) (st := []) (Nat.le_of_ble_eq_true rfl) rfl dX7_ask_2 (kk_i (fun r2 σ2 h => ?_))
  refine v_if_eq hC 17 dX7_ask_5 (by decide) (fun c3 => ?_) (fun c3 => ?_)
  · replace h := h.1 c3
    refine v_ldc hC kw1053 dX7_ask_17 ?_
    exact v_iret hC hR h dX7_ask_19
  · replace h := h.2 c3
    refine v_iload_n hC 2 dX7_ask_8 rfl ?_
    refine v_iconst hC (nI 0) dX7_ask_9 rfl ?_
    refine v_iconst hC (nI 1) dX7_ask_10 rfl ?_
    refine v_callS hC (kM_in _ _ _ _ _ h) cmM_in kw1051 kw1050 ⟨Nat.le_of_ble_eq_true rfl, Nat.le_of_ble_eq_true rfl⟩ (fun _ => rfl) (st := []) (Nat.le_of_ble_eq_true rfl) rfl dX7_ask_11 (kk_i (fun r5 σ5 h => ?_))
    refine v_if_ne hC 20 dX7_ask_14 (by decide) (fun c6 => ?_) (fun c6 => ?_)
    · replace h := h.2 c6
      refine v_aload_n hC 0 dX7_ask_20 rfl ?_
      refine v_iconst hC (nI 0) dX7_ask_21 rfl ?_
      refine pf_X7_247 hC dX7_ask_22 (fun σ7 e7 => ?_)
      replace h := h σ7 e7
      refine v_iload_n hC 2 dX7_ask_25 rfl ?_
      refine v_if_ne hC 35 dX7_ask_26 (by decide) (fun c8 => ?_) (fun c8 => ?_)
      · replace h := h.2 c8
        refine v_aload_n hC 0 dX7_ask_35 rfl ?_
        refine v_iload_n hC 1 dX7_ask_36 rfl ?_
        refine v_callV hC (kM_kindOf _ _ _ h) cmM_kindOf ⟨kw1156, kw54⟩ kw1154 ⟨Nat.le_of_ble_eq_true rfl, Nat.le_of_ble_eq_true rfl⟩ (Nat.le_of_ble_eq_true rfl) rfl (ci := 7) (T := TX7) (N := 30) rfl (As := fun G => [.int x1]) (fun _ => rfl) (fun _ => rfl) (st := []) (Nat.le_of_ble_eq_true rfl) rfl dX7_ask_37 (kk_i (fun r12 σ12 h => ?_))
        refine v_iconst hC (nI 4) dX7_ask_40 rfl ?_
        refine v_icmp_ge hC 50 dX7_ask_41 (by decide) (fun c13 => ?_) (fun c13 => ?_)
        · replace h := h.1 c13
          refine v_aload_n hC 0 dX7_ask_50 rfl ?_
          refine v_bipush hC (nI 23) dX7_ask_51 rfl ?_
          refine v_callV hC (kM_leave _ _ _ h) cmM_leave ⟨kw1322, kw72⟩ kw1320 ⟨Nat.le_of_ble_eq_true rfl, Nat.le_of_ble_eq_true rfl⟩ (Nat.le_of_ble_eq_true rfl) rfl (ci := 7) (T := TX7) (N := 30) rfl (As := fun G => [.int (nI 23)]) (fun _ => rfl) (fun _ => rfl) (st := []) (Nat.le_of_ble_eq_true rfl) rfl dX7_ask_53 (kk_v (fun σ15 h => ?_))
          refine v_aload_n hC 0 dX7_ask_56 rfl ?_
          refine v_bipush hC (nI 20) dX7_ask_57 rfl ?_
          refine v_callV hC (kM_leave _ _ _ h) cmM_leave ⟨kw1322, kw72⟩ kw1320 ⟨Nat.le_of_ble_eq_true rfl, Nat.le_of_ble_eq_true rfl⟩ (Nat.le_of_ble_eq_true rfl) rfl (ci := 7) (T := TX7) (N := 30) rfl (As := fun G => [.int (nI 20)]) (fun _ => rfl) (fun _ => rfl) (st := []) (Nat.le_of_ble_eq_true rfl) rfl dX7_ask_59 (kk_v (fun σ17 h => ?_))
          refine v_iload_n hC 1 dX7_ask_62 rfl ?_
          refine v_aload_n hC 0 dX7_ask_63 rfl ?_
          refine v_iload_n hC 1 dX7_ask_64 rfl ?_
          refine v_callV hC (kM_sizeOf _ _ _ h) cmM_sizeOf ⟨kw1314, kw70⟩ kw1312 ⟨Nat.le_of_ble_eq_true rfl, Nat.le_of_ble_eq_true rfl⟩ (Nat.le_of_ble_eq_true rfl) rfl (ci := 7) (T := TX7) (N := 30) rfl (As := fun G => [.int x1]) (fun _ => rfl) (fun _ => rfl) (st := [.int x1]) (Nat.le_of_ble_eq_true rfl) rfl dX7_ask_65 (kk_i (fun r19 σ19 h => ?_))
          refine v_isub hC dX7_ask_68 ?_
          exact v_iret hC hR h dX7_ask_69
        · replace h := h.2 c13
          refine v_aload_n hC 0 dX7_ask_44 rfl ?_
          refine v_iload_n hC 1 dX7_ask_45 rfl ?_
          refine v_callV hC (kM_fruitMark _ _ _ h) cmM_fruitMark ⟨kw1326, kw73⟩ kw1324 ⟨Nat.le_of_ble_eq_true rfl, Nat.le_of_ble_eq_true rfl⟩ (Nat.le_of_ble_eq_true rfl) rfl (ci := 7) (T := TX7) (N := 30) rfl (As := fun G => [.int x1]) (fun _ => rfl) (fun _ => rfl) (st := []) (Nat.le_of_ble_eq_true rfl) rfl dX7_ask_46 (kk_i (fun r21 σ21 h => ?_))
          exact v_iret hC hR h dX7_ask_49
      · replace h := h.1 c8
        refine v_aload_n hC 0 dX7_ask_29 rfl ?_
        refine v_iload_n hC 1 dX7_ask_30 rfl ?_
        refine v_callV hC (kM_sizeOf _ _ _ h) cmM_sizeOf ⟨kw1314, kw70⟩ kw1312 ⟨Nat.le_of_ble_eq_true rfl, Nat.le_of_ble_eq_true rfl⟩ (Nat.le_of_ble_eq_true rfl) rfl (ci := 7) (T := TX7) (N := 30) rfl (As := fun G => [.int x1]) (fun _ => rfl) (fun _ => rfl) (st := []) (Nat.le_of_ble_eq_true rfl) rfl dX7_ask_31 (kk_i (fun r10 σ10 h => ?_))
        exact v_iret hC hR h dX7_ask_34
    · replace h := h.1 c6
      refine v_ldc hC kw1053 dX7_ask_17 ?_
      exact v_iret hC hR h dX7_ask_19
theorem cmM_ask : CM yX7_ask cX7_ask 3 (some .int) rmM_ask 2 := ⟨kw82, kw1311, rfl, rfl, by decide, by decide, by decide +kernel⟩
def rmM_trace : Room := { frames := 1, cells := 0, slots := 0, locals := 22 }
def wM_trace (x1 : Int32) (σ : gM) (Q : Int32 → gM → Prop) : Prop :=
    wM_in x1 (nI 0) ((σ 82 22) - (nI 1)) σ (fun (r2 : Int32) (σ2 : gM) => ((r2 = nI 0 → (True)) ∧ (¬ (r2 = nI 0) → (vp_in x1 16 ∧ True))) ∧ (∀ v5 : Int32, v5 = (if r2 = nI 0 then (-1000000 : Int32) else (σ2 93 x1.toNatClampNeg)) → (Q v5 σ2)))
set_option maxHeartbeats 4000000 in
set_option maxRecDepth 100000 in
theorem kM_trace (x1 : Int32) (σ : gM) (Q : Int32 → gM → Prop) (h : wM_trace x1 σ Q) : CT yX7_trace cX7_trace 2 (some .int) rmM_trace (fun G => [.ref (gad G 82), .int x1]) σ (gPi Q) := by
  refine c_enter (by decide) (fun _ => Nat.le_of_ble_eq_true rfl) (fun X hC hR => ?_)
  show V X 2 0 [(0, .ref (xad X 82)), (1, .int x1)] [] σ
  replace h : wM_in x1 (nI 0) ((σ 82 22) - (nI 1)) σ (fun (r2 : Int32) (σ2 : gM) => ((r2 = nI 0 → (True)) ∧ (¬ (r2 = nI 0) → (vp_in x1 16 ∧ True))) ∧ (∀ v5 : Int32, v5 = (if r2 = nI 0 then (-1000000 : Int32) else (σ2 93 x1.toNatClampNeg)) → (Q v5 σ2))) := h
  refine v_iload_n hC 1 dX7_trace_0 rfl ?_
  refine v_iconst hC (nI 0) dX7_trace_1 rfl ?_
  refine v_aload_n hC 0 dX7_trace_2 rfl ?_
  refine gf_X7_247 hC dX7_trace_3 ?_
  refine v_iconst hC (nI 1) dX7_trace_6 rfl ?_
  refine v_isub hC dX7_trace_7 ?_
  refine v_callS hC (kM_in _ _ _ _ _ h) cmM_in kw1051 kw1050 ⟨Nat.le_of_ble_eq_true rfl, Nat.le_of_ble_eq_true rfl⟩ (fun _ => rfl) (st := []) (Nat.le_of_ble_eq_true rfl) rfl dX7_trace_8 (kk_i (fun r2 σ2 h => ?_))
  obtain ⟨hO3, h⟩ := h
  have J3 : ∀ (v5 : Int32) (ev5 : v5 = (if r2 = nI 0 then (-1000000 : Int32) else (σ2 93 x1.toNatClampNeg))), V X 2 25 [] [.int v5] σ2 := by
    intro v5 ev5
    replace h := h v5 ev5
    exact v_iret hC hR h dX7_trace_25
  refine v_if_eq hC 23 dX7_trace_11 (by decide) (fun c3 => ?_) (fun c3 => ?_)
  · replace h := hO3.1 c3
    refine v_ldc hC kw1132 dX7_trace_23 ?_
    exact V.sub [] rfl (J3 _ (by rw [if_pos c3]))
  · replace h := hO3.2 c3
    refine v_aload_n hC 0 dX7_trace_14 rfl ?_
    refine gf_X7_41 hC dX7_trace_15 ?_
    refine v_iload_n hC 1 dX7_trace_18 rfl ?_
    obtain ⟨hi6, h⟩ := h
    refine v_iald hC (Nat.le_of_ble_eq_true rfl) rfl rfl hi6 dX7_trace_19 ?_
    refine v_goto hC 25 dX7_trace_20 (by decide) ?_
    exact V.sub [] rfl (J3 _ (by rw [if_neg c3]))
theorem cmM_trace : CM yX7_trace cX7_trace 2 (some .int) rmM_trace 1 := ⟨kw82, kw1331, rfl, rfl, by decide, by decide, by decide +kernel⟩
def rmM_count : Room := { frames := 1, cells := 0, slots := 0, locals := 21 }
def wM_count_l4 (Q : Int32 → gM → Prop)  : Nat → Int32 → Int32 → Int32 → gM → Prop
  | 0, _, _, _, _ => False
  | n + 1, x1, x2, x3, σ =>
    ((nI 8) ≤ x3 → ((x1 = (nI 0) → (Q x2 σ)) ∧ (x1 = (nI 1) → (Q (σ 89 2) σ)) ∧ (x1 = (nI 2) → (Q (σ 89 3) σ)) ∧ (x1 = (nI 3) → (Q (σ 89 5) σ)) ∧ (x1 = (nI 4) → (Q (σ 89 4) σ)) ∧ (x1 = (nI 5) → (Q (σ 82 20) σ)) ∧ (x1 = (nI 6) → (Q (σ 82 4) σ)) ∧ ((¬ x1 = (nI 0) ∧ ¬ x1 = (nI 1) ∧ ¬ x1 = (nI 2) ∧ ¬ x1 = (nI 3) ∧ ¬ x1 = (nI 4) ∧ ¬ x1 = (nI 5) ∧ ¬ x1 = (nI 6)) → (Q (-1000001 : Int32) σ)))) ∧ (¬ ((nI 8) ≤ x3) → (wM_isNull x3 σ (fun (r8 : Int32) (σ8 : gM) => ∀ v10 : Int32, v10 = (if r8 = nI 0 then (nI 1) else (nI 0)) → (∀ x2_11 : Int32, x2_11 = (x2 + v10) → (∀ x3_12 : Int32, x3_12 = x3 + (nI 1) → (wM_count_l4 Q n x1 x2_11 x3_12 σ8))))))
def wM_count (x1 : Int32) (σ : gM) (Q : Int32 → gM → Prop) : Prop :=
    ∃ n13 : Nat, wM_count_l4 Q n13 x1 (nI 0) (nI 0) σ
set_option maxHeartbeats 4000000 in
set_option maxRecDepth 100000 in
theorem tM_count_l4 {X : gX} {Q : Int32 → gM → Prop} (hC : VC X cX7_count RX7 4 rmM_count) (hR : VR X (some .int) (gPi Q))  : ∀ (n : Nat) (x1 : Int32) (x2 : Int32) (x3 : Int32) (σ : gM), wM_count_l4 Q  n x1 x2 x3 σ → V X 4 4 [(0, .ref (xad X 82)), (1, .int x1), (2, .int x2), (3, .int x3)] [] σ := by
  intro n
  induction n with
  | zero => intro x1 x2 x3 σ h; exact h.elim
  | succ n ih =>
    intro x1 x2 x3 σ h
    replace h : ((nI 8) ≤ x3 → ((x1 = (nI 0) → (Q x2 σ)) ∧ (x1 = (nI 1) → (Q (σ 89 2) σ)) ∧ (x1 = (nI 2) → (Q (σ 89 3) σ)) ∧ (x1 = (nI 3) → (Q (σ 89 5) σ)) ∧ (x1 = (nI 4) → (Q (σ 89 4) σ)) ∧ (x1 = (nI 5) → (Q (σ 82 20) σ)) ∧ (x1 = (nI 6) → (Q (σ 82 4) σ)) ∧ ((¬ x1 = (nI 0) ∧ ¬ x1 = (nI 1) ∧ ¬ x1 = (nI 2) ∧ ¬ x1 = (nI 3) ∧ ¬ x1 = (nI 4) ∧ ¬ x1 = (nI 5) ∧ ¬ x1 = (nI 6)) → (Q (-1000001 : Int32) σ)))) ∧ (¬ ((nI 8) ≤ x3) → (wM_isNull x3 σ (fun (r8 : Int32) (σ8 : gM) => ∀ v10 : Int32, v10 = (if r8 = nI 0 then (nI 1) else (nI 0)) → (∀ x2_11 : Int32, x2_11 = (x2 + v10) → (∀ x3_12 : Int32, x3_12 = x3 + (nI 1) → (wM_count_l4 Q n x1 x2_11 x3_12 σ8)))))) := h
    refine v_iload_n hC 3 dX7_count_4 rfl ?_
    refine v_bipush hC (nI 8) dX7_count_5 rfl ?_
    refine v_icmp_ge hC 32 dX7_count_7 (by decide) (fun c1 => ?_) (fun c1 => ?_)
    · replace h := h.1 c1
      refine v_iload_n hC 1 dX7_count_32 rfl ?_
      by_cases q2_0 : x1 = (nI 0)
      · replace h := h.1 q2_0
        refine v_tableIn hC (nI 0) 76 dX7_count_33 q2_0 (by decide) (by decide) rfl (by decide) ?_
        refine v_iload_n hC 2 dX7_count_76 rfl ?_
        exact v_iret hC hR h dX7_count_77
      · by_cases q2_1 : x1 = (nI 1)
        · replace h := h.2.1 q2_1
          refine v_tableIn hC (nI 1) 78 dX7_count_33 q2_1 (by decide) (by decide) rfl (by decide) ?_
          refine v_aload_n hC 0 dX7_count_78 rfl ?_
          refine gf_X7_28 hC dX7_count_79 ?_
          refine v_iconst hC (nI 2) dX7_count_82 rfl ?_
          refine v_iald hC (Nat.le_of_ble_eq_true rfl) rfl (j := 2) (by decide) (by unfold vp_in; decide) dX7_count_83 ?_
          exact v_iret hC hR h dX7_count_84
        · by_cases q2_2 : x1 = (nI 2)
          · replace h := h.2.2.1 q2_2
            refine v_tableIn hC (nI 2) 85 dX7_count_33 q2_2 (by decide) (by decide) rfl (by decide) ?_
            refine v_aload_n hC 0 dX7_count_85 rfl ?_
            refine gf_X7_28 hC dX7_count_86 ?_
            refine v_iconst hC (nI 3) dX7_count_89 rfl ?_
            refine v_iald hC (Nat.le_of_ble_eq_true rfl) rfl (j := 3) (by decide) (by unfold vp_in; decide) dX7_count_90 ?_
            exact v_iret hC hR h dX7_count_91
          · by_cases q2_3 : x1 = (nI 3)
            · replace h := h.2.2.2.1 q2_3
              refine v_tableIn hC (nI 3) 92 dX7_count_33 q2_3 (by decide) (by decide) rfl (by decide) ?_
              refine v_aload_n hC 0 dX7_count_92 rfl ?_
              refine gf_X7_28 hC dX7_count_93 ?_
              refine v_iconst hC (nI 5) dX7_count_96 rfl ?_
              refine v_iald hC (Nat.le_of_ble_eq_true rfl) rfl (j := 5) (by decide) (by unfold vp_in; decide) dX7_count_97 ?_
              exact v_iret hC hR h dX7_count_98
            · by_cases q2_4 : x1 = (nI 4)
              · replace h := h.2.2.2.2.1 q2_4
                refine v_tableIn hC (nI 4) 99 dX7_count_33 q2_4 (by decide) (by decide) rfl (by decide) ?_
                refine v_aload_n hC 0 dX7_count_99 rfl ?_
                refine gf_X7_28 hC dX7_count_100 ?_
                refine v_iconst hC (nI 4) dX7_count_103 rfl ?_
                refine v_iald hC (Nat.le_of_ble_eq_true rfl) rfl (j := 4) (by decide) (by unfold vp_in; decide) dX7_count_104 ?_
                exact v_iret hC hR h dX7_count_105
              · by_cases q2_5 : x1 = (nI 5)
                · replace h := h.2.2.2.2.2.1 q2_5
                  refine v_tableIn hC (nI 5) 106 dX7_count_33 q2_5 (by decide) (by decide) rfl (by decide) ?_
                  refine v_aload_n hC 0 dX7_count_106 rfl ?_
                  refine gf_X7_173 hC dX7_count_107 ?_
                  exact v_iret hC hR h dX7_count_110
                · by_cases q2_6 : x1 = (nI 6)
                  · replace h := h.2.2.2.2.2.2.1 q2_6
                    refine v_tableIn hC (nI 6) 111 dX7_count_33 q2_6 (by decide) (by decide) rfl (by decide) ?_
                    refine v_aload_n hC 0 dX7_count_111 rfl ?_
                    refine gf_X7_86 hC dX7_count_112 ?_
                    exact v_iret hC hR h dX7_count_115
                  · replace h := h.2.2.2.2.2.2.2 ⟨q2_0, q2_1, q2_2, q2_3, q2_4, q2_5, q2_6⟩
                    refine v_tableOut hC 116 dX7_count_33 (sw_out _ _ (fun j hj1 hj2 => by have hj : j = 0 ∨ j = 1 ∨ j = 2 ∨ j = 3 ∨ j = 4 ∨ j = 5 ∨ j = 6 := (by omega); rcases hj with rfl | rfl | rfl | rfl | rfl | rfl | rfl <;> first | exact q2_0 | exact q2_1 | exact q2_2 | exact q2_3 | exact q2_4 | exact q2_5 | exact q2_6)) (by decide) ?_
                    refine v_ldc hC kw1053 dX7_count_116 ?_
                    exact v_iret hC hR h dX7_count_118
    · replace h := h.2 c1
      refine v_iload_n hC 2 dX7_count_10 rfl ?_
      refine v_aload_n hC 0 dX7_count_11 rfl ?_
      refine v_iload_n hC 3 dX7_count_12 rfl ?_
      refine v_callV hC (kM_isNull _ _ _ h) cmM_isNull ⟨kw1069, kw43⟩ kw1067 ⟨Nat.le_of_ble_eq_true rfl, Nat.le_of_ble_eq_true rfl⟩ (Nat.le_of_ble_eq_true rfl) rfl (ci := 7) (T := TX7) (N := 30) rfl (As := fun G => [.int x3]) (fun _ => rfl) (fun _ => rfl) (st := [.int x2]) (Nat.le_of_ble_eq_true rfl) rfl dX7_count_13 (kk_i (fun r8 σ8 h => ?_))
      have J9 : ∀ (v10 : Int32) (ev10 : v10 = (if r8 = nI 0 then (nI 1) else (nI 0))), V X 4 24 [(0, .ref (xad X 82)), (1, .int x1), (3, .int x3)] [.int v10, .int x2] σ8 := by
        intro v10 ev10
        replace h := h v10 ev10
        refine v_iadd hC dX7_count_24 ?_
        refine v_istore_nN hC dX7_count_25 (by decide) (lo2 := fun x2_11 => [(2, .int x2_11), (0, .ref (xad X 82)), (1, .int x1), (3, .int x3)]) (fun _ => rfl) (fun x2_11 e11 => ?_)
        replace h := h x2_11 e11
        refine v_iincN hC (nI 1) 3 dX7_count_26 rfl rfl (by decide) (lo2 := fun x3_12 => [(3, .int x3_12), (2, .int x2_11), (0, .ref (xad X 82)), (1, .int x1)]) (fun _ => rfl) (fun x3_12 e12 => ?_)
        replace h := h x3_12 e12
        refine v_goto hC 4 dX7_count_29 (by decide) ?_
        exact V.sub [2, 3, 1, 0] rfl (ih _ _ _ _ h)
      refine v_if_eq hC 23 dX7_count_16 (by decide) (fun c9 => ?_) (fun c9 => ?_)
      · refine v_iconst hC (nI 1) dX7_count_23 rfl ?_
        exact V.sub [0, 1, 3] rfl (J9 _ (by rw [if_pos c9]))
      · refine v_iconst hC (nI 0) dX7_count_19 rfl ?_
        refine v_goto hC 24 dX7_count_20 (by decide) ?_
        exact V.sub [0, 1, 3] rfl (J9 _ (by rw [if_neg c9]))
set_option maxHeartbeats 4000000 in
set_option maxRecDepth 100000 in
theorem kM_count (x1 : Int32) (σ : gM) (Q : Int32 → gM → Prop) (h : wM_count x1 σ Q) : CT yX7_count cX7_count 4 (some .int) rmM_count (fun G => [.ref (gad G 82), .int x1]) σ (gPi Q) := by
  refine c_enter (by decide) (fun _ => Nat.le_of_ble_eq_true rfl) (fun X hC hR => ?_)
  show V X 4 0 [(0, .ref (xad X 82)), (1, .int x1)] [] σ
  replace h : ∃ n13 : Nat, wM_count_l4 Q n13 x1 (nI 0) (nI 0) σ := h
  refine v_iconst hC (nI 0) dX7_count_0 rfl ?_
  refine v_istore_n hC dX7_count_1 (by decide) rfl ?_
  refine v_iconst hC (nI 0) dX7_count_2 rfl ?_
  refine v_istore_n hC dX7_count_3 (by decide) rfl ?_
  obtain ⟨n13, h⟩ := h
  exact V.sub [2, 3, 1, 0] rfl (tM_count_l4 hC hR  n13 _ _ _ _ h)
theorem cmM_count : CM yX7_count cX7_count 4 (some .int) rmM_count 1 := ⟨kw82, kw1335, rfl, rfl, by decide, by decide, by decide +kernel⟩
def rmM_status : Room := { frames := 0, cells := 0, slots := 0, locals := 0 }
def wM_status  (σ : gM) (Q : Int32 → gM → Prop) : Prop :=
    Q (σ 82 3) σ
set_option maxHeartbeats 4000000 in
set_option maxRecDepth 100000 in
theorem kM_status  (σ : gM) (Q : Int32 → gM → Prop) (h : wM_status  σ Q) : CT yX7_status cX7_status 1 (some .int) rmM_status (fun G => [.ref (gad G 82)]) σ (gPi Q) := by
  refine c_enter (by decide) (fun _ => Nat.le_of_ble_eq_true rfl) (fun X hC hR => ?_)
  show V X 1 0 [(0, .ref (xad X 82))] [] σ
  replace h : Q (σ 82 3) σ := h
  refine v_aload_n hC 0 dX7_status_0 rfl ?_
  refine gf_X7_62 hC dX7_status_1 ?_
  exact v_iret hC hR h dX7_status_4
theorem cmM_status : CM yX7_status cX7_status 1 (some .int) rmM_status 0 := ⟨kw82, kw1339, rfl, rfl, by decide, by decide, by decide +kernel⟩
