def rmH_line : Room := { frames := 4, cells := 0, slots := 0, locals := 118 }
def wH_line (x1 : Int32) (x2 : Int32) (x3 : Int32) (x4 : Int32) (σ : gM) (Q : Int32 → gM → Prop) : Prop :=
    ((σ 42 0) = nI 0 → (Q (-1000002 : Int32) σ)) ∧ (¬ ((σ 42 0) = nI 0) → (wH_isNoRow x1 σ (fun (r3 : Int32) (σ3 : gM) => (r3 = nI 0 → ((x3 < (nI 1) → (Q (-1000001 : Int32) σ3)) ∧ (¬ (x3 < (nI 1)) → (((nI 40) < x3 → (Q (-1000001 : Int32) σ3)) ∧ (¬ ((nI 40) < x3) → ((x4 < (-1 : Int32) → (Q (-1000001 : Int32) σ3)) ∧ (¬ (x4 < (-1 : Int32)) → ((x4 < (σ3 42 3) → (wH_findingOf x1 x2 x3 σ3 (fun (r10 : Int32) (σ10 : gM) => (r10 = nI 0 → (vp_in x1 8 ∧ (wR_isBelow x1.toNatClampNeg (σ10 42 3) x2 x3 σ10 (fun (r14 : Int32) (σ14 : gM) => (r14 = nI 0 → (Q (-1000001 : Int32) σ14)) ∧ (¬ (r14 = nI 0) → (vp_in x1 8 ∧ (wS_behindLine_row x1.toNatClampNeg x2 x3 x4 σ14 (fun (r18 : Int32) (σ18 : gM) => wH_unfound r18 σ18 (fun (r20 : Int32) (σ20 : gM) => Q r20 σ20))))))))) ∧ (¬ (r10 = nI 0) → (wH_found r10 σ10 (fun (r22 : Int32) (σ22 : gM) => Q r22 σ22)))))) ∧ (¬ (x4 < (σ3 42 3)) → (Q (-1000001 : Int32) σ3)))))))))) ∧ (¬ (r3 = nI 0) → (Q (-1000001 : Int32) σ3)))))
set_option maxHeartbeats 4000000 in
set_option maxRecDepth 100000 in
theorem kH_line (x1 : Int32) (x2 : Int32) (x3 : Int32) (x4 : Int32) (σ : gM) (Q : Int32 → gM → Prop) (h : wH_line x1 x2 x3 x4 σ Q) : CT yX6_line cX6_line 6 (some .int) rmH_line (fun G => [.ref (gad G 0), .int x1, .int x2, .int x3, .int x4]) σ (gPi Q) := by
  refine c_enter (by decide) (fun _ => Nat.le_of_ble_eq_true rfl) (fun X hC hR => ?_)
  show V X 6 0 [(0, .ref (xad X 0)), (1, .int x1), (2, .int x2), (3, .int x3), (4, .int x4)] [] σ
  replace h : ((σ 42 0) = nI 0 → (Q (-1000002 : Int32) σ)) ∧ (¬ ((σ 42 0) = nI 0) → (wH_isNoRow x1 σ (fun (r3 : Int32) (σ3 : gM) => (r3 = nI 0 → ((x3 < (nI 1) → (Q (-1000001 : Int32) σ3)) ∧ (¬ (x3 < (nI 1)) → (((nI 40) < x3 → (Q (-1000001 : Int32) σ3)) ∧ (¬ ((nI 40) < x3) → ((x4 < (-1 : Int32) → (Q (-1000001 : Int32) σ3)) ∧ (¬ (x4 < (-1 : Int32)) → ((x4 < (σ3 42 3) → (wH_findingOf x1 x2 x3 σ3 (fun (r10 : Int32) (σ10 : gM) => (r10 = nI 0 → (vp_in x1 8 ∧ (wR_isBelow x1.toNatClampNeg (σ10 42 3) x2 x3 σ10 (fun (r14 : Int32) (σ14 : gM) => (r14 = nI 0 → (Q (-1000001 : Int32) σ14)) ∧ (¬ (r14 = nI 0) → (vp_in x1 8 ∧ (wS_behindLine_row x1.toNatClampNeg x2 x3 x4 σ14 (fun (r18 : Int32) (σ18 : gM) => wH_unfound r18 σ18 (fun (r20 : Int32) (σ20 : gM) => Q r20 σ20))))))))) ∧ (¬ (r10 = nI 0) → (wH_found r10 σ10 (fun (r22 : Int32) (σ22 : gM) => Q r22 σ22)))))) ∧ (¬ (x4 < (σ3 42 3)) → (Q (-1000001 : Int32) σ3)))))))))) ∧ (¬ (r3 = nI 0) → (Q (-1000001 : Int32) σ3))))) := h
  refine v_aload_n hC 0 dX6_line_0 rfl ?_
  refine gf_X6_25 hC dX6_line_1 ?_
  refine gf_X6_168_42 hC dX6_line_4 ?_
  refine v_if_ne hC 13 dX6_line_7 (by decide) (fun c1 => ?_) (fun c1 => ?_)
  · replace h := h.2 c1
    refine v_aload_n hC 0 dX6_line_13 rfl ?_
    refine v_iload_n hC 1 dX6_line_14 rfl ?_
    refine v_callV hC (kH_isNoRow _ _ _ h) cmH_isNoRow ⟨kw375, kw0⟩ kw373 ⟨Nat.le_of_ble_eq_true rfl, Nat.le_of_ble_eq_true rfl⟩ (Nat.le_of_ble_eq_true rfl) rfl (ci := 6) (T := TX6) (N := 12) rfl (As := fun G => [.int x1]) (fun _ => rfl) (fun _ => rfl) (st := []) (Nat.le_of_ble_eq_true rfl) rfl dX6_line_15 (kk_i (fun r3 σ3 h => ?_))
    refine v_if_ne hC 50 dX6_line_18 (by decide) (fun c4 => ?_) (fun c4 => ?_)
    · replace h := h.2 c4
      refine v_ldc hC kw377 dX6_line_50 ?_
      exact v_iret hC hR h dX6_line_52
    · replace h := h.1 c4
      refine v_iload_n hC 3 dX6_line_21 rfl ?_
      refine v_iconst hC (nI 1) dX6_line_22 rfl ?_
      refine v_icmp_lt hC 50 dX6_line_23 (by decide) (fun c5 => ?_) (fun c5 => ?_)
      · replace h := h.1 c5
        refine v_ldc hC kw377 dX6_line_50 ?_
        exact v_iret hC hR h dX6_line_52
      · replace h := h.2 c5
        refine v_iload_n hC 3 dX6_line_26 rfl ?_
        refine v_bipush hC (nI 40) dX6_line_27 rfl ?_
        refine v_icmp_gt hC 50 dX6_line_29 (by decide) (fun c6 => ?_) (fun c6 => ?_)
        · replace h := h.1 c6
          refine v_ldc hC kw377 dX6_line_50 ?_
          exact v_iret hC hR h dX6_line_52
        · replace h := h.2 c6
          refine v_iload hC 4 dX6_line_32 rfl ?_
          refine v_iconst hC (-1 : Int32) dX6_line_34 rfl ?_
          refine v_icmp_lt hC 50 dX6_line_35 (by decide) (fun c7 => ?_) (fun c7 => ?_)
          · replace h := h.1 c7
            refine v_ldc hC kw377 dX6_line_50 ?_
            exact v_iret hC hR h dX6_line_52
          · replace h := h.2 c7
            refine v_iload hC 4 dX6_line_38 rfl ?_
            refine v_aload_n hC 0 dX6_line_40 rfl ?_
            refine gf_X6_25 hC dX6_line_41 ?_
            refine gf_X6_275_42 hC dX6_line_44 ?_
            refine v_icmp_lt hC 53 dX6_line_47 (by decide) (fun c8 => ?_) (fun c8 => ?_)
            · replace h := h.1 c8
              refine v_aload_n hC 0 dX6_line_53 rfl ?_
              refine v_iload_n hC 1 dX6_line_54 rfl ?_
              refine v_iload_n hC 2 dX6_line_55 rfl ?_
              refine v_iload_n hC 3 dX6_line_56 rfl ?_
              refine v_callV hC (kH_findingOf _ _ _ _ _ h) cmH_findingOf ⟨kw400, kw3⟩ kw398 ⟨Nat.le_of_ble_eq_true rfl, Nat.le_of_ble_eq_true rfl⟩ (Nat.le_of_ble_eq_true rfl) rfl (ci := 6) (T := TX6) (N := 12) rfl (As := fun G => [.int x1, .int x2, .int x3]) (fun _ => rfl) (fun _ => rfl) (st := []) (Nat.le_of_ble_eq_true rfl) rfl dX6_line_57 (kk_i (fun r10 σ10 h => ?_))
              refine v_istore hC dX6_line_60 (by decide) rfl ?_
              refine v_iload hC 0 dX6_line_62 rfl ?_
              refine v_if_eq hC 74 dX6_line_64 (by decide) (fun c11 => ?_) (fun c11 => ?_)
              · replace h := h.1 c11
                refine v_aload_n hC 1 dX6_line_74 rfl ?_
                refine gf_X6_11 hC dX6_line_75 ?_
                refine v_iload_n hC 2 dX6_line_78 rfl ?_
                obtain ⟨hi12, h⟩ := h
                have hr12 := vin_lt hi12
                refine v_aald hC (Or.inl rfl) (o := 1) (Nat.le_of_ble_eq_true rfl) rfl hi12 dX6_line_79 ?_
                refine v_aload_n hC 1 dX6_line_80 rfl ?_
                refine gf_X6_25 hC dX6_line_81 ?_
                refine gf_X6_275_42 hC dX6_line_84 ?_
                refine v_iload_n hC 3 dX6_line_87 rfl ?_
                refine v_iload_n hC 4 dX6_line_88 rfl ?_
                refine v_callV hC (kR_isBelow hr12 _ _ _ _ _ h) cmR_isBelow ⟨kw781, kw782⟩ kw780 ⟨Nat.le_of_ble_eq_true rfl, Nat.le_of_ble_eq_true rfl⟩ (row_lt hr12) (gSh_row _ hr12).1 (ci := 3) (T := TX3) (N := 4) rfl (As := fun G => [.int (σ10 42 3), .int x2, .int x3]) (fun _ => rfl) (fun _ => rfl) (st := []) (Nat.le_of_ble_eq_true rfl) rfl dX6_line_89 (kk_i (fun r14 σ14 h => ?_))
                refine v_if_ne hC 98 dX6_line_92 (by decide) (fun c15 => ?_) (fun c15 => ?_)
                · replace h := h.2 c15
                  refine v_aload_n hC 1 dX6_line_98 rfl ?_
                  refine v_aload_n hC 1 dX6_line_99 rfl ?_
                  refine gf_X6_53 hC dX6_line_100 ?_
                  refine v_aload_n hC 1 dX6_line_103 rfl ?_
                  refine gf_X6_25 hC dX6_line_104 ?_
                  refine v_aload_n hC 1 dX6_line_107 rfl ?_
                  refine gf_X6_11 hC dX6_line_108 ?_
                  refine v_iload_n hC 2 dX6_line_111 rfl ?_
                  obtain ⟨hi16, h⟩ := h
                  have hr16 := vin_lt hi16
                  refine v_aald hC (Or.inl rfl) (o := 1) (Nat.le_of_ble_eq_true rfl) rfl hi16 dX6_line_112 ?_
                  refine v_iload_n hC 3 dX6_line_113 rfl ?_
                  refine v_iload_n hC 4 dX6_line_114 rfl ?_
                  refine v_iload hC 5 dX6_line_115 rfl ?_
                  refine v_callV hC (kS_behindLine_row hr16 _ _ _ _ _ h) cmS_behindLine ⟨kw785, kw786⟩ kw784 ⟨Nat.le_of_ble_eq_true rfl, Nat.le_of_ble_eq_true rfl⟩ (Nat.le_of_ble_eq_true rfl) rfl (ci := 4) (T := TX4) (N := 4) rfl (As := fun G => [.ref (gad G 42), .ref (gad G (2 + 2 * x1.toNatClampNeg)), .int x2, .int x3, .int x4]) (fun _ => rfl) (fun _ => rfl) (st := [.ref (xad X 0)]) (Nat.le_of_ble_eq_true rfl) rfl dX6_line_117 (kk_i (fun r18 σ18 h => ?_))
                  refine v_callV hC (kH_unfound _ _ _ h) cmH_unfound ⟨kw392, kw2⟩ kw390 ⟨Nat.le_of_ble_eq_true rfl, Nat.le_of_ble_eq_true rfl⟩ (Nat.le_of_ble_eq_true rfl) rfl (ci := 6) (T := TX6) (N := 12) rfl (As := fun G => [.int r18]) (fun _ => rfl) (fun _ => rfl) (st := []) (Nat.le_of_ble_eq_true rfl) rfl dX6_line_120 (kk_i (fun r20 σ20 h => ?_))
                  exact v_iret hC hR h dX6_line_123
                · replace h := h.1 c15
                  refine v_ldc hC kw377 dX6_line_95 ?_
                  exact v_iret hC hR h dX6_line_97
              · replace h := h.2 c11
                refine v_aload_n hC 1 dX6_line_67 rfl ?_
                refine v_iload hC 0 dX6_line_68 rfl ?_
                refine v_callV hC (kH_found _ _ _ h) cmH_found ⟨kw380, kw1⟩ kw378 ⟨Nat.le_of_ble_eq_true rfl, Nat.le_of_ble_eq_true rfl⟩ (Nat.le_of_ble_eq_true rfl) rfl (ci := 6) (T := TX6) (N := 12) rfl (As := fun G => [.int r10]) (fun _ => rfl) (fun _ => rfl) (st := []) (Nat.le_of_ble_eq_true rfl) rfl dX6_line_70 (kk_i (fun r22 σ22 h => ?_))
                exact v_iret hC hR h dX6_line_73
            · replace h := h.2 c8
              refine v_ldc hC kw377 dX6_line_50 ?_
              exact v_iret hC hR h dX6_line_52
  · replace h := h.1 c1
    refine v_ldc hC kw598 dX6_line_10 ?_
    exact v_iret hC hR h dX6_line_12
theorem cmH_line : CM yX6_line cX6_line 6 (some .int) rmH_line 4 := ⟨kw75, kw779, rfl, rfl, by decide, by decide, by decide +kernel⟩
def rmJI_bitCount : Room := { frames := 0, cells := 0, slots := 0, locals := 0 }
def wJI_bitCount (x0 : Int32) (σ : gM) (Q : Int32 → gM → Prop) : Prop :=
    ∀ x0_1 : Int32, x0_1 = (x0 - (((x0.toUInt32 >>> ((nI 1).toUInt32 &&& Int32.toUInt32 31)).toInt32) &&& (nI 1431655765))) → (∀ x0_2 : Int32, x0_2 = ((x0_1 &&& (nI 858993459)) + (((x0_1.toUInt32 >>> ((nI 2).toUInt32 &&& Int32.toUInt32 31)).toInt32) &&& (nI 858993459))) → (∀ x0_3 : Int32, x0_3 = ((x0_2 + ((x0_2.toUInt32 >>> ((nI 4).toUInt32 &&& Int32.toUInt32 31)).toInt32)) &&& (nI 252645135)) → (∀ x0_4 : Int32, x0_4 = (x0_3 + ((x0_3.toUInt32 >>> ((nI 8).toUInt32 &&& Int32.toUInt32 31)).toInt32)) → (∀ x0_5 : Int32, x0_5 = (x0_4 + ((x0_4.toUInt32 >>> ((nI 16).toUInt32 &&& Int32.toUInt32 31)).toInt32)) → (Q (x0_5 &&& (nI 63)) σ)))))
set_option maxHeartbeats 4000000 in
set_option maxRecDepth 100000 in
theorem kJI_bitCount (x0 : Int32) (σ : gM) (Q : Int32 → gM → Prop) (h : wJI_bitCount x0 σ Q) : CT yJ6_bitCount_0f7a4 cJ6_bitCount_0f7a4 1 (some .int) rmJI_bitCount (fun G => [.int x0]) σ (gPi Q) := by
  refine c_enter (by decide) (fun _ => Nat.le_of_ble_eq_true rfl) (fun X hC hR => ?_)
  show V X 1 0 [(0, .int x0)] [] σ
  replace h : ∀ x0_1 : Int32, x0_1 = (x0 - (((x0.toUInt32 >>> ((nI 1).toUInt32 &&& Int32.toUInt32 31)).toInt32) &&& (nI 1431655765))) → (∀ x0_2 : Int32, x0_2 = ((x0_1 &&& (nI 858993459)) + (((x0_1.toUInt32 >>> ((nI 2).toUInt32 &&& Int32.toUInt32 31)).toInt32) &&& (nI 858993459))) → (∀ x0_3 : Int32, x0_3 = ((x0_2 + ((x0_2.toUInt32 >>> ((nI 4).toUInt32 &&& Int32.toUInt32 31)).toInt32)) &&& (nI 252645135)) → (∀ x0_4 : Int32, x0_4 = (x0_3 + ((x0_3.toUInt32 >>> ((nI 8).toUInt32 &&& Int32.toUInt32 31)).toInt32)) → (∀ x0_5 : Int32, x0_5 = (x0_4 + ((x0_4.toUInt32 >>> ((nI 16).toUInt32 &&& Int32.toUInt32 31)).toInt32)) → (Q (x0_5 &&& (nI 63)) σ))))) := h
  refine v_iload_n hC 0 dJ6_bitCount_0f7a4_0 rfl ?_
  refine v_iload_n hC 0 dJ6_bitCount_0f7a4_1 rfl ?_
  refine v_iconst hC (nI 1) dJ6_bitCount_0f7a4_2 rfl ?_
  refine v_iushr hC dJ6_bitCount_0f7a4_3 ?_
  refine v_ldcw hC kw797 dJ6_bitCount_0f7a4_4 ?_
  refine v_iand hC dJ6_bitCount_0f7a4_7 ?_
  refine v_isub hC dJ6_bitCount_0f7a4_8 ?_
  refine v_istore_nN hC dJ6_bitCount_0f7a4_9 (by decide) (lo2 := fun x0_1 => [(0, .int x0_1)]) (fun _ => rfl) (fun x0_1 e1 => ?_)
  replace h := h x0_1 e1
  refine v_iload_n hC 0 dJ6_bitCount_0f7a4_10 rfl ?_
  refine v_ldcw hC kw798 dJ6_bitCount_0f7a4_11 ?_
  refine v_iand hC dJ6_bitCount_0f7a4_14 ?_
  refine v_iload_n hC 0 dJ6_bitCount_0f7a4_15 rfl ?_
  refine v_iconst hC (nI 2) dJ6_bitCount_0f7a4_16 rfl ?_
  refine v_iushr hC dJ6_bitCount_0f7a4_17 ?_
  refine v_ldcw hC kw798 dJ6_bitCount_0f7a4_18 ?_
  refine v_iand hC dJ6_bitCount_0f7a4_21 ?_
  refine v_iadd hC dJ6_bitCount_0f7a4_22 ?_
  refine v_istore_nN hC dJ6_bitCount_0f7a4_23 (by decide) (lo2 := fun x0_2 => [(0, .int x0_2)]) (fun _ => rfl) (fun x0_2 e2 => ?_)
  replace h := h x0_2 e2
  refine v_iload_n hC 0 dJ6_bitCount_0f7a4_24 rfl ?_
  refine v_iload_n hC 0 dJ6_bitCount_0f7a4_25 rfl ?_
  refine v_iconst hC (nI 4) dJ6_bitCount_0f7a4_26 rfl ?_
  refine v_iushr hC dJ6_bitCount_0f7a4_27 ?_
  refine v_iadd hC dJ6_bitCount_0f7a4_28 ?_
  refine v_ldcw hC kw799 dJ6_bitCount_0f7a4_29 ?_
  refine v_iand hC dJ6_bitCount_0f7a4_32 ?_
  refine v_istore_nN hC dJ6_bitCount_0f7a4_33 (by decide) (lo2 := fun x0_3 => [(0, .int x0_3)]) (fun _ => rfl) (fun x0_3 e3 => ?_)
  replace h := h x0_3 e3
  refine v_iload_n hC 0 dJ6_bitCount_0f7a4_34 rfl ?_
  refine v_iload_n hC 0 dJ6_bitCount_0f7a4_35 rfl ?_
  refine v_bipush hC (nI 8) dJ6_bitCount_0f7a4_36 rfl ?_
  refine v_iushr hC dJ6_bitCount_0f7a4_38 ?_
  refine v_iadd hC dJ6_bitCount_0f7a4_39 ?_
  refine v_istore_nN hC dJ6_bitCount_0f7a4_40 (by decide) (lo2 := fun x0_4 => [(0, .int x0_4)]) (fun _ => rfl) (fun x0_4 e4 => ?_)
  replace h := h x0_4 e4
  refine v_iload_n hC 0 dJ6_bitCount_0f7a4_41 rfl ?_
  refine v_iload_n hC 0 dJ6_bitCount_0f7a4_42 rfl ?_
  refine v_bipush hC (nI 16) dJ6_bitCount_0f7a4_43 rfl ?_
  refine v_iushr hC dJ6_bitCount_0f7a4_45 ?_
  refine v_iadd hC dJ6_bitCount_0f7a4_46 ?_
  refine v_istore_nN hC dJ6_bitCount_0f7a4_47 (by decide) (lo2 := fun x0_5 => [(0, .int x0_5)]) (fun _ => rfl) (fun x0_5 e5 => ?_)
  replace h := h x0_5 e5
  refine v_iload_n hC 0 dJ6_bitCount_0f7a4_48 rfl ?_
  refine v_bipush hC (nI 63) dJ6_bitCount_0f7a4_49 rfl ?_
  refine v_iand hC dJ6_bitCount_0f7a4_51 ?_
  exact v_iret hC hR h dJ6_bitCount_0f7a4_52
theorem cmJI_bitCount : CM yJ6_bitCount_0f7a4 cJ6_bitCount_0f7a4 1 (some .int) rmJI_bitCount 1 := ⟨kw90, kw796, rfl, rfl, by decide, by decide, by decide +kernel⟩
def rmK_bitsAtEnds : Room := { frames := 1, cells := 0, slots := 0, locals := 21 }
def wK42_bitsAtEnds  (σ : gM) (Q : Int32 → gM → Prop) : Prop :=
    ((σ 42 5) = nI 0 → (Q (nI 0) σ)) ∧ (¬ ((σ 42 5) = nI 0) → (wK42_wareAt (nI 0) σ (fun (r3 : Int32) (σ3 : gM) => wK42_wareAt (nI 1) σ3 (fun (r5 : Int32) (σ5 : gM) => Q (((nI 1) <<< (r3 &&& 31)) ||| ((nI 1) <<< (r5 &&& 31))) σ5))))
set_option maxHeartbeats 4000000 in
set_option maxRecDepth 100000 in
theorem kK42_bitsAtEnds  (σ : gM) (Q : Int32 → gM → Prop) (h : wK42_bitsAtEnds  σ Q) : CT yX2_bitsAtEnds cX2_bitsAtEnds 1 (some .int) rmK_bitsAtEnds (fun G => [.ref (gad G 42)]) σ (gPi Q) := by
  refine c_enter (by decide) (fun _ => Nat.le_of_ble_eq_true rfl) (fun X hC hR => ?_)
  show V X 1 0 [(0, .ref (xad X 42))] [] σ
  replace h : ((σ 42 5) = nI 0 → (Q (nI 0) σ)) ∧ (¬ ((σ 42 5) = nI 0) → (wK42_wareAt (nI 0) σ (fun (r3 : Int32) (σ3 : gM) => wK42_wareAt (nI 1) σ3 (fun (r5 : Int32) (σ5 : gM) => Q (((nI 1) <<< (r3 &&& 31)) ||| ((nI 1) <<< (r5 &&& 31))) σ5)))) := h
  refine v_aload_n hC 0 dX2_bitsAtEnds_0 rfl ?_
  refine gf_X2_56_42 hC dX2_bitsAtEnds_1 ?_
  refine v_if_ne hC 11 dX2_bitsAtEnds_4 (by decide) (fun c1 => ?_) (fun c1 => ?_)
  · replace h := h.2 c1
    refine v_iconst hC (nI 1) dX2_bitsAtEnds_11 rfl ?_
    refine v_aload_n hC 0 dX2_bitsAtEnds_12 rfl ?_
    refine v_iconst hC (nI 0) dX2_bitsAtEnds_13 rfl ?_
    refine v_callV hC (kK42_wareAt _ _ _ h) cmK_wareAt ⟨kw600, kw601⟩ kw624 ⟨Nat.le_of_ble_eq_true rfl, Nat.le_of_ble_eq_true rfl⟩ (Nat.le_of_ble_eq_true rfl) rfl (ci := 2) (T := TX2) (N := 15) rfl (As := fun G => [.int (nI 0)]) (fun _ => rfl) (fun _ => rfl) (st := [.int (nI 1)]) (Nat.le_of_ble_eq_true rfl) rfl dX2_bitsAtEnds_14 (kk_i (fun r3 σ3 h => ?_))
    refine v_ishl hC dX2_bitsAtEnds_17 ?_
    refine v_iconst hC (nI 1) dX2_bitsAtEnds_18 rfl ?_
    refine v_aload_n hC 0 dX2_bitsAtEnds_19 rfl ?_
    refine v_iconst hC (nI 1) dX2_bitsAtEnds_20 rfl ?_
    refine v_callV hC (kK42_wareAt _ _ _ h) cmK_wareAt ⟨kw600, kw601⟩ kw624 ⟨Nat.le_of_ble_eq_true rfl, Nat.le_of_ble_eq_true rfl⟩ (Nat.le_of_ble_eq_true rfl) rfl (ci := 2) (T := TX2) (N := 15) rfl (As := fun G => [.int (nI 1)]) (fun _ => rfl) (fun _ => rfl) (st := [.int (nI 1), .int ((nI 1) <<< (r3 &&& 31))]) (Nat.le_of_ble_eq_true rfl) rfl dX2_bitsAtEnds_21 (kk_i (fun r5 σ5 h => ?_))
    refine v_ishl hC dX2_bitsAtEnds_24 ?_
    refine v_ior hC dX2_bitsAtEnds_25 ?_
    exact v_iret hC hR h dX2_bitsAtEnds_26
  · replace h := h.1 c1
    refine v_iconst hC (nI 0) dX2_bitsAtEnds_7 rfl ?_
    refine v_goto hC 26 dX2_bitsAtEnds_8 (by decide) ?_
    exact v_iret hC hR h dX2_bitsAtEnds_26
theorem cmK_bitsAtEnds : CM yX2_bitsAtEnds cX2_bitsAtEnds 1 (some .int) rmK_bitsAtEnds 0 := ⟨kw77, kw803, rfl, rfl, by decide, by decide, by decide +kernel⟩
def rmH_rots : Room := { frames := 3, cells := 0, slots := 0, locals := 85 }
def wH_rots (x1 : Int32) (x2 : Int32) (σ : gM) (Q : Int32 → gM → Prop) : Prop :=
    ((σ 42 0) = nI 0 → (Q (-1000002 : Int32) σ)) ∧ (¬ ((σ 42 0) = nI 0) → ((x1 < nI 0 → (Q (-1000001 : Int32) σ)) ∧ (¬ (x1 < nI 0) → (((nI 99) < x1 → (Q (-1000001 : Int32) σ)) ∧ (¬ ((nI 99) < x1) → ((x2 < nI 0 → (Q (-1000001 : Int32) σ)) ∧ (¬ (x2 < nI 0) → ((x2 ≤ (nI 2) → (wK42_rottenIn x1 σ (fun (r7 : Int32) (σ7 : gM) => (x2 = (nI 0) → (wJI_bitCount r7 σ7 (fun (r10 : Int32) (σ10 : gM) => Q r10 σ10))) ∧ (x2 = (nI 1) → (Q r7 σ7)) ∧ ((¬ x2 = (nI 0) ∧ ¬ x2 = (nI 1)) → (wK42_bitsAtEnds  σ7 (fun (r12 : Int32) (σ12 : gM) => Q (r7 &&& (r12 ^^^ (-1 : Int32))) σ12)))))) ∧ (¬ (x2 ≤ (nI 2)) → (Q (-1000001 : Int32) σ))))))))))
set_option maxHeartbeats 4000000 in
set_option maxRecDepth 100000 in
theorem kH_rots (x1 : Int32) (x2 : Int32) (σ : gM) (Q : Int32 → gM → Prop) (h : wH_rots x1 x2 σ Q) : CT yX6_rots cX6_rots 4 (some .int) rmH_rots (fun G => [.ref (gad G 0), .int x1, .int x2]) σ (gPi Q) := by
  refine c_enter (by decide) (fun _ => Nat.le_of_ble_eq_true rfl) (fun X hC hR => ?_)
  show V X 4 0 [(0, .ref (xad X 0)), (1, .int x1), (2, .int x2)] [] σ
  replace h : ((σ 42 0) = nI 0 → (Q (-1000002 : Int32) σ)) ∧ (¬ ((σ 42 0) = nI 0) → ((x1 < nI 0 → (Q (-1000001 : Int32) σ)) ∧ (¬ (x1 < nI 0) → (((nI 99) < x1 → (Q (-1000001 : Int32) σ)) ∧ (¬ ((nI 99) < x1) → ((x2 < nI 0 → (Q (-1000001 : Int32) σ)) ∧ (¬ (x2 < nI 0) → ((x2 ≤ (nI 2) → (wK42_rottenIn x1 σ (fun (r7 : Int32) (σ7 : gM) => (x2 = (nI 0) → (wJI_bitCount r7 σ7 (fun (r10 : Int32) (σ10 : gM) => Q r10 σ10))) ∧ (x2 = (nI 1) → (Q r7 σ7)) ∧ ((¬ x2 = (nI 0) ∧ ¬ x2 = (nI 1)) → (wK42_bitsAtEnds  σ7 (fun (r12 : Int32) (σ12 : gM) => Q (r7 &&& (r12 ^^^ (-1 : Int32))) σ12)))))) ∧ (¬ (x2 ≤ (nI 2)) → (Q (-1000001 : Int32) σ)))))))))) := h
  refine v_aload_n hC 0 dX6_rots_0 rfl ?_
  refine gf_X6_25 hC dX6_rots_1 ?_
  refine gf_X6_168_42 hC dX6_rots_4 ?_
  refine v_if_ne hC 13 dX6_rots_7 (by decide) (fun c1 => ?_) (fun c1 => ?_)
  · replace h := h.2 c1
    refine v_iload_n hC 1 dX6_rots_13 rfl ?_
    refine v_if_lt hC 32 dX6_rots_14 (by decide) (fun c2 => ?_) (fun c2 => ?_)
    · replace h := h.1 c2
      refine v_ldc hC kw377 dX6_rots_32 ?_
      exact v_iret hC hR h dX6_rots_34
    · replace h := h.2 c2
      refine v_iload_n hC 1 dX6_rots_17 rfl ?_
      refine v_bipush hC (nI 99) dX6_rots_18 rfl ?_
      refine v_icmp_gt hC 32 dX6_rots_20 (by decide) (fun c3 => ?_) (fun c3 => ?_)
      · replace h := h.1 c3
        refine v_ldc hC kw377 dX6_rots_32 ?_
        exact v_iret hC hR h dX6_rots_34
      · replace h := h.2 c3
        refine v_iload_n hC 2 dX6_rots_23 rfl ?_
        refine v_if_lt hC 32 dX6_rots_24 (by decide) (fun c4 => ?_) (fun c4 => ?_)
        · replace h := h.1 c4
          refine v_ldc hC kw377 dX6_rots_32 ?_
          exact v_iret hC hR h dX6_rots_34
        · replace h := h.2 c4
          refine v_iload_n hC 2 dX6_rots_27 rfl ?_
          refine v_iconst hC (nI 2) dX6_rots_28 rfl ?_
          refine v_icmp_le hC 35 dX6_rots_29 (by decide) (fun c5 => ?_) (fun c5 => ?_)
          · replace h := h.1 c5
            refine v_aload_n hC 0 dX6_rots_35 rfl ?_
            refine gf_X6_25 hC dX6_rots_36 ?_
            refine v_iload_n hC 1 dX6_rots_39 rfl ?_
            refine v_callV hC (kK42_rottenIn _ _ _ h) cmK_rottenIn ⟨kw649, kw650⟩ kw648 ⟨Nat.le_of_ble_eq_true rfl, Nat.le_of_ble_eq_true rfl⟩ (Nat.le_of_ble_eq_true rfl) rfl (ci := 2) (T := TX2) (N := 15) rfl (As := fun G => [.int x1]) (fun _ => rfl) (fun _ => rfl) (st := []) (Nat.le_of_ble_eq_true rfl) rfl dX6_rots_40 (kk_i (fun r7 σ7 h => ?_))
            refine v_istore_n hC dX6_rots_43 (by decide) rfl ?_
            refine v_iload_n hC 3 dX6_rots_44 rfl ?_
            by_cases q8_0 : x2 = (nI 0)
            · replace h := h.1 q8_0
              refine v_lookup hC 72 dX6_rots_45 (by decide) (by rw [q8_0]; try decide) (by decide) ?_
              refine v_iload_n hC 0 dX6_rots_72 rfl ?_
              refine v_callS hC (kJI_bitCount _ _ _ h) cmJI_bitCount kw795 kw794 ⟨Nat.le_of_ble_eq_true rfl, Nat.le_of_ble_eq_true rfl⟩ (fun _ => rfl) (st := []) (Nat.le_of_ble_eq_true rfl) rfl dX6_rots_73 (kk_i (fun r10 σ10 h => ?_))
              exact v_iret hC hR h dX6_rots_76
            · by_cases q8_1 : x2 = (nI 1)
              · replace h := h.2.1 q8_1
                refine v_lookup hC 77 dX6_rots_45 (by decide) (by rw [q8_1]; try decide) (by decide) ?_
                refine v_iload_n hC 0 dX6_rots_77 rfl ?_
                exact v_iret hC hR h dX6_rots_78
              · replace h := h.2.2 ⟨q8_0, q8_1⟩
                refine v_lookup hC 79 dX6_rots_45 (by decide) (lk_out2 q8_0 q8_1) (by decide) ?_
                refine v_iload_n hC 0 dX6_rots_79 rfl ?_
                refine v_aload_n hC 1 dX6_rots_80 rfl ?_
                refine gf_X6_25 hC dX6_rots_81 ?_
                refine v_callV hC (kK42_bitsAtEnds  _ _ h) cmK_bitsAtEnds ⟨kw801, kw802⟩ kw800 ⟨Nat.le_of_ble_eq_true rfl, Nat.le_of_ble_eq_true rfl⟩ (Nat.le_of_ble_eq_true rfl) rfl (ci := 2) (T := TX2) (N := 15) rfl (As := fun G => []) (fun _ => rfl) (fun _ => rfl) (st := [.int r7]) (Nat.le_of_ble_eq_true rfl) rfl dX6_rots_84 (kk_i (fun r12 σ12 h => ?_))
                refine v_iconst hC (-1 : Int32) dX6_rots_87 rfl ?_
                refine v_ixor hC dX6_rots_88 ?_
                refine v_iand hC dX6_rots_89 ?_
                exact v_iret hC hR h dX6_rots_90
          · replace h := h.2 c5
            refine v_ldc hC kw377 dX6_rots_32 ?_
            exact v_iret hC hR h dX6_rots_34
  · replace h := h.1 c1
    refine v_ldc hC kw598 dX6_rots_10 ?_
    exact v_iret hC hR h dX6_rots_12
theorem cmH_rots : CM yX6_rots cX6_rots 4 (some .int) rmH_rots 2 := ⟨kw75, kw793, rfl, rfl, by decide, by decide, by decide +kernel⟩
def rmS_fewestTill : Room := { frames := 1, cells := 0, slots := 0, locals := 40 }
def wS_fewestTill (x2 : Int32) (σ : gM) (Q : Int32 → gM → Prop) : Prop :=
    Q (if ((σ 42 5) - x2) < (x2 + (nI 1)) then ((σ 42 5) - x2) else (x2 + (nI 1))) σ
set_option maxHeartbeats 4000000 in
set_option maxRecDepth 100000 in
theorem kS_fewestTill (x2 : Int32) (σ : gM) (Q : Int32 → gM → Prop) (h : wS_fewestTill x2 σ Q) : CT yX4_fewestTill cX4_fewestTill 3 (some .int) rmS_fewestTill (fun G => [.ref (gad G 35), .ref (gad G 42), .int x2]) σ (gPi Q) := by
  refine c_enter (by decide) (fun _ => Nat.le_of_ble_eq_true rfl) (fun X hC hR => ?_)
  show V X 3 0 [(0, .ref (xad X 35)), (1, .ref (xad X 42)), (2, .int x2)] [] σ
  replace h : Q (if ((σ 42 5) - x2) < (x2 + (nI 1)) then ((σ 42 5) - x2) else (x2 + (nI 1))) σ := h
  refine v_iload_n hC 2 dX4_fewestTill_0 rfl ?_
  refine v_iconst hC (nI 1) dX4_fewestTill_1 rfl ?_
  refine v_iadd hC dX4_fewestTill_2 ?_
  refine v_aload_n hC 1 dX4_fewestTill_3 rfl ?_
  refine gf_X4_24_42 hC dX4_fewestTill_4 ?_
  refine v_iload_n hC 2 dX4_fewestTill_7 rfl ?_
  refine v_isub hC dX4_fewestTill_8 ?_
  refine v_mmin hC kw812 kw618 kw89 kw619 (Nat.le_of_ble_eq_true rfl) (Nat.le_of_ble_eq_true rfl) dX4_fewestTill_9 ?_
  exact v_iret hC hR h dX4_fewestTill_12
theorem cmS_fewestTill : CM yX4_fewestTill cX4_fewestTill 3 (some .int) rmS_fewestTill 2 := ⟨kw80, kw811, rfl, rfl, by decide, by decide, by decide +kernel⟩
def rmS_leastAhead : Room := { frames := 2, cells := 0, slots := 0, locals := 62 }
def wS_leastAhead_l8 (Q : Int32 → gM → Prop)  : Nat → Int32 → Int32 → Int32 → Int32 → gM → Prop
  | 0, _, _, _, _, _ => False
  | n + 1, x2, x3, x4, x5, σ =>
    ((σ 42 5) ≤ x5 → (Q (if x4 < x3 then x4 else x3) σ)) ∧ (¬ ((σ 42 5) ≤ x5) → (vp_in x5 16 ∧ (wK42_valueIn (σ 51 x5.toNatClampNeg) (nI 0) σ (fun (r5 : Int32) (σ5 : gM) => ∀ v7 : Int32, v7 = (if x2 ≤ x5 then x3 else (x3 + r5)) → (∀ v8 : Int32, v8 = (if x2 ≤ x5 then (if x5 ≤ x2 then x4 else (x4 + r5)) else x4) → (∀ x5_9 : Int32, x5_9 = x5 + (nI 1) → (wS_leastAhead_l8 Q n x2 v7 v8 x5_9 σ5)))))))
def wS_leastAhead (x2 : Int32) (σ : gM) (Q : Int32 → gM → Prop) : Prop :=
    ∃ n11 : Nat, wS_leastAhead_l8 Q n11 x2 (nI 0) (nI 0) (nI 0) σ
set_option maxHeartbeats 4000000 in
set_option maxRecDepth 100000 in
theorem tS_leastAhead_l8 {X : gX} {Q : Int32 → gM → Prop} (hC : VC X cX4_leastAhead RX4 7 rmS_leastAhead) (hR : VR X (some .int) (gPi Q))  : ∀ (n : Nat) (x2 : Int32) (x3 : Int32) (x4 : Int32) (x5 : Int32) (σ : gM), wS_leastAhead_l8 Q  n x2 x3 x4 x5 σ → V X 7 8 [(1, .ref (xad X 42)), (2, .int x2), (3, .int x3), (4, .int x4), (5, .int x5)] [] σ := by
  intro n
  induction n with
  | zero => intro x2 x3 x4 x5 σ h; exact h.elim
  | succ n ih =>
    intro x2 x3 x4 x5 σ h
    replace h : ((σ 42 5) ≤ x5 → (Q (if x4 < x3 then x4 else x3) σ)) ∧ (¬ ((σ 42 5) ≤ x5) → (vp_in x5 16 ∧ (wK42_valueIn (σ 51 x5.toNatClampNeg) (nI 0) σ (fun (r5 : Int32) (σ5 : gM) => ∀ v7 : Int32, v7 = (if x2 ≤ x5 then x3 else (x3 + r5)) → (∀ v8 : Int32, v8 = (if x2 ≤ x5 then (if x5 ≤ x2 then x4 else (x4 + r5)) else x4) → (∀ x5_9 : Int32, x5_9 = x5 + (nI 1) → (wS_leastAhead_l8 Q n x2 v7 v8 x5_9 σ5))))))) := h
    refine v_iload hC 4 dX4_leastAhead_8 rfl ?_
    refine v_aload_n hC 0 dX4_leastAhead_10 rfl ?_
    refine gf_X4_24_42 hC dX4_leastAhead_11 ?_
    refine v_icmp_ge hC 64 dX4_leastAhead_14 (by decide) (fun c1 => ?_) (fun c1 => ?_)
    · replace h := h.1 c1
      refine v_iload_n hC 2 dX4_leastAhead_64 rfl ?_
      refine v_iload hC 3 dX4_leastAhead_65 rfl ?_
      refine v_mmin hC kw812 kw618 kw89 kw619 (Nat.le_of_ble_eq_true rfl) (Nat.le_of_ble_eq_true rfl) dX4_leastAhead_67 ?_
      exact v_iret hC hR h dX4_leastAhead_70
    · replace h := h.2 c1
      refine v_aload_n hC 0 dX4_leastAhead_17 rfl ?_
      refine v_aload_n hC 0 dX4_leastAhead_18 rfl ?_
      refine gf_X4_35_42 hC dX4_leastAhead_19 ?_
      refine v_iload hC 4 dX4_leastAhead_22 rfl ?_
      obtain ⟨hi3, h⟩ := h
      refine v_iald hC (Nat.le_of_ble_eq_true rfl) rfl rfl hi3 dX4_leastAhead_24 ?_
      refine v_iconst hC (nI 0) dX4_leastAhead_25 rfl ?_
      refine v_callV hC (kK42_valueIn _ _ _ _ h) cmK_valueIn ⟨kw604, kw605⟩ kw817 ⟨Nat.le_of_ble_eq_true rfl, Nat.le_of_ble_eq_true rfl⟩ (Nat.le_of_ble_eq_true rfl) rfl (ci := 2) (T := TX2) (N := 15) rfl (As := fun G => [.int (σ 51 x5.toNatClampNeg), .int (nI 0)]) (fun _ => rfl) (fun _ => rfl) (st := []) (Nat.le_of_ble_eq_true rfl) rfl dX4_leastAhead_26 (kk_i (fun r5 σ5 h => ?_))
      refine v_istore hC dX4_leastAhead_29 (by decide) rfl ?_
      refine v_iload hC 5 dX4_leastAhead_31 rfl ?_
      refine v_iload_n hC 2 dX4_leastAhead_33 rfl ?_
      have J6 : ∀ (v7 : Int32) (ev7 : v7 = (if x2 ≤ x5 then x3 else (x3 + r5))) (v8 : Int32) (ev8 : v8 = (if x2 ≤ x5 then (if x5 ≤ x2 then x4 else (x4 + r5)) else x4)), V X 7 58 [(1, .ref (xad X 42)), (2, .int x2), (3, .int v7), (4, .int v8), (5, .int x5)] [] σ5 := by
        intro v7 ev7 v8 ev8
        replace h := h v7 ev7
        replace h := h v8 ev8
        refine v_iincN hC (nI 1) 4 dX4_leastAhead_58 rfl rfl (by decide) (lo2 := fun x5_9 => [(5, .int x5_9), (1, .ref (xad X 42)), (2, .int x2), (3, .int v7), (4, .int v8)]) (fun _ => rfl) (fun x5_9 e9 => ?_)
        replace h := h x5_9 e9
        refine v_goto hC 8 dX4_leastAhead_61 (by decide) ?_
        exact V.sub [1, 2, 3, 4, 0] rfl (ih _ _ _ _ _ h)
      refine v_icmp_ge hC 45 dX4_leastAhead_34 (by decide) (fun c6 => ?_) (fun c6 => ?_)
      · refine v_iload hC 5 dX4_leastAhead_45 rfl ?_
        refine v_iload_n hC 2 dX4_leastAhead_47 rfl ?_
        have J10 : V X 7 58 [(1, .ref (xad X 42)), (2, .int x2), (3, .int x3), (4, .int (if x5 ≤ x2 then x4 else (x4 + r5))), (5, .int x5)] [] σ5 := by
          exact V.sub [0, 1, 2, 3, 4] rfl (J6 _ (by rw [if_pos c6]) _ (by rw [if_pos c6]))
        refine v_icmp_le hC 58 dX4_leastAhead_48 (by decide) (fun c10 => ?_) (fun c10 => ?_)
        · rw [if_pos c10] at J10
          exact V.sub [1, 2, 3, 4, 5] rfl J10
        · refine v_iload hC 4 dX4_leastAhead_51 rfl ?_
          refine v_iload hC 0 dX4_leastAhead_53 rfl ?_
          refine v_iadd hC dX4_leastAhead_55 ?_
          refine v_istore hC dX4_leastAhead_56 (by decide) rfl ?_
          rw [if_neg c10] at J10
          exact V.sub [2, 3, 4, 0, 5] rfl J10
      · refine v_iload_n hC 3 dX4_leastAhead_37 rfl ?_
        refine v_iload hC 0 dX4_leastAhead_38 rfl ?_
        refine v_iadd hC dX4_leastAhead_40 ?_
        refine v_istore_n hC dX4_leastAhead_41 (by decide) rfl ?_
        refine v_goto hC 58 dX4_leastAhead_42 (by decide) ?_
        exact V.sub [2, 3, 0, 4, 5] rfl (J6 _ (by rw [if_neg c6]) _ (by rw [if_neg c6]))
set_option maxHeartbeats 4000000 in
set_option maxRecDepth 100000 in
theorem kS_leastAhead (x2 : Int32) (σ : gM) (Q : Int32 → gM → Prop) (h : wS_leastAhead x2 σ Q) : CT yX4_leastAhead cX4_leastAhead 7 (some .int) rmS_leastAhead (fun G => [.ref (gad G 35), .ref (gad G 42), .int x2]) σ (gPi Q) := by
  refine c_enter (by decide) (fun _ => Nat.le_of_ble_eq_true rfl) (fun X hC hR => ?_)
  show V X 7 0 [(0, .ref (xad X 35)), (1, .ref (xad X 42)), (2, .int x2)] [] σ
  replace h : ∃ n11 : Nat, wS_leastAhead_l8 Q n11 x2 (nI 0) (nI 0) (nI 0) σ := h
  refine v_iconst hC (nI 0) dX4_leastAhead_0 rfl ?_
  refine v_istore_n hC dX4_leastAhead_1 (by decide) rfl ?_
  refine v_iconst hC (nI 0) dX4_leastAhead_2 rfl ?_
  refine v_istore hC dX4_leastAhead_3 (by decide) rfl ?_
  refine v_iconst hC (nI 0) dX4_leastAhead_5 rfl ?_
  refine v_istore hC dX4_leastAhead_6 (by decide) rfl ?_
  obtain ⟨n11, h⟩ := h
  exact V.sub [4, 5, 2, 1, 0] rfl (tS_leastAhead_l8 hC hR  n11 _ _ _ _ _ h)
theorem cmS_leastAhead : CM yX4_leastAhead cX4_leastAhead 7 (some .int) rmS_leastAhead 2 := ⟨kw80, kw816, rfl, rfl, by decide, by decide, by decide +kernel⟩
def rmH_reach : Room := { frames := 3, cells := 0, slots := 0, locals := 88 }
def wH_reach (x1 : Int32) (x2 : Int32) (σ : gM) (Q : Int32 → gM → Prop) : Prop :=
    wH_isNoWare x1 σ (fun (r2 : Int32) (σ2 : gM) => (r2 = nI 0 → ((x2 < nI 0 → (Q (-1000001 : Int32) σ2)) ∧ (¬ (x2 < nI 0) → ((x2 ≤ (nI 1) → (wK42_placeOf x1 σ2 (fun (r7 : Int32) (σ7 : gM) => (r7 = (-1000000 : Int32) → (Q (-1000002 : Int32) σ7)) ∧ (¬ (r7 = (-1000000 : Int32)) → ((x2 = nI 0 → (wS_fewestTill r7 σ7 (fun (r11 : Int32) (σ11 : gM) => Q r11 σ11))) ∧ (¬ (x2 = nI 0) → (wS_leastAhead r7 σ7 (fun (r13 : Int32) (σ13 : gM) => Q r13 σ13)))))))) ∧ (¬ (x2 ≤ (nI 1)) → (Q (-1000001 : Int32) σ2)))))) ∧ (¬ (r2 = nI 0) → (Q (-1000001 : Int32) σ2)))
set_option maxHeartbeats 4000000 in
set_option maxRecDepth 100000 in
theorem kH_reach (x1 : Int32) (x2 : Int32) (σ : gM) (Q : Int32 → gM → Prop) (h : wH_reach x1 x2 σ Q) : CT yX6_reach cX6_reach 4 (some .int) rmH_reach (fun G => [.ref (gad G 0), .int x1, .int x2]) σ (gPi Q) := by
  refine c_enter (by decide) (fun _ => Nat.le_of_ble_eq_true rfl) (fun X hC hR => ?_)
  show V X 4 0 [(0, .ref (xad X 0)), (1, .int x1), (2, .int x2)] [] σ
  replace h : wH_isNoWare x1 σ (fun (r2 : Int32) (σ2 : gM) => (r2 = nI 0 → ((x2 < nI 0 → (Q (-1000001 : Int32) σ2)) ∧ (¬ (x2 < nI 0) → ((x2 ≤ (nI 1) → (wK42_placeOf x1 σ2 (fun (r7 : Int32) (σ7 : gM) => (r7 = (-1000000 : Int32) → (Q (-1000002 : Int32) σ7)) ∧ (¬ (r7 = (-1000000 : Int32)) → ((x2 = nI 0 → (wS_fewestTill r7 σ7 (fun (r11 : Int32) (σ11 : gM) => Q r11 σ11))) ∧ (¬ (x2 = nI 0) → (wS_leastAhead r7 σ7 (fun (r13 : Int32) (σ13 : gM) => Q r13 σ13)))))))) ∧ (¬ (x2 ≤ (nI 1)) → (Q (-1000001 : Int32) σ2)))))) ∧ (¬ (r2 = nI 0) → (Q (-1000001 : Int32) σ2))) := h
  refine v_aload_n hC 0 dX6_reach_0 rfl ?_
  refine v_iload_n hC 1 dX6_reach_1 rfl ?_
  refine v_callV hC (kH_isNoWare _ _ _ h) cmH_isNoWare ⟨kw679, kw20⟩ kw677 ⟨Nat.le_of_ble_eq_true rfl, Nat.le_of_ble_eq_true rfl⟩ (Nat.le_of_ble_eq_true rfl) rfl (ci := 6) (T := TX6) (N := 12) rfl (As := fun G => [.int x1]) (fun _ => rfl) (fun _ => rfl) (st := []) (Nat.le_of_ble_eq_true rfl) rfl dX6_reach_2 (kk_i (fun r2 σ2 h => ?_))
  refine v_if_ne hC 17 dX6_reach_5 (by decide) (fun c3 => ?_) (fun c3 => ?_)
  · replace h := h.2 c3
    refine v_ldc hC kw377 dX6_reach_17 ?_
    exact v_iret hC hR h dX6_reach_19
  · replace h := h.1 c3
    refine v_iload_n hC 2 dX6_reach_8 rfl ?_
    refine v_if_lt hC 17 dX6_reach_9 (by decide) (fun c4 => ?_) (fun c4 => ?_)
    · replace h := h.1 c4
      refine v_ldc hC kw377 dX6_reach_17 ?_
      exact v_iret hC hR h dX6_reach_19
    · replace h := h.2 c4
      refine v_iload_n hC 2 dX6_reach_12 rfl ?_
      refine v_iconst hC (nI 1) dX6_reach_13 rfl ?_
      refine v_icmp_le hC 20 dX6_reach_14 (by decide) (fun c5 => ?_) (fun c5 => ?_)
      · replace h := h.1 c5
        refine v_aload_n hC 0 dX6_reach_20 rfl ?_
        refine gf_X6_25 hC dX6_reach_21 ?_
        refine v_iload_n hC 1 dX6_reach_24 rfl ?_
        refine v_callV hC (kK42_placeOf _ _ _ h) cmK_placeOf ⟨kw682, kw683⟩ kw681 ⟨Nat.le_of_ble_eq_true rfl, Nat.le_of_ble_eq_true rfl⟩ (Nat.le_of_ble_eq_true rfl) rfl (ci := 2) (T := TX2) (N := 15) rfl (As := fun G => [.int x1]) (fun _ => rfl) (fun _ => rfl) (st := []) (Nat.le_of_ble_eq_true rfl) rfl dX6_reach_25 (kk_i (fun r7 σ7 h => ?_))
        refine v_istore_n hC dX6_reach_28 (by decide) rfl ?_
        refine v_iload_n hC 0 dX6_reach_29 rfl ?_
        refine v_ldc hC kw652 dX6_reach_30 ?_
        refine v_icmp_ne hC 38 dX6_reach_32 (by decide) (fun c8 => ?_) (fun c8 => ?_)
        · replace h := h.2 c8
          refine v_iload_n hC 3 dX6_reach_38 rfl ?_
          refine v_if_ne hC 57 dX6_reach_39 (by decide) (fun c9 => ?_) (fun c9 => ?_)
          · replace h := h.2 c9
            refine v_aload_n hC 1 dX6_reach_57 rfl ?_
            refine gf_X6_53 hC dX6_reach_58 ?_
            refine v_aload_n hC 1 dX6_reach_61 rfl ?_
            refine gf_X6_25 hC dX6_reach_62 ?_
            refine v_iload_n hC 0 dX6_reach_65 rfl ?_
            refine v_callV hC (kS_leastAhead _ _ _ h) cmS_leastAhead ⟨kw814, kw815⟩ kw813 ⟨Nat.le_of_ble_eq_true rfl, Nat.le_of_ble_eq_true rfl⟩ (Nat.le_of_ble_eq_true rfl) rfl (ci := 4) (T := TX4) (N := 4) rfl (As := fun G => [.ref (gad G 42), .int r7]) (fun _ => rfl) (fun _ => rfl) (st := []) (Nat.le_of_ble_eq_true rfl) rfl dX6_reach_66 (kk_i (fun r13 σ13 h => ?_))
            exact v_iret hC hR h dX6_reach_69
          · replace h := h.1 c9
            refine v_aload_n hC 1 dX6_reach_42 rfl ?_
            refine gf_X6_53 hC dX6_reach_43 ?_
            refine v_aload_n hC 1 dX6_reach_46 rfl ?_
            refine gf_X6_25 hC dX6_reach_47 ?_
            refine v_iload_n hC 0 dX6_reach_50 rfl ?_
            refine v_callV hC (kS_fewestTill _ _ _ h) cmS_fewestTill ⟨kw809, kw810⟩ kw808 ⟨Nat.le_of_ble_eq_true rfl, Nat.le_of_ble_eq_true rfl⟩ (Nat.le_of_ble_eq_true rfl) rfl (ci := 4) (T := TX4) (N := 4) rfl (As := fun G => [.ref (gad G 42), .int r7]) (fun _ => rfl) (fun _ => rfl) (st := []) (Nat.le_of_ble_eq_true rfl) rfl dX6_reach_51 (kk_i (fun r11 σ11 h => ?_))
            refine v_goto hC 69 dX6_reach_54 (by decide) ?_
            exact v_iret hC hR h dX6_reach_69
        · replace h := h.1 c8
          refine v_ldc hC kw598 dX6_reach_35 ?_
          exact v_iret hC hR h dX6_reach_37
      · replace h := h.2 c5
        refine v_ldc hC kw377 dX6_reach_17 ?_
        exact v_iret hC hR h dX6_reach_19
theorem cmH_reach : CM yX6_reach cX6_reach 4 (some .int) rmH_reach 2 := ⟨kw75, kw807, rfl, rfl, by decide, by decide, by decide +kernel⟩
def wJA_fill_36_l5 (Q : gM → Prop)  : Nat → Int32 → Int32 → Int32 → gM → Prop
  | 0, _, _, _, _ => False
  | n + 1, x1, x2, x3, σ =>
    (x3 ≤ x2 → (Q σ)) ∧ (¬ (x3 ≤ x2) → (vp_in x2 17 ∧ (∀ σ2 : gM, σ2 = gU σ 36 x2.toNatClampNeg x1 → (∀ x2_3 : Int32, x2_3 = x2 + (nI 1) → (wJA_fill_36_l5 Q n x1 x2_3 x3 σ2)))))
def wJA_fill_36 (x1 : Int32) (σ : gM) (Q : gM → Prop) : Prop :=
    ∃ n4 : Nat, wJA_fill_36_l5 Q n4 x1 (nI 0) (nI 17) σ
set_option maxHeartbeats 4000000 in
set_option maxRecDepth 100000 in
theorem tJA_fill_36_l5 {X : gX} {Q : gM → Prop} (hC : VC X cJ7_fill_53178 RJ7 4 rmJA_fill) (hR : VR X none (gPv Q))  : ∀ (n : Nat) (x1 : Int32) (x2 : Int32) (x3 : Int32) (σ : gM), wJA_fill_36_l5 Q  n x1 x2 x3 σ → V X 4 5 [(0, .ref (xad X 36)), (1, .int x1), (2, .int x2), (3, .int x3)] [] σ := by
  intro n
  induction n with
  | zero => intro x1 x2 x3 σ h; exact h.elim
  | succ n ih =>
    intro x1 x2 x3 σ h
    replace h : (x3 ≤ x2 → (Q σ)) ∧ (¬ (x3 ≤ x2) → (vp_in x2 17 ∧ (∀ σ2 : gM, σ2 = gU σ 36 x2.toNatClampNeg x1 → (∀ x2_3 : Int32, x2_3 = x2 + (nI 1) → (wJA_fill_36_l5 Q n x1 x2_3 x3 σ2))))) := h
    refine v_iload_n hC 2 dJ7_fill_53178_5 rfl ?_
    refine v_iload_n hC 3 dJ7_fill_53178_6 rfl ?_
    refine v_icmp_ge hC 20 dJ7_fill_53178_7 (by decide) (fun c1 => ?_) (fun c1 => ?_)
    · replace h := h.1 c1
      exact v_vret hC hR h dJ7_fill_53178_20
    · replace h := h.2 c1
      refine v_aload_n hC 0 dJ7_fill_53178_10 rfl ?_
      refine v_iload_n hC 2 dJ7_fill_53178_11 rfl ?_
      refine v_iload_n hC 1 dJ7_fill_53178_12 rfl ?_
      obtain ⟨hi2, h⟩ := h
      refine v_iast hC (Nat.le_of_ble_eq_true rfl) rfl rfl hi2 dJ7_fill_53178_13 (fun σ2 e2 => ?_)
      replace h := h σ2 e2
      refine v_iincN hC (nI 1) 2 dJ7_fill_53178_14 rfl rfl (by decide) (lo2 := fun x2_3 => [(2, .int x2_3), (0, .ref (xad X 36)), (1, .int x1), (3, .int x3)]) (fun _ => rfl) (fun x2_3 e3 => ?_)
      replace h := h x2_3 e3
      refine v_goto hC 5 dJ7_fill_53178_17 (by decide) ?_
      exact V.sub [1, 2, 0, 3] rfl (ih _ _ _ _ h)
set_option maxHeartbeats 4000000 in
set_option maxRecDepth 100000 in
theorem kJA_fill_36 (x1 : Int32) (σ : gM) (Q : gM → Prop) (h : wJA_fill_36 x1 σ Q) : CT yJ7_fill_53178 cJ7_fill_53178 4 none rmJA_fill (fun G => [.ref (gad G 36), .int x1]) σ (gPv Q) := by
  refine c_enter (by decide) (fun _ => Nat.le_of_ble_eq_true rfl) (fun X hC hR => ?_)
  show V X 4 0 [(0, .ref (xad X 36)), (1, .int x1)] [] σ
  replace h : ∃ n4 : Nat, wJA_fill_36_l5 Q n4 x1 (nI 0) (nI 17) σ := h
  refine v_iconst hC (nI 0) dJ7_fill_53178_0 rfl ?_
  refine v_istore_n hC dJ7_fill_53178_1 (by decide) rfl ?_
  refine v_aload_n hC 1 dJ7_fill_53178_2 rfl ?_
  refine v_alen hC (nI 17) (Nat.le_of_ble_eq_true rfl) rfl rfl dJ7_fill_53178_3 ?_
  refine v_istore_n hC dJ7_fill_53178_4 (by decide) rfl ?_
  obtain ⟨n4, h⟩ := h
  exact V.sub [2, 3, 1, 0] rfl (tJA_fill_36_l5 hC hR  n4 _ _ _ _ h)
def wJA_fill_37_l5 (Q : gM → Prop)  : Nat → Int32 → Int32 → Int32 → gM → Prop
  | 0, _, _, _, _ => False
  | n + 1, x1, x2, x3, σ =>
    (x3 ≤ x2 → (Q σ)) ∧ (¬ (x3 ≤ x2) → (vp_in x2 17 ∧ (∀ σ2 : gM, σ2 = gU σ 37 x2.toNatClampNeg x1 → (∀ x2_3 : Int32, x2_3 = x2 + (nI 1) → (wJA_fill_37_l5 Q n x1 x2_3 x3 σ2)))))
def wJA_fill_37 (x1 : Int32) (σ : gM) (Q : gM → Prop) : Prop :=
    ∃ n4 : Nat, wJA_fill_37_l5 Q n4 x1 (nI 0) (nI 17) σ
set_option maxHeartbeats 4000000 in
set_option maxRecDepth 100000 in
theorem tJA_fill_37_l5 {X : gX} {Q : gM → Prop} (hC : VC X cJ7_fill_53178 RJ7 4 rmJA_fill) (hR : VR X none (gPv Q))  : ∀ (n : Nat) (x1 : Int32) (x2 : Int32) (x3 : Int32) (σ : gM), wJA_fill_37_l5 Q  n x1 x2 x3 σ → V X 4 5 [(0, .ref (xad X 37)), (1, .int x1), (2, .int x2), (3, .int x3)] [] σ := by
  intro n
  induction n with
  | zero => intro x1 x2 x3 σ h; exact h.elim
  | succ n ih =>
    intro x1 x2 x3 σ h
    replace h : (x3 ≤ x2 → (Q σ)) ∧ (¬ (x3 ≤ x2) → (vp_in x2 17 ∧ (∀ σ2 : gM, σ2 = gU σ 37 x2.toNatClampNeg x1 → (∀ x2_3 : Int32, x2_3 = x2 + (nI 1) → (wJA_fill_37_l5 Q n x1 x2_3 x3 σ2))))) := h
    refine v_iload_n hC 2 dJ7_fill_53178_5 rfl ?_
    refine v_iload_n hC 3 dJ7_fill_53178_6 rfl ?_
    refine v_icmp_ge hC 20 dJ7_fill_53178_7 (by decide) (fun c1 => ?_) (fun c1 => ?_)
    · replace h := h.1 c1
      exact v_vret hC hR h dJ7_fill_53178_20
    · replace h := h.2 c1
      refine v_aload_n hC 0 dJ7_fill_53178_10 rfl ?_
      refine v_iload_n hC 2 dJ7_fill_53178_11 rfl ?_
      refine v_iload_n hC 1 dJ7_fill_53178_12 rfl ?_
      obtain ⟨hi2, h⟩ := h
      refine v_iast hC (Nat.le_of_ble_eq_true rfl) rfl rfl hi2 dJ7_fill_53178_13 (fun σ2 e2 => ?_)
      replace h := h σ2 e2
      refine v_iincN hC (nI 1) 2 dJ7_fill_53178_14 rfl rfl (by decide) (lo2 := fun x2_3 => [(2, .int x2_3), (0, .ref (xad X 37)), (1, .int x1), (3, .int x3)]) (fun _ => rfl) (fun x2_3 e3 => ?_)
      replace h := h x2_3 e3
      refine v_goto hC 5 dJ7_fill_53178_17 (by decide) ?_
      exact V.sub [1, 2, 0, 3] rfl (ih _ _ _ _ h)
set_option maxHeartbeats 4000000 in
set_option maxRecDepth 100000 in
theorem kJA_fill_37 (x1 : Int32) (σ : gM) (Q : gM → Prop) (h : wJA_fill_37 x1 σ Q) : CT yJ7_fill_53178 cJ7_fill_53178 4 none rmJA_fill (fun G => [.ref (gad G 37), .int x1]) σ (gPv Q) := by
  refine c_enter (by decide) (fun _ => Nat.le_of_ble_eq_true rfl) (fun X hC hR => ?_)
  show V X 4 0 [(0, .ref (xad X 37)), (1, .int x1)] [] σ
  replace h : ∃ n4 : Nat, wJA_fill_37_l5 Q n4 x1 (nI 0) (nI 17) σ := h
  refine v_iconst hC (nI 0) dJ7_fill_53178_0 rfl ?_
  refine v_istore_n hC dJ7_fill_53178_1 (by decide) rfl ?_
  refine v_aload_n hC 1 dJ7_fill_53178_2 rfl ?_
  refine v_alen hC (nI 17) (Nat.le_of_ble_eq_true rfl) rfl rfl dJ7_fill_53178_3 ?_
  refine v_istore_n hC dJ7_fill_53178_4 (by decide) rfl ?_
  obtain ⟨n4, h⟩ := h
  exact V.sub [2, 3, 1, 0] rfl (tJA_fill_37_l5 hC hR  n4 _ _ _ _ h)
def rmS_harvestFor : Room := { frames := 3, cells := 0, slots := 0, locals := 86 }
def wS_harvestFor_l37 (Q : gM → Prop) (K18 : Int32 → Int32 → gM → Prop) : Nat → Int32 → Int32 → Int32 → Int32 → gM → Prop
  | 0, _, _, _, _, _ => False
  | n + 1, x2, x3, x4, x5, σ =>
    ((σ 42 5) < (x5 + x3) → (∀ x3_8 : Int32, x3_8 = x3 + (nI 1) → (K18 x2 x3_8 σ))) ∧ (¬ ((σ 42 5) < (x5 + x3)) → (vp_in ((x5 + x3) - (nI 1)) 16 ∧ (∀ x6_10 : Int32, x6_10 = (σ 51 ((x5 + x3) - (nI 1)).toNatClampNeg) → (vp_in x5 16 ∧ (wK42_valueTo x2 (σ 51 x5.toNatClampNeg) x4 σ (fun (r13 : Int32) (σ13 : gM) => vp_in (x5 + (nI 1)) 17 ∧ (∀ x7_15 : Int32, x7_15 = (r13 + (σ13 36 (x5 + (nI 1)).toNatClampNeg)) → (wK42_valueTo x2 x6_10 x4 σ13 (fun (r17 : Int32) (σ17 : gM) => vp_in x5 17 ∧ (∀ x8_19 : Int32, x8_19 = (r17 + (σ17 36 x5.toNatClampNeg)) → (((x8_19 ≤ x7_15 → (vp_in (x5 + (nI 1)) 17 ∧ True)) ∧ (¬ (x8_19 ≤ x7_15) → (vp_in x5 17 ∧ True))) ∧ (∀ v23 : Int32, v23 = (if x8_19 ≤ x7_15 then (((σ17 37 (x5 + (nI 1)).toNatClampNeg) <<< ((nI 1) &&& 31)) ||| (nI 0)) else (((σ17 37 x5.toNatClampNeg) <<< ((nI 1) &&& 31)) ||| (nI 1))) → (vp_in x5 17 ∧ (∀ σ24 : gM, σ24 = gU σ17 37 x5.toNatClampNeg v23 → (vp_in x5 17 ∧ (∀ σ26 : gM, σ26 = gU σ24 36 x5.toNatClampNeg (if x7_15 < x8_19 then x8_19 else x7_15) → (∀ x5_27 : Int32, x5_27 = x5 + (nI 1) → (wS_harvestFor_l37 Q K18 n x2 x3 x4 x5_27 σ26))))))))))))))))))
def wS_harvestFor_l18 (Q : gM → Prop)  : Nat → Int32 → Int32 → gM → Prop
  | 0, _, _, _ => False
  | n + 1, x2, x3, σ =>
    ((σ 42 5) < x3 → (Q σ)) ∧ (¬ ((σ 42 5) < x3) → (∀ x4_6 : Int32, x4_6 = ((σ 42 5) - x3) → (∃ n30 : Nat, wS_harvestFor_l37 Q (wS_harvestFor_l18 Q n) n30 x2 x3 x4_6 (nI 0) σ)))
def wS_harvestFor (x2 : Int32) (σ : gM) (Q : gM → Prop) : Prop :=
    wJA_fill_36 (nI 0) σ (fun (σ2 : gM) => wJA_fill_37 (nI 0) σ2 (fun (σ4 : gM) => ∃ n31 : Nat, wS_harvestFor_l18 Q n31 x2 (nI 1) σ4))
set_option maxHeartbeats 4000000 in
set_option maxRecDepth 100000 in
theorem tS_harvestFor_l37 {X : gX} {Q : gM → Prop} (hC : VC X cX4_harvestFor RX4 9 rmS_harvestFor) (hR : VR X none (gPv Q)) {K18 : Int32 → Int32 → gM → Prop} (hK18 : ∀ (x2 : Int32) (x3 : Int32) (σ : gM), K18 x2 x3 σ → V X 9 18 [(0, .ref (xad X 35)), (1, .ref (xad X 42)), (2, .int x2), (3, .int x3)] [] σ) : ∀ (n : Nat) (x2 : Int32) (x3 : Int32) (x4 : Int32) (x5 : Int32) (σ : gM), wS_harvestFor_l37 Q K18 n x2 x3 x4 x5 σ → V X 9 37 [(0, .ref (xad X 35)), (1, .ref (xad X 42)), (2, .int x2), (3, .int x3), (4, .int x4), (5, .int x5)] [] σ := by
  intro n
  induction n with
  | zero => intro x2 x3 x4 x5 σ h; exact h.elim
  | succ n ih =>
    intro x2 x3 x4 x5 σ h
    replace h : ((σ 42 5) < (x5 + x3) → (∀ x3_8 : Int32, x3_8 = x3 + (nI 1) → (K18 x2 x3_8 σ))) ∧ (¬ ((σ 42 5) < (x5 + x3)) → (vp_in ((x5 + x3) - (nI 1)) 16 ∧ (∀ x6_10 : Int32, x6_10 = (σ 51 ((x5 + x3) - (nI 1)).toNatClampNeg) → (vp_in x5 16 ∧ (wK42_valueTo x2 (σ 51 x5.toNatClampNeg) x4 σ (fun (r13 : Int32) (σ13 : gM) => vp_in (x5 + (nI 1)) 17 ∧ (∀ x7_15 : Int32, x7_15 = (r13 + (σ13 36 (x5 + (nI 1)).toNatClampNeg)) → (wK42_valueTo x2 x6_10 x4 σ13 (fun (r17 : Int32) (σ17 : gM) => vp_in x5 17 ∧ (∀ x8_19 : Int32, x8_19 = (r17 + (σ17 36 x5.toNatClampNeg)) → (((x8_19 ≤ x7_15 → (vp_in (x5 + (nI 1)) 17 ∧ True)) ∧ (¬ (x8_19 ≤ x7_15) → (vp_in x5 17 ∧ True))) ∧ (∀ v23 : Int32, v23 = (if x8_19 ≤ x7_15 then (((σ17 37 (x5 + (nI 1)).toNatClampNeg) <<< ((nI 1) &&& 31)) ||| (nI 0)) else (((σ17 37 x5.toNatClampNeg) <<< ((nI 1) &&& 31)) ||| (nI 1))) → (vp_in x5 17 ∧ (∀ σ24 : gM, σ24 = gU σ17 37 x5.toNatClampNeg v23 → (vp_in x5 17 ∧ (∀ σ26 : gM, σ26 = gU σ24 36 x5.toNatClampNeg (if x7_15 < x8_19 then x8_19 else x7_15) → (∀ x5_27 : Int32, x5_27 = x5 + (nI 1) → (wS_harvestFor_l37 Q K18 n x2 x3 x4 x5_27 σ26)))))))))))))))))) := h
    refine v_iload hC 5 dX4_harvestFor_37 rfl ?_
    refine v_iload_n hC 3 dX4_harvestFor_39 rfl ?_
    refine v_iadd hC dX4_harvestFor_40 ?_
    refine v_aload_n hC 1 dX4_harvestFor_41 rfl ?_
    refine gf_X4_24_42 hC dX4_harvestFor_42 ?_
    refine v_icmp_gt hC 167 dX4_harvestFor_45 (by decide) (fun c7 => ?_) (fun c7 => ?_)
    · replace h := h.1 c7
      refine v_iincN hC (nI 1) 3 dX4_harvestFor_167 rfl rfl (by decide) (lo2 := fun x3_8 => [(3, .int x3_8), (0, .ref (xad X 35)), (1, .ref (xad X 42)), (2, .int x2), (4, .int x4), (5, .int x5)]) (fun _ => rfl) (fun x3_8 e8 => ?_)
      replace h := h x3_8 e8
      refine v_goto hC 18 dX4_harvestFor_170 (by decide) ?_
      exact V.sub [1, 2, 3, 0] rfl (hK18 _ _ _ h)
    · replace h := h.2 c7
      refine v_aload_n hC 1 dX4_harvestFor_48 rfl ?_
      refine gf_X4_35_42 hC dX4_harvestFor_49 ?_
      refine v_iload hC 5 dX4_harvestFor_52 rfl ?_
      refine v_iload_n hC 3 dX4_harvestFor_54 rfl ?_
      refine v_iadd hC dX4_harvestFor_55 ?_
      refine v_iconst hC (nI 1) dX4_harvestFor_56 rfl ?_
      refine v_isub hC dX4_harvestFor_57 ?_
      obtain ⟨hi9, h⟩ := h
      refine v_iald hC (Nat.le_of_ble_eq_true rfl) rfl rfl hi9 dX4_harvestFor_58 ?_
      refine v_istoreN hC dX4_harvestFor_59 (by decide) (lo2 := fun x6_10 => [(6, .int x6_10), (0, .ref (xad X 35)), (1, .ref (xad X 42)), (2, .int x2), (3, .int x3), (4, .int x4), (5, .int x5)]) (fun _ => rfl) (fun x6_10 e10 => ?_)
      replace h := h x6_10 e10
      refine v_aload_n hC 2 dX4_harvestFor_61 rfl ?_
      refine v_iload_n hC 3 dX4_harvestFor_62 rfl ?_
      refine v_aload_n hC 2 dX4_harvestFor_63 rfl ?_
      refine gf_X4_35_42 hC dX4_harvestFor_64 ?_
      refine v_iload hC 6 dX4_harvestFor_67 rfl ?_
      obtain ⟨hi11, h⟩ := h
      refine v_iald hC (Nat.le_of_ble_eq_true rfl) rfl rfl hi11 dX4_harvestFor_69 ?_
      refine v_iload hC 5 dX4_harvestFor_70 rfl ?_
      refine v_callV hC (kK42_valueTo _ _ _ _ _ h) cmK_valueTo ⟨kw626, kw627⟩ kw788 ⟨Nat.le_of_ble_eq_true rfl, Nat.le_of_ble_eq_true rfl⟩ (Nat.le_of_ble_eq_true rfl) rfl (ci := 2) (T := TX2) (N := 15) rfl (As := fun G => [.int x2, .int (σ 51 x5.toNatClampNeg), .int x4]) (fun _ => rfl) (fun _ => rfl) (st := []) (Nat.le_of_ble_eq_true rfl) rfl dX4_harvestFor_72 (kk_i (fun r13 σ13 h => ?_))
      refine v_aload_n hC 1 dX4_harvestFor_75 rfl ?_
      refine gf_X4_9 hC dX4_harvestFor_76 ?_
      refine v_iload hC 6 dX4_harvestFor_79 rfl ?_
      refine v_iconst hC (nI 1) dX4_harvestFor_81 rfl ?_
      refine v_iadd hC dX4_harvestFor_82 ?_
      obtain ⟨hi14, h⟩ := h
      refine v_iald hC (Nat.le_of_ble_eq_true rfl) rfl rfl hi14 dX4_harvestFor_83 ?_
      refine v_iadd hC dX4_harvestFor_84 ?_
      refine v_istoreN hC dX4_harvestFor_85 (by decide) (lo2 := fun x7_15 => [(7, .int x7_15), (6, .int x6_10), (0, .ref (xad X 35)), (1, .ref (xad X 42)), (2, .int x2), (3, .int x3), (4, .int x4), (5, .int x5)]) (fun _ => rfl) (fun x7_15 e15 => ?_)
      replace h := h x7_15 e15
      refine v_aload_n hC 3 dX4_harvestFor_87 rfl ?_
      refine v_iload_n hC 4 dX4_harvestFor_88 rfl ?_
      refine v_iload hC 1 dX4_harvestFor_89 rfl ?_
      refine v_iload hC 6 dX4_harvestFor_91 rfl ?_
      refine v_callV hC (kK42_valueTo _ _ _ _ _ h) cmK_valueTo ⟨kw626, kw627⟩ kw788 ⟨Nat.le_of_ble_eq_true rfl, Nat.le_of_ble_eq_true rfl⟩ (Nat.le_of_ble_eq_true rfl) rfl (ci := 2) (T := TX2) (N := 15) rfl (As := fun G => [.int x2, .int x6_10, .int x4]) (fun _ => rfl) (fun _ => rfl) (st := []) (Nat.le_of_ble_eq_true rfl) rfl dX4_harvestFor_93 (kk_i (fun r17 σ17 h => ?_))
      refine v_aload_n hC 2 dX4_harvestFor_96 rfl ?_
      refine gf_X4_9 hC dX4_harvestFor_97 ?_
      refine v_iload hC 7 dX4_harvestFor_100 rfl ?_
      obtain ⟨hi18, h⟩ := h
      refine v_iald hC (Nat.le_of_ble_eq_true rfl) rfl rfl hi18 dX4_harvestFor_102 ?_
      refine v_iadd hC dX4_harvestFor_103 ?_
      refine v_istoreN hC dX4_harvestFor_104 (by decide) (lo2 := fun x8_19 => [(8, .int x8_19), (7, .int x7_15), (6, .int x6_10), (0, .ref (xad X 35)), (1, .ref (xad X 42)), (2, .int x2), (3, .int x3), (4, .int x4), (5, .int x5)]) (fun _ => rfl) (fun x8_19 e19 => ?_)
      replace h := h x8_19 e19
      refine v_aload_n hC 3 dX4_harvestFor_106 rfl ?_
      refine gf_X4_15 hC dX4_harvestFor_107 ?_
      refine v_iload hC 8 dX4_harvestFor_110 rfl ?_
      refine v_iload hC 0 dX4_harvestFor_112 rfl ?_
      refine v_iload hC 1 dX4_harvestFor_114 rfl ?_
      obtain ⟨hO20, h⟩ := h
      have J20 : ∀ (v23 : Int32) (ev23 : v23 = (if x8_19 ≤ x7_15 then (((σ17 37 (x5 + (nI 1)).toNatClampNeg) <<< ((nI 1) &&& 31)) ||| (nI 0)) else (((σ17 37 x5.toNatClampNeg) <<< ((nI 1) &&& 31)) ||| (nI 1)))), V X 9 146 [(0, .ref (xad X 35)), (1, .ref (xad X 42)), (2, .int x2), (3, .int x3), (4, .int x4), (5, .int x5), (7, .int x7_15), (8, .int x8_19)] [.int v23, .int x5, .ref (xad X 37)] σ17 := by
        intro v23 ev23
        replace h := h v23 ev23
        obtain ⟨hi24, h⟩ := h
        refine v_iast hC (Nat.le_of_ble_eq_true rfl) rfl rfl hi24 dX4_harvestFor_146 (fun σ24 e24 => ?_)
        replace h := h σ24 e24
        refine v_aload_n hC 0 dX4_harvestFor_147 rfl ?_
        refine gf_X4_9 hC dX4_harvestFor_148 ?_
        refine v_iload hC 5 dX4_harvestFor_151 rfl ?_
        refine v_iload hC 6 dX4_harvestFor_153 rfl ?_
        refine v_iload hC 7 dX4_harvestFor_155 rfl ?_
        refine v_mmax hC kw789 kw611 kw89 kw612 (Nat.le_of_ble_eq_true rfl) (Nat.le_of_ble_eq_true rfl) dX4_harvestFor_157 ?_
        obtain ⟨hi26, h⟩ := h
        refine v_iast hC (Nat.le_of_ble_eq_true rfl) rfl rfl hi26 dX4_harvestFor_160 (fun σ26 e26 => ?_)
        replace h := h σ26 e26
        refine v_iincN hC (nI 1) 5 dX4_harvestFor_161 rfl rfl (by decide) (lo2 := fun x5_27 => [(5, .int x5_27), (0, .ref (xad X 35)), (1, .ref (xad X 42)), (2, .int x2), (3, .int x3), (4, .int x4), (7, .int x7_15), (8, .int x8_19)]) (fun _ => rfl) (fun x5_27 e27 => ?_)
        replace h := h x5_27 e27
        refine v_goto hC 37 dX4_harvestFor_164 (by decide) ?_
        exact V.sub [1, 2, 3, 4, 5, 0] rfl (ih _ _ _ _ _ h)
      refine v_icmp_le hC 133 dX4_harvestFor_116 (by decide) (fun c20 => ?_) (fun c20 => ?_)
      · replace h := hO20.1 c20
        refine v_aload_n hC 3 dX4_harvestFor_133 rfl ?_
        refine gf_X4_15 hC dX4_harvestFor_134 ?_
        refine v_iload hC 8 dX4_harvestFor_137 rfl ?_
        refine v_iconst hC (nI 1) dX4_harvestFor_139 rfl ?_
        refine v_iadd hC dX4_harvestFor_140 ?_
        obtain ⟨hi28, h⟩ := h
        refine v_iald hC (Nat.le_of_ble_eq_true rfl) rfl rfl hi28 dX4_harvestFor_141 ?_
        refine v_iconst hC (nI 1) dX4_harvestFor_142 rfl ?_
        refine v_ishl hC dX4_harvestFor_143 ?_
        refine v_iconst hC (nI 0) dX4_harvestFor_144 rfl ?_
        refine v_ior hC dX4_harvestFor_145 ?_
        exact V.sub [3, 4, 5, 6, 7, 8, 1, 0] rfl (J20 _ (by rw [if_pos c20]))
      · replace h := hO20.2 c20
        refine v_aload_n hC 3 dX4_harvestFor_119 rfl ?_
        refine gf_X4_15 hC dX4_harvestFor_120 ?_
        refine v_iload hC 8 dX4_harvestFor_123 rfl ?_
        obtain ⟨hi29, h⟩ := h
        refine v_iald hC (Nat.le_of_ble_eq_true rfl) rfl rfl hi29 dX4_harvestFor_125 ?_
        refine v_iconst hC (nI 1) dX4_harvestFor_126 rfl ?_
        refine v_ishl hC dX4_harvestFor_127 ?_
        refine v_iconst hC (nI 1) dX4_harvestFor_128 rfl ?_
        refine v_ior hC dX4_harvestFor_129 ?_
        refine v_goto hC 146 dX4_harvestFor_130 (by decide) ?_
        exact V.sub [3, 4, 5, 6, 7, 8, 1, 0] rfl (J20 _ (by rw [if_neg c20]))
set_option maxHeartbeats 4000000 in
set_option maxRecDepth 100000 in
theorem tS_harvestFor_l18 {X : gX} {Q : gM → Prop} (hC : VC X cX4_harvestFor RX4 9 rmS_harvestFor) (hR : VR X none (gPv Q))  : ∀ (n : Nat) (x2 : Int32) (x3 : Int32) (σ : gM), wS_harvestFor_l18 Q  n x2 x3 σ → V X 9 18 [(0, .ref (xad X 35)), (1, .ref (xad X 42)), (2, .int x2), (3, .int x3)] [] σ := by
  intro n
  induction n with
  | zero => intro x2 x3 σ h; exact h.elim
  | succ n ih =>
    intro x2 x3 σ h
    replace h : ((σ 42 5) < x3 → (Q σ)) ∧ (¬ ((σ 42 5) < x3) → (∀ x4_6 : Int32, x4_6 = ((σ 42 5) - x3) → (∃ n30 : Nat, wS_harvestFor_l37 Q (wS_harvestFor_l18 Q n) n30 x2 x3 x4_6 (nI 0) σ))) := h
    refine v_iload_n hC 3 dX4_harvestFor_18 rfl ?_
    refine v_aload_n hC 1 dX4_harvestFor_19 rfl ?_
    refine gf_X4_24_42 hC dX4_harvestFor_20 ?_
    refine v_icmp_gt hC 173 dX4_harvestFor_23 (by decide) (fun c5 => ?_) (fun c5 => ?_)
    · replace h := h.1 c5
      exact v_vret hC hR h dX4_harvestFor_173
    · replace h := h.2 c5
      refine v_aload_n hC 1 dX4_harvestFor_26 rfl ?_
      refine gf_X4_24_42 hC dX4_harvestFor_27 ?_
      refine v_iload_n hC 3 dX4_harvestFor_30 rfl ?_
      refine v_isub hC dX4_harvestFor_31 ?_
      refine v_istoreN hC dX4_harvestFor_32 (by decide) (lo2 := fun x4_6 => [(4, .int x4_6), (0, .ref (xad X 35)), (1, .ref (xad X 42)), (2, .int x2), (3, .int x3)]) (fun _ => rfl) (fun x4_6 e6 => ?_)
      replace h := h x4_6 e6
      refine v_iconst hC (nI 0) dX4_harvestFor_34 rfl ?_
      refine v_istore hC dX4_harvestFor_35 (by decide) rfl ?_
      obtain ⟨n30, h⟩ := h
      exact V.sub [2, 3, 4, 5, 1, 0] rfl (tS_harvestFor_l37 hC hR ih n30 _ _ _ _ _ h)
set_option maxHeartbeats 4000000 in
set_option maxRecDepth 100000 in
theorem kS_harvestFor (x2 : Int32) (σ : gM) (Q : gM → Prop) (h : wS_harvestFor x2 σ Q) : CT yX4_harvestFor cX4_harvestFor 9 none rmS_harvestFor (fun G => [.ref (gad G 35), .ref (gad G 42), .int x2]) σ (gPv Q) := by
  refine c_enter (by decide) (fun _ => Nat.le_of_ble_eq_true rfl) (fun X hC hR => ?_)
  show V X 9 0 [(0, .ref (xad X 35)), (1, .ref (xad X 42)), (2, .int x2)] [] σ
  replace h : wJA_fill_36 (nI 0) σ (fun (σ2 : gM) => wJA_fill_37 (nI 0) σ2 (fun (σ4 : gM) => ∃ n31 : Nat, wS_harvestFor_l18 Q n31 x2 (nI 1) σ4)) := h
  refine v_aload_n hC 0 dX4_harvestFor_0 rfl ?_
  refine gf_X4_9 hC dX4_harvestFor_1 ?_
  refine v_iconst hC (nI 0) dX4_harvestFor_4 rfl ?_
  refine v_callS hC (kJA_fill_36 _ _ _ h) cmJA_fill kw388 kw826 ⟨Nat.le_of_ble_eq_true rfl, Nat.le_of_ble_eq_true rfl⟩ (fun _ => rfl) (st := []) (Nat.le_of_ble_eq_true rfl) rfl dX4_harvestFor_5 (kk_v (fun σ2 h => ?_))
  refine v_aload_n hC 0 dX4_harvestFor_8 rfl ?_
  refine gf_X4_15 hC dX4_harvestFor_9 ?_
  refine v_iconst hC (nI 0) dX4_harvestFor_12 rfl ?_
  refine v_callS hC (kJA_fill_37 _ _ _ h) cmJA_fill kw388 kw826 ⟨Nat.le_of_ble_eq_true rfl, Nat.le_of_ble_eq_true rfl⟩ (fun _ => rfl) (st := []) (Nat.le_of_ble_eq_true rfl) rfl dX4_harvestFor_13 (kk_v (fun σ4 h => ?_))
  refine v_iconst hC (nI 1) dX4_harvestFor_16 rfl ?_
  refine v_istore_n hC dX4_harvestFor_17 (by decide) rfl ?_
  obtain ⟨n31, h⟩ := h
  exact V.sub [1, 2, 3, 0] rfl (tS_harvestFor_l18 hC hR  n31 _ _ _ h)
theorem cmS_harvestFor : CM yX4_harvestFor cX4_harvestFor 9 none rmS_harvestFor 2 := ⟨kw80, kw825, rfl, rfl, by decide, by decide, by decide +kernel⟩
def rmH_harvest : Room := { frames := 4, cells := 0, slots := 0, locals := 114 }
def wH_harvest (x1 : Int32) (x2 : Int32) (σ : gM) (Q : Int32 → gM → Prop) : Prop :=
    wH_isNoBuyer x1 σ (fun (r2 : Int32) (σ2 : gM) => (r2 = nI 0 → (((-1 : Int32) ≤ x2 → ((x2 < (σ2 42 5) → (wS_harvestFor x1 σ2 (fun (σ7 : gM) => ∀ v11 : Int32, v11 = (if nI 0 ≤ x2 then (((σ7 37 0) >>> (x2 &&& 31)) &&& (nI 1)) else (σ7 36 0)) → (Q v11 σ7)))) ∧ (¬ (x2 < (σ2 42 5)) → (Q (-1000000 : Int32) σ2)))) ∧ (¬ ((-1 : Int32) ≤ x2) → (Q (-1000001 : Int32) σ2)))) ∧ (¬ (r2 = nI 0) → (Q (-1000001 : Int32) σ2)))
set_option maxHeartbeats 4000000 in
set_option maxRecDepth 100000 in
theorem kH_harvest (x1 : Int32) (x2 : Int32) (σ : gM) (Q : Int32 → gM → Prop) (h : wH_harvest x1 x2 σ Q) : CT yX6_harvest cX6_harvest 3 (some .int) rmH_harvest (fun G => [.ref (gad G 0), .int x1, .int x2]) σ (gPi Q) := by
  refine c_enter (by decide) (fun _ => Nat.le_of_ble_eq_true rfl) (fun X hC hR => ?_)
  show V X 3 0 [(0, .ref (xad X 0)), (1, .int x1), (2, .int x2)] [] σ
  replace h : wH_isNoBuyer x1 σ (fun (r2 : Int32) (σ2 : gM) => (r2 = nI 0 → (((-1 : Int32) ≤ x2 → ((x2 < (σ2 42 5) → (wS_harvestFor x1 σ2 (fun (σ7 : gM) => ∀ v11 : Int32, v11 = (if nI 0 ≤ x2 then (((σ7 37 0) >>> (x2 &&& 31)) &&& (nI 1)) else (σ7 36 0)) → (Q v11 σ7)))) ∧ (¬ (x2 < (σ2 42 5)) → (Q (-1000000 : Int32) σ2)))) ∧ (¬ ((-1 : Int32) ≤ x2) → (Q (-1000001 : Int32) σ2)))) ∧ (¬ (r2 = nI 0) → (Q (-1000001 : Int32) σ2))) := h
  refine v_aload_n hC 0 dX6_harvest_0 rfl ?_
  refine v_iload_n hC 1 dX6_harvest_1 rfl ?_
  refine v_callV hC (kH_isNoBuyer _ _ _ h) cmH_isNoBuyer ⟨kw592, kw17⟩ kw590 ⟨Nat.le_of_ble_eq_true rfl, Nat.le_of_ble_eq_true rfl⟩ (Nat.le_of_ble_eq_true rfl) rfl (ci := 6) (T := TX6) (N := 12) rfl (As := fun G => [.int x1]) (fun _ => rfl) (fun _ => rfl) (st := []) (Nat.le_of_ble_eq_true rfl) rfl dX6_harvest_2 (kk_i (fun r2 σ2 h => ?_))
  refine v_if_ne hC 13 dX6_harvest_5 (by decide) (fun c3 => ?_) (fun c3 => ?_)
  · replace h := h.2 c3
    refine v_ldc hC kw377 dX6_harvest_13 ?_
    exact v_iret hC hR h dX6_harvest_15
  · replace h := h.1 c3
    refine v_iload_n hC 2 dX6_harvest_8 rfl ?_
    refine v_iconst hC (-1 : Int32) dX6_harvest_9 rfl ?_
    refine v_icmp_ge hC 16 dX6_harvest_10 (by decide) (fun c4 => ?_) (fun c4 => ?_)
    · replace h := h.1 c4
      refine v_iload_n hC 2 dX6_harvest_16 rfl ?_
      refine v_aload_n hC 0 dX6_harvest_17 rfl ?_
      refine gf_X6_25 hC dX6_harvest_18 ?_
      refine gf_X6_148_42 hC dX6_harvest_21 ?_
      refine v_icmp_lt hC 30 dX6_harvest_24 (by decide) (fun c5 => ?_) (fun c5 => ?_)
      · replace h := h.1 c5
        refine v_aload_n hC 0 dX6_harvest_30 rfl ?_
        refine gf_X6_53 hC dX6_harvest_31 ?_
        refine v_aload_n hC 0 dX6_harvest_34 rfl ?_
        refine gf_X6_25 hC dX6_harvest_35 ?_
        refine v_iload_n hC 1 dX6_harvest_38 rfl ?_
        refine v_callV hC (kS_harvestFor _ _ _ h) cmS_harvestFor ⟨kw823, kw824⟩ kw822 ⟨Nat.le_of_ble_eq_true rfl, Nat.le_of_ble_eq_true rfl⟩ (Nat.le_of_ble_eq_true rfl) rfl (ci := 4) (T := TX4) (N := 4) rfl (As := fun G => [.ref (gad G 42), .int x1]) (fun _ => rfl) (fun _ => rfl) (st := []) (Nat.le_of_ble_eq_true rfl) rfl dX6_harvest_39 (kk_v (fun σ7 h => ?_))
        refine v_iload_n hC 2 dX6_harvest_42 rfl ?_
        have J8 : ∀ (v11 : Int32) (ev11 : v11 = (if nI 0 ≤ x2 then (((σ7 37 0) >>> (x2 &&& 31)) &&& (nI 1)) else (σ7 36 0))), V X 3 71 [] [.int v11] σ7 := by
          intro v11 ev11
          replace h := h v11 ev11
          exact v_iret hC hR h dX6_harvest_71
        refine v_if_ge hC 58 dX6_harvest_43 (by decide) (fun c8 => ?_) (fun c8 => ?_)
        · refine v_aload_n hC 0 dX6_harvest_58 rfl ?_
          refine gf_X6_53 hC dX6_harvest_59 ?_
          refine gf_X6_308 hC dX6_harvest_62 ?_
          refine v_iconst hC (nI 0) dX6_harvest_65 rfl ?_
          refine v_iald hC (Nat.le_of_ble_eq_true rfl) rfl (j := 0) (by decide) (by unfold vp_in; decide) dX6_harvest_66 ?_
          refine v_iload_n hC 2 dX6_harvest_67 rfl ?_
          refine v_ishr hC dX6_harvest_68 ?_
          refine v_iconst hC (nI 1) dX6_harvest_69 rfl ?_
          refine v_iand hC dX6_harvest_70 ?_
          exact V.sub [] rfl (J8 _ (by rw [if_pos c8]))
        · refine v_aload_n hC 0 dX6_harvest_46 rfl ?_
          refine gf_X6_53 hC dX6_harvest_47 ?_
          refine gf_X6_305 hC dX6_harvest_50 ?_
          refine v_iconst hC (nI 0) dX6_harvest_53 rfl ?_
          refine v_iald hC (Nat.le_of_ble_eq_true rfl) rfl (j := 0) (by decide) (by unfold vp_in; decide) dX6_harvest_54 ?_
          refine v_goto hC 71 dX6_harvest_55 (by decide) ?_
          exact V.sub [] rfl (J8 _ (by rw [if_neg c8]))
      · replace h := h.2 c5
        refine v_ldc hC kw652 dX6_harvest_27 ?_
        exact v_iret hC hR h dX6_harvest_29
    · replace h := h.2 c4
      refine v_ldc hC kw377 dX6_harvest_13 ?_
      exact v_iret hC hR h dX6_harvest_15
theorem cmH_harvest : CM yX6_harvest cX6_harvest 3 (some .int) rmH_harvest 2 := ⟨kw75, kw821, rfl, rfl, by decide, by decide, by decide +kernel⟩
