def rmH_heard : Room := { frames := 5, cells := 0, slots := 0, locals := 142 }
def wH_heard (x1 : Int32) (x2 : Int32) (x3 : Int32) (x4 : Int32) (x5 : Int32) (σ : gM) (Q : Int32 → gM → Prop) : Prop :=
    wH_isNoBuyer x1 σ (fun (r2 : Int32) (σ2 : gM) => (r2 = nI 0 → (wH_isNoRow x2 σ2 (fun (r5 : Int32) (σ5 : gM) => (r5 = nI 0 → ((x4 < (nI 1) → (Q (-1000001 : Int32) σ5)) ∧ (¬ (x4 < (nI 1)) → (((nI 10) < x4 → (Q (-1000001 : Int32) σ5)) ∧ (¬ ((nI 10) < x4) → ((x5 < nI 0 → (Q (-1000001 : Int32) σ5)) ∧ (¬ (x5 < nI 0) → ((x5 ≤ (nI 1) → (wH_findingOf x2 x3 x4 σ5 (fun (r12 : Int32) (σ12 : gM) => (r12 = nI 0 → (vp_in x2 8 ∧ (wS_hear_row x2.toNatClampNeg x1 x3 x4 σ12 (fun (σ16 : gM) => (x5 = nI 0 → (wS_waysOf x4 σ16 (fun (r19 : Int32) (σ19 : gM) => wH_unfound r19 σ19 (fun (r21 : Int32) (σ21 : gM) => Q r21 σ21)))) ∧ (¬ (x5 = nI 0) → (wS_surelyTaken x4 σ16 (fun (r23 : Int32) (σ23 : gM) => wH_unfound r23 σ23 (fun (r25 : Int32) (σ25 : gM) => Q r25 σ25)))))))) ∧ (¬ (r12 = nI 0) → (wH_found r12 σ12 (fun (r27 : Int32) (σ27 : gM) => Q r27 σ27)))))) ∧ (¬ (x5 ≤ (nI 1)) → (Q (-1000001 : Int32) σ5)))))))))) ∧ (¬ (r5 = nI 0) → (Q (-1000001 : Int32) σ5))))) ∧ (¬ (r2 = nI 0) → (Q (-1000001 : Int32) σ2)))
set_option maxHeartbeats 4000000 in
set_option maxRecDepth 100000 in
theorem kH_heard (x1 : Int32) (x2 : Int32) (x3 : Int32) (x4 : Int32) (x5 : Int32) (σ : gM) (Q : Int32 → gM → Prop) (h : wH_heard x1 x2 x3 x4 x5 σ Q) : CT yX6_heard cX6_heard 7 (some .int) rmH_heard (fun G => [.ref (gad G 0), .int x1, .int x2, .int x3, .int x4, .int x5]) σ (gPi Q) := by
  refine c_enter (by decide) (fun _ => Nat.le_of_ble_eq_true rfl) (fun X hC hR => ?_)
  show V X 7 0 [(0, .ref (xad X 0)), (1, .int x1), (2, .int x2), (3, .int x3), (4, .int x4), (5, .int x5)] [] σ
  replace h : wH_isNoBuyer x1 σ (fun (r2 : Int32) (σ2 : gM) => (r2 = nI 0 → (wH_isNoRow x2 σ2 (fun (r5 : Int32) (σ5 : gM) => (r5 = nI 0 → ((x4 < (nI 1) → (Q (-1000001 : Int32) σ5)) ∧ (¬ (x4 < (nI 1)) → (((nI 10) < x4 → (Q (-1000001 : Int32) σ5)) ∧ (¬ ((nI 10) < x4) → ((x5 < nI 0 → (Q (-1000001 : Int32) σ5)) ∧ (¬ (x5 < nI 0) → ((x5 ≤ (nI 1) → (wH_findingOf x2 x3 x4 σ5 (fun (r12 : Int32) (σ12 : gM) => (r12 = nI 0 → (vp_in x2 8 ∧ (wS_hear_row x2.toNatClampNeg x1 x3 x4 σ12 (fun (σ16 : gM) => (x5 = nI 0 → (wS_waysOf x4 σ16 (fun (r19 : Int32) (σ19 : gM) => wH_unfound r19 σ19 (fun (r21 : Int32) (σ21 : gM) => Q r21 σ21)))) ∧ (¬ (x5 = nI 0) → (wS_surelyTaken x4 σ16 (fun (r23 : Int32) (σ23 : gM) => wH_unfound r23 σ23 (fun (r25 : Int32) (σ25 : gM) => Q r25 σ25)))))))) ∧ (¬ (r12 = nI 0) → (wH_found r12 σ12 (fun (r27 : Int32) (σ27 : gM) => Q r27 σ27)))))) ∧ (¬ (x5 ≤ (nI 1)) → (Q (-1000001 : Int32) σ5)))))))))) ∧ (¬ (r5 = nI 0) → (Q (-1000001 : Int32) σ5))))) ∧ (¬ (r2 = nI 0) → (Q (-1000001 : Int32) σ2))) := h
  refine v_aload_n hC 0 dX6_heard_0 rfl ?_
  refine v_iload_n hC 1 dX6_heard_1 rfl ?_
  refine v_callV hC (kH_isNoBuyer _ _ _ h) cmH_isNoBuyer ⟨kw592, kw17⟩ kw590 ⟨Nat.le_of_ble_eq_true rfl, Nat.le_of_ble_eq_true rfl⟩ (Nat.le_of_ble_eq_true rfl) rfl (ci := 6) (T := TX6) (N := 12) rfl (As := fun G => [.int x1]) (fun _ => rfl) (fun _ => rfl) (st := []) (Nat.le_of_ble_eq_true rfl) rfl dX6_heard_2 (kk_i (fun r2 σ2 h => ?_))
  refine v_if_ne hC 40 dX6_heard_5 (by decide) (fun c3 => ?_) (fun c3 => ?_)
  · replace h := h.2 c3
    refine v_ldc hC kw377 dX6_heard_40 ?_
    exact v_iret hC hR h dX6_heard_42
  · replace h := h.1 c3
    refine v_aload_n hC 0 dX6_heard_8 rfl ?_
    refine v_iload_n hC 2 dX6_heard_9 rfl ?_
    refine v_callV hC (kH_isNoRow _ _ _ h) cmH_isNoRow ⟨kw375, kw0⟩ kw373 ⟨Nat.le_of_ble_eq_true rfl, Nat.le_of_ble_eq_true rfl⟩ (Nat.le_of_ble_eq_true rfl) rfl (ci := 6) (T := TX6) (N := 12) rfl (As := fun G => [.int x2]) (fun _ => rfl) (fun _ => rfl) (st := []) (Nat.le_of_ble_eq_true rfl) rfl dX6_heard_10 (kk_i (fun r5 σ5 h => ?_))
    refine v_if_ne hC 40 dX6_heard_13 (by decide) (fun c6 => ?_) (fun c6 => ?_)
    · replace h := h.2 c6
      refine v_ldc hC kw377 dX6_heard_40 ?_
      exact v_iret hC hR h dX6_heard_42
    · replace h := h.1 c6
      refine v_iload hC 4 dX6_heard_16 rfl ?_
      refine v_iconst hC (nI 1) dX6_heard_18 rfl ?_
      refine v_icmp_lt hC 40 dX6_heard_19 (by decide) (fun c7 => ?_) (fun c7 => ?_)
      · replace h := h.1 c7
        refine v_ldc hC kw377 dX6_heard_40 ?_
        exact v_iret hC hR h dX6_heard_42
      · replace h := h.2 c7
        refine v_iload hC 4 dX6_heard_22 rfl ?_
        refine v_bipush hC (nI 10) dX6_heard_24 rfl ?_
        refine v_icmp_gt hC 40 dX6_heard_26 (by decide) (fun c8 => ?_) (fun c8 => ?_)
        · replace h := h.1 c8
          refine v_ldc hC kw377 dX6_heard_40 ?_
          exact v_iret hC hR h dX6_heard_42
        · replace h := h.2 c8
          refine v_iload hC 5 dX6_heard_29 rfl ?_
          refine v_if_lt hC 40 dX6_heard_31 (by decide) (fun c9 => ?_) (fun c9 => ?_)
          · replace h := h.1 c9
            refine v_ldc hC kw377 dX6_heard_40 ?_
            exact v_iret hC hR h dX6_heard_42
          · replace h := h.2 c9
            refine v_iload hC 5 dX6_heard_34 rfl ?_
            refine v_iconst hC (nI 1) dX6_heard_36 rfl ?_
            refine v_icmp_le hC 43 dX6_heard_37 (by decide) (fun c10 => ?_) (fun c10 => ?_)
            · replace h := h.1 c10
              refine v_aload_n hC 0 dX6_heard_43 rfl ?_
              refine v_iload_n hC 2 dX6_heard_44 rfl ?_
              refine v_iload_n hC 3 dX6_heard_45 rfl ?_
              refine v_iload hC 4 dX6_heard_46 rfl ?_
              refine v_callV hC (kH_findingOf _ _ _ _ _ h) cmH_findingOf ⟨kw400, kw3⟩ kw398 ⟨Nat.le_of_ble_eq_true rfl, Nat.le_of_ble_eq_true rfl⟩ (Nat.le_of_ble_eq_true rfl) rfl (ci := 6) (T := TX6) (N := 12) rfl (As := fun G => [.int x2, .int x3, .int x4]) (fun _ => rfl) (fun _ => rfl) (st := []) (Nat.le_of_ble_eq_true rfl) rfl dX6_heard_48 (kk_i (fun r12 σ12 h => ?_))
              refine v_istore hC dX6_heard_51 (by decide) rfl ?_
              refine v_iload hC 0 dX6_heard_53 rfl ?_
              refine v_if_eq hC 65 dX6_heard_55 (by decide) (fun c13 => ?_) (fun c13 => ?_)
              · replace h := h.1 c13
                refine v_aload_n hC 1 dX6_heard_65 rfl ?_
                refine gf_X6_53 hC dX6_heard_66 ?_
                refine v_aload_n hC 1 dX6_heard_69 rfl ?_
                refine gf_X6_25 hC dX6_heard_70 ?_
                refine v_iload_n hC 2 dX6_heard_73 rfl ?_
                refine v_aload_n hC 1 dX6_heard_74 rfl ?_
                refine gf_X6_11 hC dX6_heard_75 ?_
                refine v_iload_n hC 3 dX6_heard_78 rfl ?_
                obtain ⟨hi14, h⟩ := h
                have hr14 := vin_lt hi14
                refine v_aald hC (Or.inl rfl) (o := 1) (Nat.le_of_ble_eq_true rfl) rfl hi14 dX6_heard_79 ?_
                refine v_iload_n hC 4 dX6_heard_80 rfl ?_
                refine v_iload hC 5 dX6_heard_81 rfl ?_
                refine v_callV hC (kS_hear_row hr14 _ _ _ _ _ h) cmS_hear ⟨kw841, kw842⟩ kw840 ⟨Nat.le_of_ble_eq_true rfl, Nat.le_of_ble_eq_true rfl⟩ (Nat.le_of_ble_eq_true rfl) rfl (ci := 4) (T := TX4) (N := 4) rfl (As := fun G => [.ref (gad G 42), .int x1, .ref (gad G (2 + 2 * x2.toNatClampNeg)), .int x3, .int x4]) (fun _ => rfl) (fun _ => rfl) (st := []) (Nat.le_of_ble_eq_true rfl) rfl dX6_heard_83 (kk_v (fun σ16 h => ?_))
                refine v_aload_n hC 1 dX6_heard_86 rfl ?_
                refine v_iload hC 6 dX6_heard_87 rfl ?_
                refine v_if_ne hC 104 dX6_heard_89 (by decide) (fun c17 => ?_) (fun c17 => ?_)
                · replace h := h.2 c17
                  refine v_aload_n hC 1 dX6_heard_104 rfl ?_
                  refine gf_X6_53 hC dX6_heard_105 ?_
                  refine v_aload_n hC 1 dX6_heard_108 rfl ?_
                  refine gf_X6_25 hC dX6_heard_109 ?_
                  refine v_iload hC 5 dX6_heard_112 rfl ?_
                  refine v_callV hC (kS_surelyTaken _ _ _ h) cmS_surelyTaken ⟨kw857, kw858⟩ kw856 ⟨Nat.le_of_ble_eq_true rfl, Nat.le_of_ble_eq_true rfl⟩ (Nat.le_of_ble_eq_true rfl) rfl (ci := 4) (T := TX4) (N := 4) rfl (As := fun G => [.ref (gad G 42), .int x4]) (fun _ => rfl) (fun _ => rfl) (st := [.ref (xad X 0)]) (Nat.le_of_ble_eq_true rfl) rfl dX6_heard_114 (kk_i (fun r23 σ23 h => ?_))
                  refine v_callV hC (kH_unfound _ _ _ h) cmH_unfound ⟨kw392, kw2⟩ kw390 ⟨Nat.le_of_ble_eq_true rfl, Nat.le_of_ble_eq_true rfl⟩ (Nat.le_of_ble_eq_true rfl) rfl (ci := 6) (T := TX6) (N := 12) rfl (As := fun G => [.int r23]) (fun _ => rfl) (fun _ => rfl) (st := []) (Nat.le_of_ble_eq_true rfl) rfl dX6_heard_117 (kk_i (fun r25 σ25 h => ?_))
                  exact v_iret hC hR h dX6_heard_120
                · replace h := h.1 c17
                  refine v_aload_n hC 1 dX6_heard_92 rfl ?_
                  refine gf_X6_53 hC dX6_heard_93 ?_
                  refine v_iload hC 5 dX6_heard_96 rfl ?_
                  refine v_callV hC (kS_waysOf _ _ _ h) cmS_waysOf ⟨kw853, kw854⟩ kw852 ⟨Nat.le_of_ble_eq_true rfl, Nat.le_of_ble_eq_true rfl⟩ (Nat.le_of_ble_eq_true rfl) rfl (ci := 4) (T := TX4) (N := 4) rfl (As := fun G => [.int x4]) (fun _ => rfl) (fun _ => rfl) (st := [.ref (xad X 0)]) (Nat.le_of_ble_eq_true rfl) rfl dX6_heard_98 (kk_i (fun r19 σ19 h => ?_))
                  refine v_goto hC 117 dX6_heard_101 (by decide) ?_
                  refine v_callV hC (kH_unfound _ _ _ h) cmH_unfound ⟨kw392, kw2⟩ kw390 ⟨Nat.le_of_ble_eq_true rfl, Nat.le_of_ble_eq_true rfl⟩ (Nat.le_of_ble_eq_true rfl) rfl (ci := 6) (T := TX6) (N := 12) rfl (As := fun G => [.int r19]) (fun _ => rfl) (fun _ => rfl) (st := []) (Nat.le_of_ble_eq_true rfl) rfl dX6_heard_117 (kk_i (fun r21 σ21 h => ?_))
                  exact v_iret hC hR h dX6_heard_120
              · replace h := h.2 c13
                refine v_aload_n hC 1 dX6_heard_58 rfl ?_
                refine v_iload hC 0 dX6_heard_59 rfl ?_
                refine v_callV hC (kH_found _ _ _ h) cmH_found ⟨kw380, kw1⟩ kw378 ⟨Nat.le_of_ble_eq_true rfl, Nat.le_of_ble_eq_true rfl⟩ (Nat.le_of_ble_eq_true rfl) rfl (ci := 6) (T := TX6) (N := 12) rfl (As := fun G => [.int r12]) (fun _ => rfl) (fun _ => rfl) (st := []) (Nat.le_of_ble_eq_true rfl) rfl dX6_heard_61 (kk_i (fun r27 σ27 h => ?_))
                exact v_iret hC hR h dX6_heard_64
            · replace h := h.2 c10
              refine v_ldc hC kw377 dX6_heard_40 ?_
              exact v_iret hC hR h dX6_heard_42
theorem cmH_heard : CM yX6_heard cX6_heard 7 (some .int) rmH_heard 5 := ⟨kw75, kw839, rfl, rfl, by decide, by decide, by decide +kernel⟩
def rmS_addUp : Room := { frames := 3, cells := 0, slots := 0, locals := 86 }
def wS_addUp_l9 (Q : gM → Prop)  : Nat → Int32 → Int32 → gM → Prop
  | 0, _, _, _ => False
  | n + 1, x2, x3, σ =>
    ((σ 42 5) ≤ x3 → (Q σ)) ∧ (¬ ((σ 42 5) ≤ x3) → (vp_in x3 17 ∧ (vp_in x3 16 ∧ (wK42_valueTo x2 (σ 51 x3.toNatClampNeg) (nI 0) σ (fun (r6 : Int32) (σ6 : gM) => vp_in (x3 + (nI 1)) 17 ∧ (∀ σ7 : gM, σ7 = gU σ6 39 (x3 + (nI 1)).toNatClampNeg ((σ 39 x3.toNatClampNeg) + r6) → (∀ x3_8 : Int32, x3_8 = x3 + (nI 1) → (wS_addUp_l9 Q n x2 x3_8 σ7))))))))
def wS_addUp (x2 : Int32) (σ : gM) (Q : gM → Prop) : Prop :=
    ∀ σ1 : gM, σ1 = gU σ 39 0 (nI 0) → (∃ n9 : Nat, wS_addUp_l9 Q n9 x2 (nI 0) σ1)
set_option maxHeartbeats 4000000 in
set_option maxRecDepth 100000 in
theorem tS_addUp_l9 {X : gX} {Q : gM → Prop} (hC : VC X cX4_addUp RX4 4 rmS_addUp) (hR : VR X none (gPv Q))  : ∀ (n : Nat) (x2 : Int32) (x3 : Int32) (σ : gM), wS_addUp_l9 Q  n x2 x3 σ → V X 4 9 [(0, .ref (xad X 35)), (1, .ref (xad X 42)), (2, .int x2), (3, .int x3)] [] σ := by
  intro n
  induction n with
  | zero => intro x2 x3 σ h; exact h.elim
  | succ n ih =>
    intro x2 x3 σ h
    replace h : ((σ 42 5) ≤ x3 → (Q σ)) ∧ (¬ ((σ 42 5) ≤ x3) → (vp_in x3 17 ∧ (vp_in x3 16 ∧ (wK42_valueTo x2 (σ 51 x3.toNatClampNeg) (nI 0) σ (fun (r6 : Int32) (σ6 : gM) => vp_in (x3 + (nI 1)) 17 ∧ (∀ σ7 : gM, σ7 = gU σ6 39 (x3 + (nI 1)).toNatClampNeg ((σ 39 x3.toNatClampNeg) + r6) → (∀ x3_8 : Int32, x3_8 = x3 + (nI 1) → (wS_addUp_l9 Q n x2 x3_8 σ7)))))))) := h
    refine v_iload_n hC 3 dX4_addUp_9 rfl ?_
    refine v_aload_n hC 1 dX4_addUp_10 rfl ?_
    refine gf_X4_24_42 hC dX4_addUp_11 ?_
    refine v_icmp_ge hC 50 dX4_addUp_14 (by decide) (fun c2 => ?_) (fun c2 => ?_)
    · replace h := h.1 c2
      exact v_vret hC hR h dX4_addUp_50
    · replace h := h.2 c2
      refine v_aload_n hC 0 dX4_addUp_17 rfl ?_
      refine gf_X4_21 hC dX4_addUp_18 ?_
      refine v_iload_n hC 3 dX4_addUp_21 rfl ?_
      refine v_iconst hC (nI 1) dX4_addUp_22 rfl ?_
      refine v_iadd hC dX4_addUp_23 ?_
      refine v_aload_n hC 0 dX4_addUp_24 rfl ?_
      refine gf_X4_21 hC dX4_addUp_25 ?_
      refine v_iload_n hC 3 dX4_addUp_28 rfl ?_
      obtain ⟨hi3, h⟩ := h
      refine v_iald hC (Nat.le_of_ble_eq_true rfl) rfl rfl hi3 dX4_addUp_29 ?_
      refine v_aload_n hC 1 dX4_addUp_30 rfl ?_
      refine v_iload_n hC 2 dX4_addUp_31 rfl ?_
      refine v_aload_n hC 1 dX4_addUp_32 rfl ?_
      refine gf_X4_35_42 hC dX4_addUp_33 ?_
      refine v_iload_n hC 3 dX4_addUp_36 rfl ?_
      obtain ⟨hi4, h⟩ := h
      refine v_iald hC (Nat.le_of_ble_eq_true rfl) rfl rfl hi4 dX4_addUp_37 ?_
      refine v_iconst hC (nI 0) dX4_addUp_38 rfl ?_
      refine v_callV hC (kK42_valueTo _ _ _ _ _ h) cmK_valueTo ⟨kw626, kw627⟩ kw788 ⟨Nat.le_of_ble_eq_true rfl, Nat.le_of_ble_eq_true rfl⟩ (Nat.le_of_ble_eq_true rfl) rfl (ci := 2) (T := TX2) (N := 15) rfl (As := fun G => [.int x2, .int (σ 51 x3.toNatClampNeg), .int (nI 0)]) (fun _ => rfl) (fun _ => rfl) (st := [.int (σ 39 x3.toNatClampNeg), .int (x3 + (nI 1)), .ref (xad X 39)]) (Nat.le_of_ble_eq_true rfl) rfl dX4_addUp_39 (kk_i (fun r6 σ6 h => ?_))
      refine v_iadd hC dX4_addUp_42 ?_
      obtain ⟨hi7, h⟩ := h
      refine v_iast hC (Nat.le_of_ble_eq_true rfl) rfl rfl hi7 dX4_addUp_43 (fun σ7 e7 => ?_)
      replace h := h σ7 e7
      refine v_iincN hC (nI 1) 3 dX4_addUp_44 rfl rfl (by decide) (lo2 := fun x3_8 => [(3, .int x3_8), (0, .ref (xad X 35)), (1, .ref (xad X 42)), (2, .int x2)]) (fun _ => rfl) (fun x3_8 e8 => ?_)
      replace h := h x3_8 e8
      refine v_goto hC 9 dX4_addUp_47 (by decide) ?_
      exact V.sub [1, 2, 3, 0] rfl (ih _ _ _ h)
set_option maxHeartbeats 4000000 in
set_option maxRecDepth 100000 in
theorem kS_addUp (x2 : Int32) (σ : gM) (Q : gM → Prop) (h : wS_addUp x2 σ Q) : CT yX4_addUp cX4_addUp 4 none rmS_addUp (fun G => [.ref (gad G 35), .ref (gad G 42), .int x2]) σ (gPv Q) := by
  refine c_enter (by decide) (fun _ => Nat.le_of_ble_eq_true rfl) (fun X hC hR => ?_)
  show V X 4 0 [(0, .ref (xad X 35)), (1, .ref (xad X 42)), (2, .int x2)] [] σ
  replace h : ∀ σ1 : gM, σ1 = gU σ 39 0 (nI 0) → (∃ n9 : Nat, wS_addUp_l9 Q n9 x2 (nI 0) σ1) := h
  refine v_aload_n hC 0 dX4_addUp_0 rfl ?_
  refine gf_X4_21 hC dX4_addUp_1 ?_
  refine v_iconst hC (nI 0) dX4_addUp_4 rfl ?_
  refine v_iconst hC (nI 0) dX4_addUp_5 rfl ?_
  refine v_iast hC (Nat.le_of_ble_eq_true rfl) rfl (j := 0) (by decide) (by unfold vp_in; decide) dX4_addUp_6 (fun σ1 e1 => ?_)
  replace h := h σ1 e1
  refine v_iconst hC (nI 0) dX4_addUp_7 rfl ?_
  refine v_istore_n hC dX4_addUp_8 (by decide) rfl ?_
  obtain ⟨n9, h⟩ := h
  exact V.sub [1, 2, 3, 0] rfl (tS_addUp_l9 hC hR  n9 _ _ _ h)
theorem cmS_addUp : CM yX4_addUp cX4_addUp 4 none rmS_addUp 2 := ⟨kw80, kw875, rfl, rfl, by decide, by decide, by decide +kernel⟩
def rmS_mostOfStall : Room := { frames := 1, cells := 0, slots := 0, locals := 40 }
def wS_mostOfStall_l26 (Q : Int32 → gM → Prop)  : Nat → Int32 → Int32 → Int32 → Int32 → Int32 → Int32 → gM → Prop
  | 0, _, _, _, _, _, _, _ => False
  | n + 1, x1, x2, x3, x4, x5, x6, σ =>
    ((x1 + x3) < x6 → (vp_in (x1 + x2) 17 ∧ (vp_in x1 17 ∧ (Q (((σ 39 (x1 + x2).toNatClampNeg) - (σ 39 x1.toNatClampNeg)) - x5) σ)))) ∧ (¬ ((x1 + x3) < x6) → (vp_in (x6 + x4) 17 ∧ (vp_in x6 17 ∧ (∀ x5_11 : Int32, x5_11 = (if ((σ 39 (x6 + x4).toNatClampNeg) - (σ 39 x6.toNatClampNeg)) < x5 then ((σ 39 (x6 + x4).toNatClampNeg) - (σ 39 x6.toNatClampNeg)) else x5) → (∀ x6_12 : Int32, x6_12 = x6 + (nI 1) → (wS_mostOfStall_l26 Q n x1 x2 x3 x4 x5_11 x6_12 σ))))))
def wS_mostOfStall (x1 : Int32) (x2 : Int32) (x3 : Int32) (σ : gM) (Q : Int32 → gM → Prop) : Prop :=
    ∀ x4_1 : Int32, x4_1 = (x2 - x3) → (vp_in (x1 + x4_1) 17 ∧ (vp_in x1 17 ∧ (∀ x5_4 : Int32, x5_4 = ((σ 39 (x1 + x4_1).toNatClampNeg) - (σ 39 x1.toNatClampNeg)) → (∃ n13 : Nat, wS_mostOfStall_l26 Q n13 x1 x2 x3 x4_1 x5_4 x1 σ))))
set_option maxHeartbeats 4000000 in
set_option maxRecDepth 100000 in
theorem tS_mostOfStall_l26 {X : gX} {Q : Int32 → gM → Prop} (hC : VC X cX4_mostOfStall RX4 7 rmS_mostOfStall) (hR : VR X (some .int) (gPi Q))  : ∀ (n : Nat) (x1 : Int32) (x2 : Int32) (x3 : Int32) (x4 : Int32) (x5 : Int32) (x6 : Int32) (σ : gM), wS_mostOfStall_l26 Q  n x1 x2 x3 x4 x5 x6 σ → V X 7 26 [(0, .ref (xad X 35)), (1, .int x1), (2, .int x2), (3, .int x3), (4, .int x4), (5, .int x5), (6, .int x6)] [] σ := by
  intro n
  induction n with
  | zero => intro x1 x2 x3 x4 x5 x6 σ h; exact h.elim
  | succ n ih =>
    intro x1 x2 x3 x4 x5 x6 σ h
    replace h : ((x1 + x3) < x6 → (vp_in (x1 + x2) 17 ∧ (vp_in x1 17 ∧ (Q (((σ 39 (x1 + x2).toNatClampNeg) - (σ 39 x1.toNatClampNeg)) - x5) σ)))) ∧ (¬ ((x1 + x3) < x6) → (vp_in (x6 + x4) 17 ∧ (vp_in x6 17 ∧ (∀ x5_11 : Int32, x5_11 = (if ((σ 39 (x6 + x4).toNatClampNeg) - (σ 39 x6.toNatClampNeg)) < x5 then ((σ 39 (x6 + x4).toNatClampNeg) - (σ 39 x6.toNatClampNeg)) else x5) → (∀ x6_12 : Int32, x6_12 = x6 + (nI 1) → (wS_mostOfStall_l26 Q n x1 x2 x3 x4 x5_11 x6_12 σ)))))) := h
    refine v_iload hC 6 dX4_mostOfStall_26 rfl ?_
    refine v_iload_n hC 1 dX4_mostOfStall_28 rfl ?_
    refine v_iload_n hC 3 dX4_mostOfStall_29 rfl ?_
    refine v_iadd hC dX4_mostOfStall_30 ?_
    refine v_icmp_gt hC 65 dX4_mostOfStall_31 (by decide) (fun c5 => ?_) (fun c5 => ?_)
    · replace h := h.1 c5
      refine v_aload_n hC 0 dX4_mostOfStall_65 rfl ?_
      refine gf_X4_21 hC dX4_mostOfStall_66 ?_
      refine v_iload_n hC 1 dX4_mostOfStall_69 rfl ?_
      refine v_iload_n hC 2 dX4_mostOfStall_70 rfl ?_
      refine v_iadd hC dX4_mostOfStall_71 ?_
      obtain ⟨hi6, h⟩ := h
      refine v_iald hC (Nat.le_of_ble_eq_true rfl) rfl rfl hi6 dX4_mostOfStall_72 ?_
      refine v_aload_n hC 0 dX4_mostOfStall_73 rfl ?_
      refine gf_X4_21 hC dX4_mostOfStall_74 ?_
      refine v_iload_n hC 1 dX4_mostOfStall_77 rfl ?_
      obtain ⟨hi7, h⟩ := h
      refine v_iald hC (Nat.le_of_ble_eq_true rfl) rfl rfl hi7 dX4_mostOfStall_78 ?_
      refine v_isub hC dX4_mostOfStall_79 ?_
      refine v_iload hC 5 dX4_mostOfStall_80 rfl ?_
      refine v_isub hC dX4_mostOfStall_82 ?_
      exact v_iret hC hR h dX4_mostOfStall_83
    · replace h := h.2 c5
      refine v_iload hC 5 dX4_mostOfStall_34 rfl ?_
      refine v_aload_n hC 0 dX4_mostOfStall_36 rfl ?_
      refine gf_X4_21 hC dX4_mostOfStall_37 ?_
      refine v_iload hC 6 dX4_mostOfStall_40 rfl ?_
      refine v_iload hC 4 dX4_mostOfStall_42 rfl ?_
      refine v_iadd hC dX4_mostOfStall_44 ?_
      obtain ⟨hi8, h⟩ := h
      refine v_iald hC (Nat.le_of_ble_eq_true rfl) rfl rfl hi8 dX4_mostOfStall_45 ?_
      refine v_aload_n hC 0 dX4_mostOfStall_46 rfl ?_
      refine gf_X4_21 hC dX4_mostOfStall_47 ?_
      refine v_iload hC 6 dX4_mostOfStall_50 rfl ?_
      obtain ⟨hi9, h⟩ := h
      refine v_iald hC (Nat.le_of_ble_eq_true rfl) rfl rfl hi9 dX4_mostOfStall_52 ?_
      refine v_isub hC dX4_mostOfStall_53 ?_
      refine v_mmin hC kw812 kw618 kw89 kw619 (Nat.le_of_ble_eq_true rfl) (Nat.le_of_ble_eq_true rfl) dX4_mostOfStall_54 ?_
      refine v_istoreN hC dX4_mostOfStall_57 (by decide) (lo2 := fun x5_11 => [(5, .int x5_11), (0, .ref (xad X 35)), (1, .int x1), (2, .int x2), (3, .int x3), (4, .int x4), (6, .int x6)]) (fun _ => rfl) (fun x5_11 e11 => ?_)
      replace h := h x5_11 e11
      refine v_iincN hC (nI 1) 6 dX4_mostOfStall_59 rfl rfl (by decide) (lo2 := fun x6_12 => [(6, .int x6_12), (5, .int x5_11), (0, .ref (xad X 35)), (1, .int x1), (2, .int x2), (3, .int x3), (4, .int x4)]) (fun _ => rfl) (fun x6_12 e12 => ?_)
      replace h := h x6_12 e12
      refine v_goto hC 26 dX4_mostOfStall_62 (by decide) ?_
      exact V.sub [2, 3, 4, 5, 6, 1, 0] rfl (ih _ _ _ _ _ _ _ h)
set_option maxHeartbeats 4000000 in
set_option maxRecDepth 100000 in
theorem kS_mostOfStall (x1 : Int32) (x2 : Int32) (x3 : Int32) (σ : gM) (Q : Int32 → gM → Prop) (h : wS_mostOfStall x1 x2 x3 σ Q) : CT yX4_mostOfStall cX4_mostOfStall 7 (some .int) rmS_mostOfStall (fun G => [.ref (gad G 35), .int x1, .int x2, .int x3]) σ (gPi Q) := by
  refine c_enter (by decide) (fun _ => Nat.le_of_ble_eq_true rfl) (fun X hC hR => ?_)
  show V X 7 0 [(0, .ref (xad X 35)), (1, .int x1), (2, .int x2), (3, .int x3)] [] σ
  replace h : ∀ x4_1 : Int32, x4_1 = (x2 - x3) → (vp_in (x1 + x4_1) 17 ∧ (vp_in x1 17 ∧ (∀ x5_4 : Int32, x5_4 = ((σ 39 (x1 + x4_1).toNatClampNeg) - (σ 39 x1.toNatClampNeg)) → (∃ n13 : Nat, wS_mostOfStall_l26 Q n13 x1 x2 x3 x4_1 x5_4 x1 σ)))) := h
  refine v_iload_n hC 2 dX4_mostOfStall_0 rfl ?_
  refine v_iload_n hC 3 dX4_mostOfStall_1 rfl ?_
  refine v_isub hC dX4_mostOfStall_2 ?_
  refine v_istoreN hC dX4_mostOfStall_3 (by decide) (lo2 := fun x4_1 => [(4, .int x4_1), (0, .ref (xad X 35)), (1, .int x1), (2, .int x2), (3, .int x3)]) (fun _ => rfl) (fun x4_1 e1 => ?_)
  replace h := h x4_1 e1
  refine v_aload_n hC 1 dX4_mostOfStall_5 rfl ?_
  refine gf_X4_21 hC dX4_mostOfStall_6 ?_
  refine v_iload_n hC 2 dX4_mostOfStall_9 rfl ?_
  refine v_iload hC 0 dX4_mostOfStall_10 rfl ?_
  refine v_iadd hC dX4_mostOfStall_12 ?_
  obtain ⟨hi2, h⟩ := h
  refine v_iald hC (Nat.le_of_ble_eq_true rfl) rfl rfl hi2 dX4_mostOfStall_13 ?_
  refine v_aload_n hC 1 dX4_mostOfStall_14 rfl ?_
  refine gf_X4_21 hC dX4_mostOfStall_15 ?_
  refine v_iload_n hC 2 dX4_mostOfStall_18 rfl ?_
  obtain ⟨hi3, h⟩ := h
  refine v_iald hC (Nat.le_of_ble_eq_true rfl) rfl rfl hi3 dX4_mostOfStall_19 ?_
  refine v_isub hC dX4_mostOfStall_20 ?_
  refine v_istoreN hC dX4_mostOfStall_21 (by decide) (lo2 := fun x5_4 => [(5, .int x5_4), (4, .int x4_1), (0, .ref (xad X 35)), (1, .int x1), (2, .int x2), (3, .int x3)]) (fun _ => rfl) (fun x5_4 e4 => ?_)
  replace h := h x5_4 e4
  refine v_iload_n hC 3 dX4_mostOfStall_23 rfl ?_
  refine v_istore hC dX4_mostOfStall_24 (by decide) rfl ?_
  obtain ⟨n13, h⟩ := h
  exact V.sub [3, 4, 5, 6, 2, 1, 0] rfl (tS_mostOfStall_l26 hC hR  n13 _ _ _ _ _ _ _ h)
theorem cmS_mostOfStall : CM yX4_mostOfStall cX4_mostOfStall 7 (some .int) rmS_mostOfStall 3 := ⟨kw80, kw879, rfl, rfl, by decide, by decide, by decide +kernel⟩
def rmS_mostApart : Room := { frames := 4, cells := 0, slots := 0, locals := 109 }
def wS_mostApart_l28 (Q : Int32 → gM → Prop)  : Nat → Int32 → Int32 → Int32 → Int32 → Int32 → gM → Prop
  | 0, _, _, _, _, _, _ => False
  | n + 1, x3, x4, x5, x6, x7, σ =>
    ((if x4 < x3 then x4 else x3) < x7 → (Q x6 σ)) ∧ (¬ ((if x4 < x3 then x4 else x3) < x7) → (wS_mostOfStall (nI 0) x3 x7 σ (fun (r9 : Int32) (σ9 : gM) => wS_mostOfStall x3 x5 (x4 - x7) σ9 (fun (r11 : Int32) (σ11 : gM) => ∀ x6_13 : Int32, x6_13 = (if x6 < (r9 + r11) then (r9 + r11) else x6) → (∀ x7_14 : Int32, x7_14 = x7 + (nI 1) → (wS_mostApart_l28 Q n x3 x4 x5 x6_13 x7_14 σ11))))))
def wS_mostApart (x2 : Int32) (x3 : Int32) (x4 : Int32) (σ : gM) (Q : Int32 → gM → Prop) : Prop :=
    ∀ x5_1 : Int32, x5_1 = ((σ 42 5) - x3) → (wS_addUp x2 σ (fun (σ3 : gM) => ∀ x7_5 : Int32, x7_5 = (if (nI 0) < (x4 - x5_1) then (x4 - x5_1) else (nI 0)) → (∃ n15 : Nat, wS_mostApart_l28 Q n15 x3 x4 x5_1 (nI 0) x7_5 σ3)))
set_option maxHeartbeats 4000000 in
set_option maxRecDepth 100000 in
theorem tS_mostApart_l28 {X : gX} {Q : Int32 → gM → Prop} (hC : VC X cX4_mostApart RX4 8 rmS_mostApart) (hR : VR X (some .int) (gPi Q))  : ∀ (n : Nat) (x3 : Int32) (x4 : Int32) (x5 : Int32) (x6 : Int32) (x7 : Int32) (σ : gM), wS_mostApart_l28 Q  n x3 x4 x5 x6 x7 σ → V X 8 28 [(0, .ref (xad X 35)), (3, .int x3), (4, .int x4), (5, .int x5), (6, .int x6), (7, .int x7)] [] σ := by
  intro n
  induction n with
  | zero => intro x3 x4 x5 x6 x7 σ h; exact h.elim
  | succ n ih =>
    intro x3 x4 x5 x6 x7 σ h
    replace h : ((if x4 < x3 then x4 else x3) < x7 → (Q x6 σ)) ∧ (¬ ((if x4 < x3 then x4 else x3) < x7) → (wS_mostOfStall (nI 0) x3 x7 σ (fun (r9 : Int32) (σ9 : gM) => wS_mostOfStall x3 x5 (x4 - x7) σ9 (fun (r11 : Int32) (σ11 : gM) => ∀ x6_13 : Int32, x6_13 = (if x6 < (r9 + r11) then (r9 + r11) else x6) → (∀ x7_14 : Int32, x7_14 = x7 + (nI 1) → (wS_mostApart_l28 Q n x3 x4 x5 x6_13 x7_14 σ11)))))) := h
    refine v_iload hC 5 dX4_mostApart_28 rfl ?_
    refine v_iload_n hC 1 dX4_mostApart_30 rfl ?_
    refine v_iload hC 2 dX4_mostApart_31 rfl ?_
    refine v_mmin hC kw812 kw618 kw89 kw619 (Nat.le_of_ble_eq_true rfl) (Nat.le_of_ble_eq_true rfl) dX4_mostApart_33 ?_
    refine v_icmp_gt hC 73 dX4_mostApart_36 (by decide) (fun c7 => ?_) (fun c7 => ?_)
    · replace h := h.1 c7
      refine v_iload hC 4 dX4_mostApart_73 rfl ?_
      exact v_iret hC hR h dX4_mostApart_75
    · replace h := h.2 c7
      refine v_iload hC 4 dX4_mostApart_39 rfl ?_
      refine v_aload_n hC 0 dX4_mostApart_41 rfl ?_
      refine v_iconst hC (nI 0) dX4_mostApart_42 rfl ?_
      refine v_iload_n hC 1 dX4_mostApart_43 rfl ?_
      refine v_iload hC 5 dX4_mostApart_44 rfl ?_
      refine v_callV hC (kS_mostOfStall _ _ _ _ _ h) cmS_mostOfStall ⟨kw878, kw32⟩ kw876 ⟨Nat.le_of_ble_eq_true rfl, Nat.le_of_ble_eq_true rfl⟩ (Nat.le_of_ble_eq_true rfl) rfl (ci := 4) (T := TX4) (N := 4) rfl (As := fun G => [.int (nI 0), .int x3, .int x7]) (fun _ => rfl) (fun _ => rfl) (st := [.int x6]) (Nat.le_of_ble_eq_true rfl) rfl dX4_mostApart_46 (kk_i (fun r9 σ9 h => ?_))
      refine v_aload_n hC 0 dX4_mostApart_49 rfl ?_
      refine v_iload_n hC 1 dX4_mostApart_50 rfl ?_
      refine v_iload hC 3 dX4_mostApart_51 rfl ?_
      refine v_iload hC 2 dX4_mostApart_53 rfl ?_
      refine v_iload hC 5 dX4_mostApart_55 rfl ?_
      refine v_isub hC dX4_mostApart_57 ?_
      refine v_callV hC (kS_mostOfStall _ _ _ _ _ h) cmS_mostOfStall ⟨kw878, kw32⟩ kw876 ⟨Nat.le_of_ble_eq_true rfl, Nat.le_of_ble_eq_true rfl⟩ (Nat.le_of_ble_eq_true rfl) rfl (ci := 4) (T := TX4) (N := 4) rfl (As := fun G => [.int x3, .int x5, .int (x4 - x7)]) (fun _ => rfl) (fun _ => rfl) (st := [.int r9, .int x6]) (Nat.le_of_ble_eq_true rfl) rfl dX4_mostApart_58 (kk_i (fun r11 σ11 h => ?_))
      refine v_iadd hC dX4_mostApart_61 ?_
      refine v_mmax hC kw789 kw611 kw89 kw612 (Nat.le_of_ble_eq_true rfl) (Nat.le_of_ble_eq_true rfl) dX4_mostApart_62 ?_
      refine v_istoreN hC dX4_mostApart_65 (by decide) (lo2 := fun x6_13 => [(6, .int x6_13), (0, .ref (xad X 35)), (3, .int x3), (4, .int x4), (5, .int x5), (7, .int x7)]) (fun _ => rfl) (fun x6_13 e13 => ?_)
      replace h := h x6_13 e13
      refine v_iincN hC (nI 1) 5 dX4_mostApart_67 rfl rfl (by decide) (lo2 := fun x7_14 => [(7, .int x7_14), (6, .int x6_13), (0, .ref (xad X 35)), (3, .int x3), (4, .int x4), (5, .int x5)]) (fun _ => rfl) (fun x7_14 e14 => ?_)
      replace h := h x7_14 e14
      refine v_goto hC 28 dX4_mostApart_70 (by decide) ?_
      exact V.sub [2, 3, 4, 5, 1, 0] rfl (ih _ _ _ _ _ _ h)
set_option maxHeartbeats 4000000 in
set_option maxRecDepth 100000 in
theorem kS_mostApart (x2 : Int32) (x3 : Int32) (x4 : Int32) (σ : gM) (Q : Int32 → gM → Prop) (h : wS_mostApart x2 x3 x4 σ Q) : CT yX4_mostApart cX4_mostApart 8 (some .int) rmS_mostApart (fun G => [.ref (gad G 35), .ref (gad G 42), .int x2, .int x3, .int x4]) σ (gPi Q) := by
  refine c_enter (by decide) (fun _ => Nat.le_of_ble_eq_true rfl) (fun X hC hR => ?_)
  show V X 8 0 [(0, .ref (xad X 35)), (1, .ref (xad X 42)), (2, .int x2), (3, .int x3), (4, .int x4)] [] σ
  replace h : ∀ x5_1 : Int32, x5_1 = ((σ 42 5) - x3) → (wS_addUp x2 σ (fun (σ3 : gM) => ∀ x7_5 : Int32, x7_5 = (if (nI 0) < (x4 - x5_1) then (x4 - x5_1) else (nI 0)) → (∃ n15 : Nat, wS_mostApart_l28 Q n15 x3 x4 x5_1 (nI 0) x7_5 σ3))) := h
  refine v_aload_n hC 1 dX4_mostApart_0 rfl ?_
  refine gf_X4_24_42 hC dX4_mostApart_1 ?_
  refine v_iload_n hC 3 dX4_mostApart_4 rfl ?_
  refine v_isub hC dX4_mostApart_5 ?_
  refine v_istoreN hC dX4_mostApart_6 (by decide) (lo2 := fun x5_1 => [(5, .int x5_1), (0, .ref (xad X 35)), (1, .ref (xad X 42)), (2, .int x2), (3, .int x3), (4, .int x4)]) (fun _ => rfl) (fun x5_1 e1 => ?_)
  replace h := h x5_1 e1
  refine v_iconst hC (nI 0) dX4_mostApart_8 rfl ?_
  refine v_istore hC dX4_mostApart_9 (by decide) rfl ?_
  refine v_aload_n hC 2 dX4_mostApart_11 rfl ?_
  refine v_aload_n hC 3 dX4_mostApart_12 rfl ?_
  refine v_iload_n hC 4 dX4_mostApart_13 rfl ?_
  refine v_callV hC (kS_addUp _ _ _ h) cmS_addUp ⟨kw874, kw31⟩ kw872 ⟨Nat.le_of_ble_eq_true rfl, Nat.le_of_ble_eq_true rfl⟩ (Nat.le_of_ble_eq_true rfl) rfl (ci := 4) (T := TX4) (N := 4) rfl (As := fun G => [.ref (gad G 42), .int x2]) (fun _ => rfl) (fun _ => rfl) (st := []) (Nat.le_of_ble_eq_true rfl) rfl dX4_mostApart_14 (kk_v (fun σ3 h => ?_))
  refine v_iconst hC (nI 0) dX4_mostApart_17 rfl ?_
  refine v_iload hC 6 dX4_mostApart_18 rfl ?_
  refine v_iload hC 1 dX4_mostApart_20 rfl ?_
  refine v_isub hC dX4_mostApart_22 ?_
  refine v_mmax hC kw789 kw611 kw89 kw612 (Nat.le_of_ble_eq_true rfl) (Nat.le_of_ble_eq_true rfl) dX4_mostApart_23 ?_
  refine v_istoreN hC dX4_mostApart_26 (by decide) (lo2 := fun x7_5 => [(7, .int x7_5), (6, .int (nI 0)), (5, .int x5_1), (0, .ref (xad X 35)), (1, .ref (xad X 42)), (2, .int x2), (3, .int x3), (4, .int x4)]) (fun _ => rfl) (fun x7_5 e5 => ?_)
  replace h := h x7_5 e5
  obtain ⟨n15, h⟩ := h
  exact V.sub [3, 6, 7, 2, 1, 0] rfl (tS_mostApart_l28 hC hR  n15 _ _ _ _ _ _ h)
theorem cmS_mostApart : CM yX4_mostApart cX4_mostApart 8 (some .int) rmS_mostApart 4 := ⟨kw80, kw871, rfl, rfl, by decide, by decide, by decide +kernel⟩
def rmH_apart : Room := { frames := 5, cells := 0, slots := 0, locals := 136 }
def wH_apart (x1 : Int32) (x2 : Int32) (x3 : Int32) (σ : gM) (Q : Int32 → gM → Prop) : Prop :=
    wH_isNoBuyer x1 σ (fun (r2 : Int32) (σ2 : gM) => (r2 = nI 0 → ((x2 < nI 0 → (Q (-1000001 : Int32) σ2)) ∧ (¬ (x2 < nI 0) → (((σ2 42 5) < x2 → (Q (-1000001 : Int32) σ2)) ∧ (¬ ((σ2 42 5) < x2) → ((x3 < nI 0 → (Q (-1000001 : Int32) σ2)) ∧ (¬ (x3 < nI 0) → ((x3 ≤ (σ2 42 5) → (wS_mostApart x1 x2 x3 σ2 (fun (r9 : Int32) (σ9 : gM) => Q r9 σ9))) ∧ (¬ (x3 ≤ (σ2 42 5)) → (Q (-1000001 : Int32) σ2)))))))))) ∧ (¬ (r2 = nI 0) → (Q (-1000001 : Int32) σ2)))
set_option maxHeartbeats 4000000 in
set_option maxRecDepth 100000 in
theorem kH_apart (x1 : Int32) (x2 : Int32) (x3 : Int32) (σ : gM) (Q : Int32 → gM → Prop) (h : wH_apart x1 x2 x3 σ Q) : CT yX6_apart cX6_apart 4 (some .int) rmH_apart (fun G => [.ref (gad G 0), .int x1, .int x2, .int x3]) σ (gPi Q) := by
  refine c_enter (by decide) (fun _ => Nat.le_of_ble_eq_true rfl) (fun X hC hR => ?_)
  show V X 4 0 [(0, .ref (xad X 0)), (1, .int x1), (2, .int x2), (3, .int x3)] [] σ
  replace h : wH_isNoBuyer x1 σ (fun (r2 : Int32) (σ2 : gM) => (r2 = nI 0 → ((x2 < nI 0 → (Q (-1000001 : Int32) σ2)) ∧ (¬ (x2 < nI 0) → (((σ2 42 5) < x2 → (Q (-1000001 : Int32) σ2)) ∧ (¬ ((σ2 42 5) < x2) → ((x3 < nI 0 → (Q (-1000001 : Int32) σ2)) ∧ (¬ (x3 < nI 0) → ((x3 ≤ (σ2 42 5) → (wS_mostApart x1 x2 x3 σ2 (fun (r9 : Int32) (σ9 : gM) => Q r9 σ9))) ∧ (¬ (x3 ≤ (σ2 42 5)) → (Q (-1000001 : Int32) σ2)))))))))) ∧ (¬ (r2 = nI 0) → (Q (-1000001 : Int32) σ2))) := h
  refine v_aload_n hC 0 dX6_apart_0 rfl ?_
  refine v_iload_n hC 1 dX6_apart_1 rfl ?_
  refine v_callV hC (kH_isNoBuyer _ _ _ h) cmH_isNoBuyer ⟨kw592, kw17⟩ kw590 ⟨Nat.le_of_ble_eq_true rfl, Nat.le_of_ble_eq_true rfl⟩ (Nat.le_of_ble_eq_true rfl) rfl (ci := 6) (T := TX6) (N := 12) rfl (As := fun G => [.int x1]) (fun _ => rfl) (fun _ => rfl) (st := []) (Nat.le_of_ble_eq_true rfl) rfl dX6_apart_2 (kk_i (fun r2 σ2 h => ?_))
  refine v_if_ne hC 38 dX6_apart_5 (by decide) (fun c3 => ?_) (fun c3 => ?_)
  · replace h := h.2 c3
    refine v_ldc hC kw377 dX6_apart_38 ?_
    exact v_iret hC hR h dX6_apart_40
  · replace h := h.1 c3
    refine v_iload_n hC 2 dX6_apart_8 rfl ?_
    refine v_if_lt hC 38 dX6_apart_9 (by decide) (fun c4 => ?_) (fun c4 => ?_)
    · replace h := h.1 c4
      refine v_ldc hC kw377 dX6_apart_38 ?_
      exact v_iret hC hR h dX6_apart_40
    · replace h := h.2 c4
      refine v_iload_n hC 2 dX6_apart_12 rfl ?_
      refine v_aload_n hC 0 dX6_apart_13 rfl ?_
      refine gf_X6_25 hC dX6_apart_14 ?_
      refine gf_X6_148_42 hC dX6_apart_17 ?_
      refine v_icmp_gt hC 38 dX6_apart_20 (by decide) (fun c5 => ?_) (fun c5 => ?_)
      · replace h := h.1 c5
        refine v_ldc hC kw377 dX6_apart_38 ?_
        exact v_iret hC hR h dX6_apart_40
      · replace h := h.2 c5
        refine v_iload_n hC 3 dX6_apart_23 rfl ?_
        refine v_if_lt hC 38 dX6_apart_24 (by decide) (fun c6 => ?_) (fun c6 => ?_)
        · replace h := h.1 c6
          refine v_ldc hC kw377 dX6_apart_38 ?_
          exact v_iret hC hR h dX6_apart_40
        · replace h := h.2 c6
          refine v_iload_n hC 3 dX6_apart_27 rfl ?_
          refine v_aload_n hC 0 dX6_apart_28 rfl ?_
          refine gf_X6_25 hC dX6_apart_29 ?_
          refine gf_X6_148_42 hC dX6_apart_32 ?_
          refine v_icmp_le hC 41 dX6_apart_35 (by decide) (fun c7 => ?_) (fun c7 => ?_)
          · replace h := h.1 c7
            refine v_aload_n hC 0 dX6_apart_41 rfl ?_
            refine gf_X6_53 hC dX6_apart_42 ?_
            refine v_aload_n hC 0 dX6_apart_45 rfl ?_
            refine gf_X6_25 hC dX6_apart_46 ?_
            refine v_iload_n hC 1 dX6_apart_49 rfl ?_
            refine v_iload_n hC 2 dX6_apart_50 rfl ?_
            refine v_iload_n hC 3 dX6_apart_51 rfl ?_
            refine v_callV hC (kS_mostApart _ _ _ _ _ h) cmS_mostApart ⟨kw869, kw870⟩ kw868 ⟨Nat.le_of_ble_eq_true rfl, Nat.le_of_ble_eq_true rfl⟩ (Nat.le_of_ble_eq_true rfl) rfl (ci := 4) (T := TX4) (N := 4) rfl (As := fun G => [.ref (gad G 42), .int x1, .int x2, .int x3]) (fun _ => rfl) (fun _ => rfl) (st := []) (Nat.le_of_ble_eq_true rfl) rfl dX6_apart_52 (kk_i (fun r9 σ9 h => ?_))
            exact v_iret hC hR h dX6_apart_55
          · replace h := h.2 c7
            refine v_ldc hC kw377 dX6_apart_38 ?_
            exact v_iret hC hR h dX6_apart_40
theorem cmH_apart : CM yX6_apart cX6_apart 4 (some .int) rmH_apart 3 := ⟨kw75, kw867, rfl, rfl, by decide, by decide, by decide +kernel⟩
def wK62_become_42  (σ : gM) (Q : gM → Prop) : Prop :=
    ((σ 42 0) = nI 0 ∨ (σ 42 0) = nI 1) ∧ (∀ σ1 : gM, σ1 = gU σ 62 0 (σ 42 0) → (∀ σ2 : gM, σ2 = gU σ1 62 1 (σ1 42 1) → (∀ σ3 : gM, σ3 = gU σ2 62 2 (σ2 42 2) → (∀ σ4 : gM, σ4 = gU σ3 62 3 (σ3 42 3) → (∀ σ5 : gM, σ5 = gU σ4 62 4 (σ4 42 4) → (∀ σ6 : gM, σ6 = gU σ5 62 5 (σ5 42 5) → (∀ σ7 : gM, σ7 = gCp σ6 43 0 63 0 4 → (∀ σ8 : gM, σ8 = gCp σ7 44 0 64 0 4 → (∀ σ9 : gM, σ9 = gCp σ8 45 0 65 0 4 → (∀ σ10 : gM, σ10 = gCp σ9 46 0 66 0 4 → (∀ σ11 : gM, σ11 = gCp σ10 47 0 67 0 16 → (∀ σ12 : gM, σ12 = gCp σ11 48 0 68 0 16 → (∀ σ13 : gM, σ13 = gCp σ12 49 0 69 0 16 → (∀ σ14 : gM, σ14 = gCp σ13 50 0 70 0 16 → (∀ σ15 : gM, σ15 = gCp σ14 51 0 71 0 16 → (Q σ15))))))))))))))))
set_option maxHeartbeats 4000000 in
set_option maxRecDepth 100000 in
theorem kK62_become_42  (σ : gM) (Q : gM → Prop) (h : wK62_become_42  σ Q) : CT yX2_become cX2_become 2 none rmK_become (fun G => [.ref (gad G 62), .ref (gad G 42)]) σ (gPv Q) := by
  refine c_enter (by decide) (fun _ => Nat.le_of_ble_eq_true rfl) (fun X hC hR => ?_)
  show V X 2 0 [(0, .ref (xad X 62)), (1, .ref (xad X 42))] [] σ
  replace h : ((σ 42 0) = nI 0 ∨ (σ 42 0) = nI 1) ∧ (∀ σ1 : gM, σ1 = gU σ 62 0 (σ 42 0) → (∀ σ2 : gM, σ2 = gU σ1 62 1 (σ1 42 1) → (∀ σ3 : gM, σ3 = gU σ2 62 2 (σ2 42 2) → (∀ σ4 : gM, σ4 = gU σ3 62 3 (σ3 42 3) → (∀ σ5 : gM, σ5 = gU σ4 62 4 (σ4 42 4) → (∀ σ6 : gM, σ6 = gU σ5 62 5 (σ5 42 5) → (∀ σ7 : gM, σ7 = gCp σ6 43 0 63 0 4 → (∀ σ8 : gM, σ8 = gCp σ7 44 0 64 0 4 → (∀ σ9 : gM, σ9 = gCp σ8 45 0 65 0 4 → (∀ σ10 : gM, σ10 = gCp σ9 46 0 66 0 4 → (∀ σ11 : gM, σ11 = gCp σ10 47 0 67 0 16 → (∀ σ12 : gM, σ12 = gCp σ11 48 0 68 0 16 → (∀ σ13 : gM, σ13 = gCp σ12 49 0 69 0 16 → (∀ σ14 : gM, σ14 = gCp σ13 50 0 70 0 16 → (∀ σ15 : gM, σ15 = gCp σ14 51 0 71 0 16 → (Q σ15)))))))))))))))) := h
  refine v_aload_n hC 0 dX2_become_0 rfl ?_
  refine v_aload_n hC 1 dX2_become_1 rfl ?_
  refine gf_X2_39_42 hC dX2_become_2 ?_
  obtain ⟨hb1, h⟩ := h
  refine pf_X2_39_62 hC hb1 dX2_become_5 (fun σ1 e1 => ?_)
  replace h := h σ1 e1
  refine v_aload_n hC 0 dX2_become_8 rfl ?_
  refine v_aload_n hC 1 dX2_become_9 rfl ?_
  refine gf_X2_43_42 hC dX2_become_10 ?_
  refine pf_X2_43_62 hC dX2_become_13 (fun σ2 e2 => ?_)
  replace h := h σ2 e2
  refine v_aload_n hC 0 dX2_become_16 rfl ?_
  refine v_aload_n hC 1 dX2_become_17 rfl ?_
  refine gf_X2_47_42 hC dX2_become_18 ?_
  refine pf_X2_47_62 hC dX2_become_21 (fun σ3 e3 => ?_)
  replace h := h σ3 e3
  refine v_aload_n hC 0 dX2_become_24 rfl ?_
  refine v_aload_n hC 1 dX2_become_25 rfl ?_
  refine gf_X2_50_42 hC dX2_become_26 ?_
  refine pf_X2_50_62 hC dX2_become_29 (fun σ4 e4 => ?_)
  replace h := h σ4 e4
  refine v_aload_n hC 0 dX2_become_32 rfl ?_
  refine v_aload_n hC 1 dX2_become_33 rfl ?_
  refine gf_X2_53_42 hC dX2_become_34 ?_
  refine pf_X2_53_62 hC dX2_become_37 (fun σ5 e5 => ?_)
  replace h := h σ5 e5
  refine v_aload_n hC 0 dX2_become_40 rfl ?_
  refine v_aload_n hC 1 dX2_become_41 rfl ?_
  refine gf_X2_56_42 hC dX2_become_42 ?_
  refine pf_X2_56_62 hC dX2_become_45 (fun σ6 e6 => ?_)
  replace h := h σ6 e6
  refine v_aload_n hC 1 dX2_become_48 rfl ?_
  refine gf_X2_9_42 hC dX2_become_49 ?_
  refine v_iconst hC (nI 0) dX2_become_52 rfl ?_
  refine v_aload_n hC 0 dX2_become_53 rfl ?_
  refine gf_X2_9_62 hC dX2_become_54 ?_
  refine v_iconst hC (nI 0) dX2_become_57 rfl ?_
  refine v_iconst hC (nI 4) dX2_become_58 rfl ?_
  refine v_copy hC (Nat.le_of_ble_eq_true rfl) (Nat.le_of_ble_eq_true rfl) rfl rfl kw571 kw420 kw419 kw84 (by decide) (by decide) (by decide) (by decide) (by decide) (Nat.le_of_ble_eq_true rfl) (by decide) dX2_become_59 (fun σ7 e7 => ?_)
  replace h := h σ7 e7
  refine v_aload_n hC 1 dX2_become_62 rfl ?_
  refine gf_X2_15_42 hC dX2_become_63 ?_
  refine v_iconst hC (nI 0) dX2_become_66 rfl ?_
  refine v_aload_n hC 0 dX2_become_67 rfl ?_
  refine gf_X2_15_62 hC dX2_become_68 ?_
  refine v_iconst hC (nI 0) dX2_become_71 rfl ?_
  refine v_iconst hC (nI 4) dX2_become_72 rfl ?_
  refine v_copy hC (Nat.le_of_ble_eq_true rfl) (Nat.le_of_ble_eq_true rfl) rfl rfl kw571 kw420 kw419 kw84 (by decide) (by decide) (by decide) (by decide) (by decide) (Nat.le_of_ble_eq_true rfl) (by decide) dX2_become_73 (fun σ8 e8 => ?_)
  replace h := h σ8 e8
  refine v_aload_n hC 1 dX2_become_76 rfl ?_
  refine gf_X2_18_42 hC dX2_become_77 ?_
  refine v_iconst hC (nI 0) dX2_become_80 rfl ?_
  refine v_aload_n hC 0 dX2_become_81 rfl ?_
  refine gf_X2_18_62 hC dX2_become_82 ?_
  refine v_iconst hC (nI 0) dX2_become_85 rfl ?_
  refine v_iconst hC (nI 4) dX2_become_86 rfl ?_
  refine v_copy hC (Nat.le_of_ble_eq_true rfl) (Nat.le_of_ble_eq_true rfl) rfl rfl kw571 kw420 kw419 kw84 (by decide) (by decide) (by decide) (by decide) (by decide) (Nat.le_of_ble_eq_true rfl) (by decide) dX2_become_87 (fun σ9 e9 => ?_)
  replace h := h σ9 e9
  refine v_aload_n hC 1 dX2_become_90 rfl ?_
  refine gf_X2_21_42 hC dX2_become_91 ?_
  refine v_iconst hC (nI 0) dX2_become_94 rfl ?_
  refine v_aload_n hC 0 dX2_become_95 rfl ?_
  refine gf_X2_21_62 hC dX2_become_96 ?_
  refine v_iconst hC (nI 0) dX2_become_99 rfl ?_
  refine v_iconst hC (nI 4) dX2_become_100 rfl ?_
  refine v_copy hC (Nat.le_of_ble_eq_true rfl) (Nat.le_of_ble_eq_true rfl) rfl rfl kw571 kw420 kw419 kw84 (by decide) (by decide) (by decide) (by decide) (by decide) (Nat.le_of_ble_eq_true rfl) (by decide) dX2_become_101 (fun σ10 e10 => ?_)
  replace h := h σ10 e10
  refine v_aload_n hC 1 dX2_become_104 rfl ?_
  refine gf_X2_24_42 hC dX2_become_105 ?_
  refine v_iconst hC (nI 0) dX2_become_108 rfl ?_
  refine v_aload_n hC 0 dX2_become_109 rfl ?_
  refine gf_X2_24_62 hC dX2_become_110 ?_
  refine v_iconst hC (nI 0) dX2_become_113 rfl ?_
  refine v_bipush hC (nI 16) dX2_become_114 rfl ?_
  refine v_copy hC (Nat.le_of_ble_eq_true rfl) (Nat.le_of_ble_eq_true rfl) rfl rfl kw571 kw420 kw419 kw84 (by decide) (by decide) (by decide) (by decide) (by decide) (Nat.le_of_ble_eq_true rfl) (by decide) dX2_become_116 (fun σ11 e11 => ?_)
  replace h := h σ11 e11
  refine v_aload_n hC 1 dX2_become_119 rfl ?_
  refine gf_X2_27_42 hC dX2_become_120 ?_
  refine v_iconst hC (nI 0) dX2_become_123 rfl ?_
  refine v_aload_n hC 0 dX2_become_124 rfl ?_
  refine gf_X2_27_62 hC dX2_become_125 ?_
  refine v_iconst hC (nI 0) dX2_become_128 rfl ?_
  refine v_bipush hC (nI 16) dX2_become_129 rfl ?_
  refine v_copy hC (Nat.le_of_ble_eq_true rfl) (Nat.le_of_ble_eq_true rfl) rfl rfl kw571 kw420 kw419 kw84 (by decide) (by decide) (by decide) (by decide) (by decide) (Nat.le_of_ble_eq_true rfl) (by decide) dX2_become_131 (fun σ12 e12 => ?_)
  replace h := h σ12 e12
  refine v_aload_n hC 1 dX2_become_134 rfl ?_
  refine gf_X2_30_42 hC dX2_become_135 ?_
  refine v_iconst hC (nI 0) dX2_become_138 rfl ?_
  refine v_aload_n hC 0 dX2_become_139 rfl ?_
  refine gf_X2_30_62 hC dX2_become_140 ?_
  refine v_iconst hC (nI 0) dX2_become_143 rfl ?_
  refine v_bipush hC (nI 16) dX2_become_144 rfl ?_
  refine v_copy hC (Nat.le_of_ble_eq_true rfl) (Nat.le_of_ble_eq_true rfl) rfl rfl kw571 kw420 kw419 kw84 (by decide) (by decide) (by decide) (by decide) (by decide) (Nat.le_of_ble_eq_true rfl) (by decide) dX2_become_146 (fun σ13 e13 => ?_)
  replace h := h σ13 e13
  refine v_aload_n hC 1 dX2_become_149 rfl ?_
  refine gf_X2_33_42 hC dX2_become_150 ?_
  refine v_iconst hC (nI 0) dX2_become_153 rfl ?_
  refine v_aload_n hC 0 dX2_become_154 rfl ?_
  refine gf_X2_33_62 hC dX2_become_155 ?_
  refine v_iconst hC (nI 0) dX2_become_158 rfl ?_
  refine v_bipush hC (nI 16) dX2_become_159 rfl ?_
  refine v_copy hC (Nat.le_of_ble_eq_true rfl) (Nat.le_of_ble_eq_true rfl) rfl rfl kw571 kw420 kw419 kw84 (by decide) (by decide) (by decide) (by decide) (by decide) (Nat.le_of_ble_eq_true rfl) (by decide) dX2_become_161 (fun σ14 e14 => ?_)
  replace h := h σ14 e14
  refine v_aload_n hC 1 dX2_become_164 rfl ?_
  refine gf_X2_36_42 hC dX2_become_165 ?_
  refine v_iconst hC (nI 0) dX2_become_168 rfl ?_
  refine v_aload_n hC 0 dX2_become_169 rfl ?_
  refine gf_X2_36_62 hC dX2_become_170 ?_
  refine v_iconst hC (nI 0) dX2_become_173 rfl ?_
  refine v_bipush hC (nI 16) dX2_become_174 rfl ?_
  refine v_copy hC (Nat.le_of_ble_eq_true rfl) (Nat.le_of_ble_eq_true rfl) rfl rfl kw571 kw420 kw419 kw84 (by decide) (by decide) (by decide) (by decide) (by decide) (Nat.le_of_ble_eq_true rfl) (by decide) dX2_become_176 (fun σ15 e15 => ?_)
  replace h := h σ15 e15
  exact v_vret hC hR h dX2_become_179
def wK72_become_42  (σ : gM) (Q : gM → Prop) : Prop :=
    ((σ 42 0) = nI 0 ∨ (σ 42 0) = nI 1) ∧ (∀ σ1 : gM, σ1 = gU σ 72 0 (σ 42 0) → (∀ σ2 : gM, σ2 = gU σ1 72 1 (σ1 42 1) → (∀ σ3 : gM, σ3 = gU σ2 72 2 (σ2 42 2) → (∀ σ4 : gM, σ4 = gU σ3 72 3 (σ3 42 3) → (∀ σ5 : gM, σ5 = gU σ4 72 4 (σ4 42 4) → (∀ σ6 : gM, σ6 = gU σ5 72 5 (σ5 42 5) → (∀ σ7 : gM, σ7 = gCp σ6 43 0 73 0 4 → (∀ σ8 : gM, σ8 = gCp σ7 44 0 74 0 4 → (∀ σ9 : gM, σ9 = gCp σ8 45 0 75 0 4 → (∀ σ10 : gM, σ10 = gCp σ9 46 0 76 0 4 → (∀ σ11 : gM, σ11 = gCp σ10 47 0 77 0 16 → (∀ σ12 : gM, σ12 = gCp σ11 48 0 78 0 16 → (∀ σ13 : gM, σ13 = gCp σ12 49 0 79 0 16 → (∀ σ14 : gM, σ14 = gCp σ13 50 0 80 0 16 → (∀ σ15 : gM, σ15 = gCp σ14 51 0 81 0 16 → (Q σ15))))))))))))))))
set_option maxHeartbeats 4000000 in
set_option maxRecDepth 100000 in
theorem kK72_become_42  (σ : gM) (Q : gM → Prop) (h : wK72_become_42  σ Q) : CT yX2_become cX2_become 2 none rmK_become (fun G => [.ref (gad G 72), .ref (gad G 42)]) σ (gPv Q) := by
  refine c_enter (by decide) (fun _ => Nat.le_of_ble_eq_true rfl) (fun X hC hR => ?_)
  show V X 2 0 [(0, .ref (xad X 72)), (1, .ref (xad X 42))] [] σ
  replace h : ((σ 42 0) = nI 0 ∨ (σ 42 0) = nI 1) ∧ (∀ σ1 : gM, σ1 = gU σ 72 0 (σ 42 0) → (∀ σ2 : gM, σ2 = gU σ1 72 1 (σ1 42 1) → (∀ σ3 : gM, σ3 = gU σ2 72 2 (σ2 42 2) → (∀ σ4 : gM, σ4 = gU σ3 72 3 (σ3 42 3) → (∀ σ5 : gM, σ5 = gU σ4 72 4 (σ4 42 4) → (∀ σ6 : gM, σ6 = gU σ5 72 5 (σ5 42 5) → (∀ σ7 : gM, σ7 = gCp σ6 43 0 73 0 4 → (∀ σ8 : gM, σ8 = gCp σ7 44 0 74 0 4 → (∀ σ9 : gM, σ9 = gCp σ8 45 0 75 0 4 → (∀ σ10 : gM, σ10 = gCp σ9 46 0 76 0 4 → (∀ σ11 : gM, σ11 = gCp σ10 47 0 77 0 16 → (∀ σ12 : gM, σ12 = gCp σ11 48 0 78 0 16 → (∀ σ13 : gM, σ13 = gCp σ12 49 0 79 0 16 → (∀ σ14 : gM, σ14 = gCp σ13 50 0 80 0 16 → (∀ σ15 : gM, σ15 = gCp σ14 51 0 81 0 16 → (Q σ15)))))))))))))))) := h
  refine v_aload_n hC 0 dX2_become_0 rfl ?_
  refine v_aload_n hC 1 dX2_become_1 rfl ?_
  refine gf_X2_39_42 hC dX2_become_2 ?_
  obtain ⟨hb1, h⟩ := h
  refine pf_X2_39_72 hC hb1 dX2_become_5 (fun σ1 e1 => ?_)
  replace h := h σ1 e1
  refine v_aload_n hC 0 dX2_become_8 rfl ?_
  refine v_aload_n hC 1 dX2_become_9 rfl ?_
  refine gf_X2_43_42 hC dX2_become_10 ?_
  refine pf_X2_43_72 hC dX2_become_13 (fun σ2 e2 => ?_)
  replace h := h σ2 e2
  refine v_aload_n hC 0 dX2_become_16 rfl ?_
  refine v_aload_n hC 1 dX2_become_17 rfl ?_
  refine gf_X2_47_42 hC dX2_become_18 ?_
  refine pf_X2_47_72 hC dX2_become_21 (fun σ3 e3 => ?_)
  replace h := h σ3 e3
  refine v_aload_n hC 0 dX2_become_24 rfl ?_
  refine v_aload_n hC 1 dX2_become_25 rfl ?_
  refine gf_X2_50_42 hC dX2_become_26 ?_
  refine pf_X2_50_72 hC dX2_become_29 (fun σ4 e4 => ?_)
  replace h := h σ4 e4
  refine v_aload_n hC 0 dX2_become_32 rfl ?_
  refine v_aload_n hC 1 dX2_become_33 rfl ?_
  refine gf_X2_53_42 hC dX2_become_34 ?_
  refine pf_X2_53_72 hC dX2_become_37 (fun σ5 e5 => ?_)
  replace h := h σ5 e5
  refine v_aload_n hC 0 dX2_become_40 rfl ?_
  refine v_aload_n hC 1 dX2_become_41 rfl ?_
  refine gf_X2_56_42 hC dX2_become_42 ?_
  refine pf_X2_56_72 hC dX2_become_45 (fun σ6 e6 => ?_)
  replace h := h σ6 e6
  refine v_aload_n hC 1 dX2_become_48 rfl ?_
  refine gf_X2_9_42 hC dX2_become_49 ?_
  refine v_iconst hC (nI 0) dX2_become_52 rfl ?_
  refine v_aload_n hC 0 dX2_become_53 rfl ?_
  refine gf_X2_9_72 hC dX2_become_54 ?_
  refine v_iconst hC (nI 0) dX2_become_57 rfl ?_
  refine v_iconst hC (nI 4) dX2_become_58 rfl ?_
  refine v_copy hC (Nat.le_of_ble_eq_true rfl) (Nat.le_of_ble_eq_true rfl) rfl rfl kw571 kw420 kw419 kw84 (by decide) (by decide) (by decide) (by decide) (by decide) (Nat.le_of_ble_eq_true rfl) (by decide) dX2_become_59 (fun σ7 e7 => ?_)
  replace h := h σ7 e7
  refine v_aload_n hC 1 dX2_become_62 rfl ?_
  refine gf_X2_15_42 hC dX2_become_63 ?_
  refine v_iconst hC (nI 0) dX2_become_66 rfl ?_
  refine v_aload_n hC 0 dX2_become_67 rfl ?_
  refine gf_X2_15_72 hC dX2_become_68 ?_
  refine v_iconst hC (nI 0) dX2_become_71 rfl ?_
  refine v_iconst hC (nI 4) dX2_become_72 rfl ?_
  refine v_copy hC (Nat.le_of_ble_eq_true rfl) (Nat.le_of_ble_eq_true rfl) rfl rfl kw571 kw420 kw419 kw84 (by decide) (by decide) (by decide) (by decide) (by decide) (Nat.le_of_ble_eq_true rfl) (by decide) dX2_become_73 (fun σ8 e8 => ?_)
  replace h := h σ8 e8
  refine v_aload_n hC 1 dX2_become_76 rfl ?_
  refine gf_X2_18_42 hC dX2_become_77 ?_
  refine v_iconst hC (nI 0) dX2_become_80 rfl ?_
  refine v_aload_n hC 0 dX2_become_81 rfl ?_
  refine gf_X2_18_72 hC dX2_become_82 ?_
  refine v_iconst hC (nI 0) dX2_become_85 rfl ?_
  refine v_iconst hC (nI 4) dX2_become_86 rfl ?_
  refine v_copy hC (Nat.le_of_ble_eq_true rfl) (Nat.le_of_ble_eq_true rfl) rfl rfl kw571 kw420 kw419 kw84 (by decide) (by decide) (by decide) (by decide) (by decide) (Nat.le_of_ble_eq_true rfl) (by decide) dX2_become_87 (fun σ9 e9 => ?_)
  replace h := h σ9 e9
  refine v_aload_n hC 1 dX2_become_90 rfl ?_
  refine gf_X2_21_42 hC dX2_become_91 ?_
  refine v_iconst hC (nI 0) dX2_become_94 rfl ?_
  refine v_aload_n hC 0 dX2_become_95 rfl ?_
  refine gf_X2_21_72 hC dX2_become_96 ?_
  refine v_iconst hC (nI 0) dX2_become_99 rfl ?_
  refine v_iconst hC (nI 4) dX2_become_100 rfl ?_
  refine v_copy hC (Nat.le_of_ble_eq_true rfl) (Nat.le_of_ble_eq_true rfl) rfl rfl kw571 kw420 kw419 kw84 (by decide) (by decide) (by decide) (by decide) (by decide) (Nat.le_of_ble_eq_true rfl) (by decide) dX2_become_101 (fun σ10 e10 => ?_)
  replace h := h σ10 e10
  refine v_aload_n hC 1 dX2_become_104 rfl ?_
  refine gf_X2_24_42 hC dX2_become_105 ?_
  refine v_iconst hC (nI 0) dX2_become_108 rfl ?_
  refine v_aload_n hC 0 dX2_become_109 rfl ?_
  refine gf_X2_24_72 hC dX2_become_110 ?_
  refine v_iconst hC (nI 0) dX2_become_113 rfl ?_
  refine v_bipush hC (nI 16) dX2_become_114 rfl ?_
  refine v_copy hC (Nat.le_of_ble_eq_true rfl) (Nat.le_of_ble_eq_true rfl) rfl rfl kw571 kw420 kw419 kw84 (by decide) (by decide) (by decide) (by decide) (by decide) (Nat.le_of_ble_eq_true rfl) (by decide) dX2_become_116 (fun σ11 e11 => ?_)
  replace h := h σ11 e11
  refine v_aload_n hC 1 dX2_become_119 rfl ?_
  refine gf_X2_27_42 hC dX2_become_120 ?_
  refine v_iconst hC (nI 0) dX2_become_123 rfl ?_
  refine v_aload_n hC 0 dX2_become_124 rfl ?_
  refine gf_X2_27_72 hC dX2_become_125 ?_
  refine v_iconst hC (nI 0) dX2_become_128 rfl ?_
  refine v_bipush hC (nI 16) dX2_become_129 rfl ?_
  refine v_copy hC (Nat.le_of_ble_eq_true rfl) (Nat.le_of_ble_eq_true rfl) rfl rfl kw571 kw420 kw419 kw84 (by decide) (by decide) (by decide) (by decide) (by decide) (Nat.le_of_ble_eq_true rfl) (by decide) dX2_become_131 (fun σ12 e12 => ?_)
  replace h := h σ12 e12
  refine v_aload_n hC 1 dX2_become_134 rfl ?_
  refine gf_X2_30_42 hC dX2_become_135 ?_
  refine v_iconst hC (nI 0) dX2_become_138 rfl ?_
  refine v_aload_n hC 0 dX2_become_139 rfl ?_
  refine gf_X2_30_72 hC dX2_become_140 ?_
  refine v_iconst hC (nI 0) dX2_become_143 rfl ?_
  refine v_bipush hC (nI 16) dX2_become_144 rfl ?_
  refine v_copy hC (Nat.le_of_ble_eq_true rfl) (Nat.le_of_ble_eq_true rfl) rfl rfl kw571 kw420 kw419 kw84 (by decide) (by decide) (by decide) (by decide) (by decide) (Nat.le_of_ble_eq_true rfl) (by decide) dX2_become_146 (fun σ13 e13 => ?_)
  replace h := h σ13 e13
  refine v_aload_n hC 1 dX2_become_149 rfl ?_
  refine gf_X2_33_42 hC dX2_become_150 ?_
  refine v_iconst hC (nI 0) dX2_become_153 rfl ?_
  refine v_aload_n hC 0 dX2_become_154 rfl ?_
  refine gf_X2_33_72 hC dX2_become_155 ?_
  refine v_iconst hC (nI 0) dX2_become_158 rfl ?_
  refine v_bipush hC (nI 16) dX2_become_159 rfl ?_
  refine v_copy hC (Nat.le_of_ble_eq_true rfl) (Nat.le_of_ble_eq_true rfl) rfl rfl kw571 kw420 kw419 kw84 (by decide) (by decide) (by decide) (by decide) (by decide) (Nat.le_of_ble_eq_true rfl) (by decide) dX2_become_161 (fun σ14 e14 => ?_)
  replace h := h σ14 e14
  refine v_aload_n hC 1 dX2_become_164 rfl ?_
  refine gf_X2_36_42 hC dX2_become_165 ?_
  refine v_iconst hC (nI 0) dX2_become_168 rfl ?_
  refine v_aload_n hC 0 dX2_become_169 rfl ?_
  refine gf_X2_36_72 hC dX2_become_170 ?_
  refine v_iconst hC (nI 0) dX2_become_173 rfl ?_
  refine v_bipush hC (nI 16) dX2_become_174 rfl ?_
  refine v_copy hC (Nat.le_of_ble_eq_true rfl) (Nat.le_of_ble_eq_true rfl) rfl rfl kw571 kw420 kw419 kw84 (by decide) (by decide) (by decide) (by decide) (by decide) (Nat.le_of_ble_eq_true rfl) (by decide) dX2_become_176 (fun σ15 e15 => ?_)
  replace h := h σ15 e15
  exact v_vret hC hR h dX2_become_179
def rmH_image : Room := { frames := 2, cells := 0, slots := 0, locals := 81 }
def wH_image (x1 : Int32) (σ : gM) (Q : Int32 → gM → Prop) : Prop :=
    (x1 < nI 0 → (Q (-1000001 : Int32) σ)) ∧ (¬ (x1 < nI 0) → ((x1 < (nI 2) → (((σ 42 0) = nI 0 → (Q (-1000002 : Int32) σ)) ∧ (¬ ((σ 42 0) = nI 0) → ((x1 = nI 0 ∨ x1 = nI 1) ∧ (x1 = nI 0 → (wK62_become_42  σ (fun (σ6 : gM) => Q (nI 1) σ6))) ∧ (x1 = nI 1 → (wK72_become_42  σ (fun (σ8 : gM) => Q (nI 1) σ8))))))) ∧ (¬ (x1 < (nI 2)) → (Q (-1000001 : Int32) σ))))
set_option maxHeartbeats 4000000 in
set_option maxRecDepth 100000 in
theorem kH_image (x1 : Int32) (σ : gM) (Q : Int32 → gM → Prop) (h : wH_image x1 σ Q) : CT yX6_image cX6_image 2 (some .int) rmH_image (fun G => [.ref (gad G 0), .int x1]) σ (gPi Q) := by
  refine c_enter (by decide) (fun _ => Nat.le_of_ble_eq_true rfl) (fun X hC hR => ?_)
  show V X 2 0 [(0, .ref (xad X 0)), (1, .int x1)] [] σ
  replace h : (x1 < nI 0 → (Q (-1000001 : Int32) σ)) ∧ (¬ (x1 < nI 0) → ((x1 < (nI 2) → (((σ 42 0) = nI 0 → (Q (-1000002 : Int32) σ)) ∧ (¬ ((σ 42 0) = nI 0) → ((x1 = nI 0 ∨ x1 = nI 1) ∧ (x1 = nI 0 → (wK62_become_42  σ (fun (σ6 : gM) => Q (nI 1) σ6))) ∧ (x1 = nI 1 → (wK72_become_42  σ (fun (σ8 : gM) => Q (nI 1) σ8))))))) ∧ (¬ (x1 < (nI 2)) → (Q (-1000001 : Int32) σ)))) := h
  refine v_iload_n hC 1 dX6_image_0 rfl ?_
  refine v_if_lt hC 9 dX6_image_1 (by decide) (fun c1 => ?_) (fun c1 => ?_)
  · replace h := h.1 c1
    refine v_ldc hC kw377 dX6_image_9 ?_
    exact v_iret hC hR h dX6_image_11
  · replace h := h.2 c1
    refine v_iload_n hC 1 dX6_image_4 rfl ?_
    refine v_iconst hC (nI 2) dX6_image_5 rfl ?_
    refine v_icmp_lt hC 12 dX6_image_6 (by decide) (fun c2 => ?_) (fun c2 => ?_)
    · replace h := h.1 c2
      refine v_aload_n hC 0 dX6_image_12 rfl ?_
      refine gf_X6_25 hC dX6_image_13 ?_
      refine gf_X6_168_42 hC dX6_image_16 ?_
      refine v_if_ne hC 25 dX6_image_19 (by decide) (fun c3 => ?_) (fun c3 => ?_)
      · replace h := h.2 c3
        refine v_aload_n hC 0 dX6_image_25 rfl ?_
        refine gf_X6_32 hC dX6_image_26 ?_
        refine v_iload_n hC 1 dX6_image_29 rfl ?_
        obtain ⟨hq, h⟩ := h
        rcases hq with hq | hq
        · replace h := h.1 hq
          refine v_img0 hC hq dX6_image_30 ?_
          refine v_aload_n hC 0 dX6_image_31 rfl ?_
          refine gf_X6_25 hC dX6_image_32 ?_
          refine v_callV hC (kK62_become_42  _ _ h) cmK_become ⟨kw574, kw575⟩ kw573 ⟨Nat.le_of_ble_eq_true rfl, Nat.le_of_ble_eq_true rfl⟩ (Nat.le_of_ble_eq_true rfl) rfl (ci := 2) (T := TX2) (N := 15) rfl (As := fun G => [.ref (gad G 42)]) (fun _ => rfl) (fun _ => rfl) (st := []) (Nat.le_of_ble_eq_true rfl) rfl dX6_image_35 (kk_v (fun σ6 h => ?_))
          refine v_iconst hC (nI 1) dX6_image_38 rfl ?_
          exact v_iret hC hR h dX6_image_39
        · replace h := h.2 hq
          refine v_img1 hC hq dX6_image_30 ?_
          refine v_aload_n hC 0 dX6_image_31 rfl ?_
          refine gf_X6_25 hC dX6_image_32 ?_
          refine v_callV hC (kK72_become_42  _ _ h) cmK_become ⟨kw574, kw575⟩ kw573 ⟨Nat.le_of_ble_eq_true rfl, Nat.le_of_ble_eq_true rfl⟩ (Nat.le_of_ble_eq_true rfl) rfl (ci := 2) (T := TX2) (N := 15) rfl (As := fun G => [.ref (gad G 42)]) (fun _ => rfl) (fun _ => rfl) (st := []) (Nat.le_of_ble_eq_true rfl) rfl dX6_image_35 (kk_v (fun σ8 h => ?_))
          refine v_iconst hC (nI 1) dX6_image_38 rfl ?_
          exact v_iret hC hR h dX6_image_39
      · replace h := h.1 c3
        refine v_ldc hC kw598 dX6_image_22 ?_
        exact v_iret hC hR h dX6_image_24
    · replace h := h.2 c2
      refine v_ldc hC kw377 dX6_image_9 ?_
      exact v_iret hC hR h dX6_image_11
theorem cmH_image : CM yX6_image cX6_image 2 (some .int) rmH_image 1 := ⟨kw75, kw883, rfl, rfl, by decide, by decide, by decide +kernel⟩
def wK42_become_62  (σ : gM) (Q : gM → Prop) : Prop :=
    ((σ 62 0) = nI 0 ∨ (σ 62 0) = nI 1) ∧ (∀ σ1 : gM, σ1 = gU σ 42 0 (σ 62 0) → (∀ σ2 : gM, σ2 = gU σ1 42 1 (σ1 62 1) → (∀ σ3 : gM, σ3 = gU σ2 42 2 (σ2 62 2) → (∀ σ4 : gM, σ4 = gU σ3 42 3 (σ3 62 3) → (∀ σ5 : gM, σ5 = gU σ4 42 4 (σ4 62 4) → (∀ σ6 : gM, σ6 = gU σ5 42 5 (σ5 62 5) → (∀ σ7 : gM, σ7 = gCp σ6 63 0 43 0 4 → (∀ σ8 : gM, σ8 = gCp σ7 64 0 44 0 4 → (∀ σ9 : gM, σ9 = gCp σ8 65 0 45 0 4 → (∀ σ10 : gM, σ10 = gCp σ9 66 0 46 0 4 → (∀ σ11 : gM, σ11 = gCp σ10 67 0 47 0 16 → (∀ σ12 : gM, σ12 = gCp σ11 68 0 48 0 16 → (∀ σ13 : gM, σ13 = gCp σ12 69 0 49 0 16 → (∀ σ14 : gM, σ14 = gCp σ13 70 0 50 0 16 → (∀ σ15 : gM, σ15 = gCp σ14 71 0 51 0 16 → (Q σ15))))))))))))))))
set_option maxHeartbeats 4000000 in
set_option maxRecDepth 100000 in
theorem kK42_become_62  (σ : gM) (Q : gM → Prop) (h : wK42_become_62  σ Q) : CT yX2_become cX2_become 2 none rmK_become (fun G => [.ref (gad G 42), .ref (gad G 62)]) σ (gPv Q) := by
  refine c_enter (by decide) (fun _ => Nat.le_of_ble_eq_true rfl) (fun X hC hR => ?_)
  show V X 2 0 [(0, .ref (xad X 42)), (1, .ref (xad X 62))] [] σ
  replace h : ((σ 62 0) = nI 0 ∨ (σ 62 0) = nI 1) ∧ (∀ σ1 : gM, σ1 = gU σ 42 0 (σ 62 0) → (∀ σ2 : gM, σ2 = gU σ1 42 1 (σ1 62 1) → (∀ σ3 : gM, σ3 = gU σ2 42 2 (σ2 62 2) → (∀ σ4 : gM, σ4 = gU σ3 42 3 (σ3 62 3) → (∀ σ5 : gM, σ5 = gU σ4 42 4 (σ4 62 4) → (∀ σ6 : gM, σ6 = gU σ5 42 5 (σ5 62 5) → (∀ σ7 : gM, σ7 = gCp σ6 63 0 43 0 4 → (∀ σ8 : gM, σ8 = gCp σ7 64 0 44 0 4 → (∀ σ9 : gM, σ9 = gCp σ8 65 0 45 0 4 → (∀ σ10 : gM, σ10 = gCp σ9 66 0 46 0 4 → (∀ σ11 : gM, σ11 = gCp σ10 67 0 47 0 16 → (∀ σ12 : gM, σ12 = gCp σ11 68 0 48 0 16 → (∀ σ13 : gM, σ13 = gCp σ12 69 0 49 0 16 → (∀ σ14 : gM, σ14 = gCp σ13 70 0 50 0 16 → (∀ σ15 : gM, σ15 = gCp σ14 71 0 51 0 16 → (Q σ15)))))))))))))))) := h
  refine v_aload_n hC 0 dX2_become_0 rfl ?_
  refine v_aload_n hC 1 dX2_become_1 rfl ?_
  refine gf_X2_39_62 hC dX2_become_2 ?_
  obtain ⟨hb1, h⟩ := h
  refine pf_X2_39_42 hC hb1 dX2_become_5 (fun σ1 e1 => ?_)
  replace h := h σ1 e1
  refine v_aload_n hC 0 dX2_become_8 rfl ?_
  refine v_aload_n hC 1 dX2_become_9 rfl ?_
  refine gf_X2_43_62 hC dX2_become_10 ?_
  refine pf_X2_43_42 hC dX2_become_13 (fun σ2 e2 => ?_)
  replace h := h σ2 e2
  refine v_aload_n hC 0 dX2_become_16 rfl ?_
  refine v_aload_n hC 1 dX2_become_17 rfl ?_
  refine gf_X2_47_62 hC dX2_become_18 ?_
  refine pf_X2_47_42 hC dX2_become_21 (fun σ3 e3 => ?_)
  replace h := h σ3 e3
  refine v_aload_n hC 0 dX2_become_24 rfl ?_
  refine v_aload_n hC 1 dX2_become_25 rfl ?_
  refine gf_X2_50_62 hC dX2_become_26 ?_
  refine pf_X2_50_42 hC dX2_become_29 (fun σ4 e4 => ?_)
  replace h := h σ4 e4
  refine v_aload_n hC 0 dX2_become_32 rfl ?_
  refine v_aload_n hC 1 dX2_become_33 rfl ?_
  refine gf_X2_53_62 hC dX2_become_34 ?_
  refine pf_X2_53_42 hC dX2_become_37 (fun σ5 e5 => ?_)
  replace h := h σ5 e5
  refine v_aload_n hC 0 dX2_become_40 rfl ?_
  refine v_aload_n hC 1 dX2_become_41 rfl ?_
  refine gf_X2_56_62 hC dX2_become_42 ?_
  refine pf_X2_56_42 hC dX2_become_45 (fun σ6 e6 => ?_)
  replace h := h σ6 e6
  refine v_aload_n hC 1 dX2_become_48 rfl ?_
  refine gf_X2_9_62 hC dX2_become_49 ?_
  refine v_iconst hC (nI 0) dX2_become_52 rfl ?_
  refine v_aload_n hC 0 dX2_become_53 rfl ?_
  refine gf_X2_9_42 hC dX2_become_54 ?_
  refine v_iconst hC (nI 0) dX2_become_57 rfl ?_
  refine v_iconst hC (nI 4) dX2_become_58 rfl ?_
  refine v_copy hC (Nat.le_of_ble_eq_true rfl) (Nat.le_of_ble_eq_true rfl) rfl rfl kw571 kw420 kw419 kw84 (by decide) (by decide) (by decide) (by decide) (by decide) (Nat.le_of_ble_eq_true rfl) (by decide) dX2_become_59 (fun σ7 e7 => ?_)
  replace h := h σ7 e7
  refine v_aload_n hC 1 dX2_become_62 rfl ?_
  refine gf_X2_15_62 hC dX2_become_63 ?_
  refine v_iconst hC (nI 0) dX2_become_66 rfl ?_
  refine v_aload_n hC 0 dX2_become_67 rfl ?_
  refine gf_X2_15_42 hC dX2_become_68 ?_
  refine v_iconst hC (nI 0) dX2_become_71 rfl ?_
  refine v_iconst hC (nI 4) dX2_become_72 rfl ?_
  refine v_copy hC (Nat.le_of_ble_eq_true rfl) (Nat.le_of_ble_eq_true rfl) rfl rfl kw571 kw420 kw419 kw84 (by decide) (by decide) (by decide) (by decide) (by decide) (Nat.le_of_ble_eq_true rfl) (by decide) dX2_become_73 (fun σ8 e8 => ?_)
  replace h := h σ8 e8
  refine v_aload_n hC 1 dX2_become_76 rfl ?_
  refine gf_X2_18_62 hC dX2_become_77 ?_
  refine v_iconst hC (nI 0) dX2_become_80 rfl ?_
  refine v_aload_n hC 0 dX2_become_81 rfl ?_
  refine gf_X2_18_42 hC dX2_become_82 ?_
  refine v_iconst hC (nI 0) dX2_become_85 rfl ?_
  refine v_iconst hC (nI 4) dX2_become_86 rfl ?_
  refine v_copy hC (Nat.le_of_ble_eq_true rfl) (Nat.le_of_ble_eq_true rfl) rfl rfl kw571 kw420 kw419 kw84 (by decide) (by decide) (by decide) (by decide) (by decide) (Nat.le_of_ble_eq_true rfl) (by decide) dX2_become_87 (fun σ9 e9 => ?_)
  replace h := h σ9 e9
  refine v_aload_n hC 1 dX2_become_90 rfl ?_
  refine gf_X2_21_62 hC dX2_become_91 ?_
  refine v_iconst hC (nI 0) dX2_become_94 rfl ?_
  refine v_aload_n hC 0 dX2_become_95 rfl ?_
  refine gf_X2_21_42 hC dX2_become_96 ?_
  refine v_iconst hC (nI 0) dX2_become_99 rfl ?_
  refine v_iconst hC (nI 4) dX2_become_100 rfl ?_
  refine v_copy hC (Nat.le_of_ble_eq_true rfl) (Nat.le_of_ble_eq_true rfl) rfl rfl kw571 kw420 kw419 kw84 (by decide) (by decide) (by decide) (by decide) (by decide) (Nat.le_of_ble_eq_true rfl) (by decide) dX2_become_101 (fun σ10 e10 => ?_)
  replace h := h σ10 e10
  refine v_aload_n hC 1 dX2_become_104 rfl ?_
  refine gf_X2_24_62 hC dX2_become_105 ?_
  refine v_iconst hC (nI 0) dX2_become_108 rfl ?_
  refine v_aload_n hC 0 dX2_become_109 rfl ?_
  refine gf_X2_24_42 hC dX2_become_110 ?_
  refine v_iconst hC (nI 0) dX2_become_113 rfl ?_
  refine v_bipush hC (nI 16) dX2_become_114 rfl ?_
  refine v_copy hC (Nat.le_of_ble_eq_true rfl) (Nat.le_of_ble_eq_true rfl) rfl rfl kw571 kw420 kw419 kw84 (by decide) (by decide) (by decide) (by decide) (by decide) (Nat.le_of_ble_eq_true rfl) (by decide) dX2_become_116 (fun σ11 e11 => ?_)
  replace h := h σ11 e11
  refine v_aload_n hC 1 dX2_become_119 rfl ?_
  refine gf_X2_27_62 hC dX2_become_120 ?_
  refine v_iconst hC (nI 0) dX2_become_123 rfl ?_
  refine v_aload_n hC 0 dX2_become_124 rfl ?_
  refine gf_X2_27_42 hC dX2_become_125 ?_
  refine v_iconst hC (nI 0) dX2_become_128 rfl ?_
  refine v_bipush hC (nI 16) dX2_become_129 rfl ?_
  refine v_copy hC (Nat.le_of_ble_eq_true rfl) (Nat.le_of_ble_eq_true rfl) rfl rfl kw571 kw420 kw419 kw84 (by decide) (by decide) (by decide) (by decide) (by decide) (Nat.le_of_ble_eq_true rfl) (by decide) dX2_become_131 (fun σ12 e12 => ?_)
  replace h := h σ12 e12
  refine v_aload_n hC 1 dX2_become_134 rfl ?_
  refine gf_X2_30_62 hC dX2_become_135 ?_
  refine v_iconst hC (nI 0) dX2_become_138 rfl ?_
  refine v_aload_n hC 0 dX2_become_139 rfl ?_
  refine gf_X2_30_42 hC dX2_become_140 ?_
  refine v_iconst hC (nI 0) dX2_become_143 rfl ?_
  refine v_bipush hC (nI 16) dX2_become_144 rfl ?_
  refine v_copy hC (Nat.le_of_ble_eq_true rfl) (Nat.le_of_ble_eq_true rfl) rfl rfl kw571 kw420 kw419 kw84 (by decide) (by decide) (by decide) (by decide) (by decide) (Nat.le_of_ble_eq_true rfl) (by decide) dX2_become_146 (fun σ13 e13 => ?_)
  replace h := h σ13 e13
  refine v_aload_n hC 1 dX2_become_149 rfl ?_
  refine gf_X2_33_62 hC dX2_become_150 ?_
  refine v_iconst hC (nI 0) dX2_become_153 rfl ?_
  refine v_aload_n hC 0 dX2_become_154 rfl ?_
  refine gf_X2_33_42 hC dX2_become_155 ?_
  refine v_iconst hC (nI 0) dX2_become_158 rfl ?_
  refine v_bipush hC (nI 16) dX2_become_159 rfl ?_
  refine v_copy hC (Nat.le_of_ble_eq_true rfl) (Nat.le_of_ble_eq_true rfl) rfl rfl kw571 kw420 kw419 kw84 (by decide) (by decide) (by decide) (by decide) (by decide) (Nat.le_of_ble_eq_true rfl) (by decide) dX2_become_161 (fun σ14 e14 => ?_)
  replace h := h σ14 e14
  refine v_aload_n hC 1 dX2_become_164 rfl ?_
  refine gf_X2_36_62 hC dX2_become_165 ?_
  refine v_iconst hC (nI 0) dX2_become_168 rfl ?_
  refine v_aload_n hC 0 dX2_become_169 rfl ?_
  refine gf_X2_36_42 hC dX2_become_170 ?_
  refine v_iconst hC (nI 0) dX2_become_173 rfl ?_
  refine v_bipush hC (nI 16) dX2_become_174 rfl ?_
  refine v_copy hC (Nat.le_of_ble_eq_true rfl) (Nat.le_of_ble_eq_true rfl) rfl rfl kw571 kw420 kw419 kw84 (by decide) (by decide) (by decide) (by decide) (by decide) (Nat.le_of_ble_eq_true rfl) (by decide) dX2_become_176 (fun σ15 e15 => ?_)
  replace h := h σ15 e15
  exact v_vret hC hR h dX2_become_179
