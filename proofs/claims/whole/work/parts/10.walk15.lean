def rmM_ware : Room := { frames := 2, cells := 0, slots := 0, locals := 46 }
def wM_ware (x1 : Int32) (x2 : Int32) (σ : gM) (Q : Int32 → gM → Prop) : Prop :=
    wM_isWareAt x1 σ (fun (r2 : Int32) (σ2 : gM) => (r2 = nI 0 → (Q (-1000001 : Int32) σ2)) ∧ (¬ (r2 = nI 0) → ((x2 = (nI 0) → (vp_in (((nI 22) + ((nI 4) * x1)) + (nI 1)) 102 ∧ (Q (σ2 89 (((nI 22) + ((nI 4) * x1)) + (nI 1)).toNatClampNeg) σ2))) ∧ (x2 = (nI 1) → (vp_in (((nI 22) + ((nI 4) * x1)) + (nI 2)) 102 ∧ (Q (σ2 89 (((nI 22) + ((nI 4) * x1)) + (nI 2)).toNatClampNeg) σ2))) ∧ (x2 = (nI 2) → (wM_valueOf x1 (nI 0) σ2 (fun (r8 : Int32) (σ8 : gM) => Q r8 σ8))) ∧ (x2 = (nI 3) → (wM_placeOf x1 σ2 (fun (r10 : Int32) (σ10 : gM) => Q r10 σ10))) ∧ (x2 = (nI 4) → (vp_in (((nI 22) + ((nI 4) * x1)) + (nI 3)) 102 ∧ (Q (σ2 89 (((nI 22) + ((nI 4) * x1)) + (nI 3)).toNatClampNeg) σ2))) ∧ (x2 = (nI 5) → (wM_valueOf x1 (nI 0) σ2 (fun (r13 : Int32) (σ13 : gM) => ∀ v15 : Int32, v15 = (if r13 = nI 0 then (nI 1) else (nI 0)) → (Q v15 σ13)))) ∧ ((¬ x2 = (nI 0) ∧ ¬ x2 = (nI 1) ∧ ¬ x2 = (nI 2) ∧ ¬ x2 = (nI 3) ∧ ¬ x2 = (nI 4) ∧ ¬ x2 = (nI 5)) → (Q (-1000001 : Int32) σ2)))))
set_option maxHeartbeats 4000000 in
set_option maxRecDepth 100000 in
theorem kM_ware (x1 : Int32) (x2 : Int32) (σ : gM) (Q : Int32 → gM → Prop) (h : wM_ware x1 x2 σ Q) : CT yX7_ware cX7_ware 3 (some .int) rmM_ware (fun G => [.ref (gad G 82), .int x1, .int x2]) σ (gPi Q) := by
  refine c_enter (by decide) (fun _ => Nat.le_of_ble_eq_true rfl) (fun X hC hR => ?_)
  show V X 3 0 [(0, .ref (xad X 82)), (1, .int x1), (2, .int x2)] [] σ
  replace h : wM_isWareAt x1 σ (fun (r2 : Int32) (σ2 : gM) => (r2 = nI 0 → (Q (-1000001 : Int32) σ2)) ∧ (¬ (r2 = nI 0) → ((x2 = (nI 0) → (vp_in (((nI 22) + ((nI 4) * x1)) + (nI 1)) 102 ∧ (Q (σ2 89 (((nI 22) + ((nI 4) * x1)) + (nI 1)).toNatClampNeg) σ2))) ∧ (x2 = (nI 1) → (vp_in (((nI 22) + ((nI 4) * x1)) + (nI 2)) 102 ∧ (Q (σ2 89 (((nI 22) + ((nI 4) * x1)) + (nI 2)).toNatClampNeg) σ2))) ∧ (x2 = (nI 2) → (wM_valueOf x1 (nI 0) σ2 (fun (r8 : Int32) (σ8 : gM) => Q r8 σ8))) ∧ (x2 = (nI 3) → (wM_placeOf x1 σ2 (fun (r10 : Int32) (σ10 : gM) => Q r10 σ10))) ∧ (x2 = (nI 4) → (vp_in (((nI 22) + ((nI 4) * x1)) + (nI 3)) 102 ∧ (Q (σ2 89 (((nI 22) + ((nI 4) * x1)) + (nI 3)).toNatClampNeg) σ2))) ∧ (x2 = (nI 5) → (wM_valueOf x1 (nI 0) σ2 (fun (r13 : Int32) (σ13 : gM) => ∀ v15 : Int32, v15 = (if r13 = nI 0 then (nI 1) else (nI 0)) → (Q v15 σ13)))) ∧ ((¬ x2 = (nI 0) ∧ ¬ x2 = (nI 1) ∧ ¬ x2 = (nI 2) ∧ ¬ x2 = (nI 3) ∧ ¬ x2 = (nI 4) ∧ ¬ x2 = (nI 5)) → (Q (-1000001 : Int32) σ2))))) := h
  refine v_aload_n hC 0 dX7_ware_0 rfl ?_
  refine v_iload_n hC 1 dX7_ware_1 rfl ?_
  refine v_callV hC (kM_isWareAt _ _ _ h) cmM_isWareAt ⟨kw1203, kw61⟩ kw1201 ⟨Nat.le_of_ble_eq_true rfl, Nat.le_of_ble_eq_true rfl⟩ (Nat.le_of_ble_eq_true rfl) rfl (ci := 7) (T := TX7) (N := 30) rfl (As := fun G => [.int x1]) (fun _ => rfl) (fun _ => rfl) (st := []) (Nat.le_of_ble_eq_true rfl) rfl dX7_ware_2 (kk_i (fun r2 σ2 h => ?_))
  refine v_if_ne hC 11 dX7_ware_5 (by decide) (fun c3 => ?_) (fun c3 => ?_)
  · replace h := h.2 c3
    refine v_iload_n hC 2 dX7_ware_11 rfl ?_
    by_cases q4_0 : x2 = (nI 0)
    · replace h := h.1 q4_0
      refine v_tableIn hC (nI 0) 52 dX7_ware_12 q4_0 (by decide) (by decide) rfl (by decide) ?_
      refine v_aload_n hC 0 dX7_ware_52 rfl ?_
      refine gf_X7_28 hC dX7_ware_53 ?_
      refine v_bipush hC (nI 22) dX7_ware_56 rfl ?_
      refine v_iconst hC (nI 4) dX7_ware_58 rfl ?_
      refine v_iload_n hC 1 dX7_ware_59 rfl ?_
      refine v_imul hC dX7_ware_60 ?_
      refine v_iadd hC dX7_ware_61 ?_
      refine v_iconst hC (nI 1) dX7_ware_62 rfl ?_
      refine v_iadd hC dX7_ware_63 ?_
      obtain ⟨hi5, h⟩ := h
      refine v_iald hC (Nat.le_of_ble_eq_true rfl) rfl rfl hi5 dX7_ware_64 ?_
      exact v_iret hC hR h dX7_ware_65
    · by_cases q4_1 : x2 = (nI 1)
      · replace h := h.2.1 q4_1
        refine v_tableIn hC (nI 1) 66 dX7_ware_12 q4_1 (by decide) (by decide) rfl (by decide) ?_
        refine v_aload_n hC 0 dX7_ware_66 rfl ?_
        refine gf_X7_28 hC dX7_ware_67 ?_
        refine v_bipush hC (nI 22) dX7_ware_70 rfl ?_
        refine v_iconst hC (nI 4) dX7_ware_72 rfl ?_
        refine v_iload_n hC 1 dX7_ware_73 rfl ?_
        refine v_imul hC dX7_ware_74 ?_
        refine v_iadd hC dX7_ware_75 ?_
        refine v_iconst hC (nI 2) dX7_ware_76 rfl ?_
        refine v_iadd hC dX7_ware_77 ?_
        obtain ⟨hi6, h⟩ := h
        refine v_iald hC (Nat.le_of_ble_eq_true rfl) rfl rfl hi6 dX7_ware_78 ?_
        exact v_iret hC hR h dX7_ware_79
      · by_cases q4_2 : x2 = (nI 2)
        · replace h := h.2.2.1 q4_2
          refine v_tableIn hC (nI 2) 80 dX7_ware_12 q4_2 (by decide) (by decide) rfl (by decide) ?_
          refine v_aload_n hC 0 dX7_ware_80 rfl ?_
          refine v_iload_n hC 1 dX7_ware_81 rfl ?_
          refine v_iconst hC (nI 0) dX7_ware_82 rfl ?_
          refine v_callV hC (kM_valueOf _ _ _ _ h) cmM_valueOf ⟨kw1152, kw53⟩ kw1150 ⟨Nat.le_of_ble_eq_true rfl, Nat.le_of_ble_eq_true rfl⟩ (Nat.le_of_ble_eq_true rfl) rfl (ci := 7) (T := TX7) (N := 30) rfl (As := fun G => [.int x1, .int (nI 0)]) (fun _ => rfl) (fun _ => rfl) (st := []) (Nat.le_of_ble_eq_true rfl) rfl dX7_ware_83 (kk_i (fun r8 σ8 h => ?_))
          exact v_iret hC hR h dX7_ware_86
        · by_cases q4_3 : x2 = (nI 3)
          · replace h := h.2.2.2.1 q4_3
            refine v_tableIn hC (nI 3) 87 dX7_ware_12 q4_3 (by decide) (by decide) rfl (by decide) ?_
            refine v_aload_n hC 0 dX7_ware_87 rfl ?_
            refine v_iload_n hC 1 dX7_ware_88 rfl ?_
            refine v_callV hC (kM_placeOf _ _ _ h) cmM_placeOf ⟨kw1207, kw62⟩ kw1205 ⟨Nat.le_of_ble_eq_true rfl, Nat.le_of_ble_eq_true rfl⟩ (Nat.le_of_ble_eq_true rfl) rfl (ci := 7) (T := TX7) (N := 30) rfl (As := fun G => [.int x1]) (fun _ => rfl) (fun _ => rfl) (st := []) (Nat.le_of_ble_eq_true rfl) rfl dX7_ware_89 (kk_i (fun r10 σ10 h => ?_))
            exact v_iret hC hR h dX7_ware_92
          · by_cases q4_4 : x2 = (nI 4)
            · replace h := h.2.2.2.2.1 q4_4
              refine v_tableIn hC (nI 4) 93 dX7_ware_12 q4_4 (by decide) (by decide) rfl (by decide) ?_
              refine v_aload_n hC 0 dX7_ware_93 rfl ?_
              refine gf_X7_28 hC dX7_ware_94 ?_
              refine v_bipush hC (nI 22) dX7_ware_97 rfl ?_
              refine v_iconst hC (nI 4) dX7_ware_99 rfl ?_
              refine v_iload_n hC 1 dX7_ware_100 rfl ?_
              refine v_imul hC dX7_ware_101 ?_
              refine v_iadd hC dX7_ware_102 ?_
              refine v_iconst hC (nI 3) dX7_ware_103 rfl ?_
              refine v_iadd hC dX7_ware_104 ?_
              obtain ⟨hi11, h⟩ := h
              refine v_iald hC (Nat.le_of_ble_eq_true rfl) rfl rfl hi11 dX7_ware_105 ?_
              exact v_iret hC hR h dX7_ware_106
            · by_cases q4_5 : x2 = (nI 5)
              · replace h := h.2.2.2.2.2.1 q4_5
                refine v_tableIn hC (nI 5) 107 dX7_ware_12 q4_5 (by decide) (by decide) rfl (by decide) ?_
                refine v_aload_n hC 0 dX7_ware_107 rfl ?_
                refine v_iload_n hC 1 dX7_ware_108 rfl ?_
                refine v_iconst hC (nI 0) dX7_ware_109 rfl ?_
                refine v_callV hC (kM_valueOf _ _ _ _ h) cmM_valueOf ⟨kw1152, kw53⟩ kw1150 ⟨Nat.le_of_ble_eq_true rfl, Nat.le_of_ble_eq_true rfl⟩ (Nat.le_of_ble_eq_true rfl) rfl (ci := 7) (T := TX7) (N := 30) rfl (As := fun G => [.int x1, .int (nI 0)]) (fun _ => rfl) (fun _ => rfl) (st := []) (Nat.le_of_ble_eq_true rfl) rfl dX7_ware_110 (kk_i (fun r13 σ13 h => ?_))
                have J14 : ∀ (v15 : Int32) (ev15 : v15 = (if r13 = nI 0 then (nI 1) else (nI 0))), V X 3 121 [] [.int v15] σ13 := by
                  intro v15 ev15
                  replace h := h v15 ev15
                  exact v_iret hC hR h dX7_ware_121
                refine v_if_ne hC 120 dX7_ware_113 (by decide) (fun c14 => ?_) (fun c14 => ?_)
                · refine v_iconst hC (nI 0) dX7_ware_120 rfl ?_
                  exact V.sub [] rfl (J14 _ (by rw [if_neg c14]))
                · refine v_iconst hC (nI 1) dX7_ware_116 rfl ?_
                  refine v_goto hC 121 dX7_ware_117 (by decide) ?_
                  exact V.sub [] rfl (J14 _ (by rw [if_pos c14]))
              · replace h := h.2.2.2.2.2.2 ⟨q4_0, q4_1, q4_2, q4_3, q4_4, q4_5⟩
                refine v_tableOut hC 122 dX7_ware_12 (sw_out _ _ (fun j hj1 hj2 => by have hj : j = 0 ∨ j = 1 ∨ j = 2 ∨ j = 3 ∨ j = 4 ∨ j = 5 := (by omega); rcases hj with rfl | rfl | rfl | rfl | rfl | rfl <;> first | exact q4_0 | exact q4_1 | exact q4_2 | exact q4_3 | exact q4_4 | exact q4_5)) (by decide) ?_
                refine v_ldc hC kw1053 dX7_ware_122 ?_
                exact v_iret hC hR h dX7_ware_124
  · replace h := h.1 c3
    refine v_ldc hC kw1053 dX7_ware_8 ?_
    exact v_iret hC hR h dX7_ware_10
theorem cmM_ware : CM yX7_ware cX7_ware 3 (some .int) rmM_ware 2 := ⟨kw82, kw1200, rfl, rfl, by decide, by decide, by decide +kernel⟩
def rmM_buyer : Room := { frames := 2, cells := 0, slots := 0, locals := 43 }
def wM_buyer (x1 : Int32) (x2 : Int32) (σ : gM) (Q : Int32 → gM → Prop) : Prop :=
    wM_isBuyerAt x1 σ (fun (r2 : Int32) (σ2 : gM) => (r2 = nI 0 → (Q (-1000001 : Int32) σ2)) ∧ (¬ (r2 = nI 0) → (wM_in x2 (nI 0) (nI 3) σ2 (fun (r5 : Int32) (σ5 : gM) => ((r5 = nI 0 → (True)) ∧ (¬ (r5 = nI 0) → (vp_in (((nI 6) + ((nI 4) * x1)) + x2) 102 ∧ True))) ∧ (∀ v8 : Int32, v8 = (if r5 = nI 0 then (-1000001 : Int32) else (σ5 89 (((nI 6) + ((nI 4) * x1)) + x2).toNatClampNeg)) → (Q v8 σ5))))))
set_option maxHeartbeats 4000000 in
set_option maxRecDepth 100000 in
theorem kM_buyer (x1 : Int32) (x2 : Int32) (σ : gM) (Q : Int32 → gM → Prop) (h : wM_buyer x1 x2 σ Q) : CT yX7_buyer cX7_buyer 3 (some .int) rmM_buyer (fun G => [.ref (gad G 82), .int x1, .int x2]) σ (gPi Q) := by
  refine c_enter (by decide) (fun _ => Nat.le_of_ble_eq_true rfl) (fun X hC hR => ?_)
  show V X 3 0 [(0, .ref (xad X 82)), (1, .int x1), (2, .int x2)] [] σ
  replace h : wM_isBuyerAt x1 σ (fun (r2 : Int32) (σ2 : gM) => (r2 = nI 0 → (Q (-1000001 : Int32) σ2)) ∧ (¬ (r2 = nI 0) → (wM_in x2 (nI 0) (nI 3) σ2 (fun (r5 : Int32) (σ5 : gM) => ((r5 = nI 0 → (True)) ∧ (¬ (r5 = nI 0) → (vp_in (((nI 6) + ((nI 4) * x1)) + x2) 102 ∧ True))) ∧ (∀ v8 : Int32, v8 = (if r5 = nI 0 then (-1000001 : Int32) else (σ5 89 (((nI 6) + ((nI 4) * x1)) + x2).toNatClampNeg)) → (Q v8 σ5)))))) := h
  refine v_aload_n hC 0 dX7_buyer_0 rfl ?_
  refine v_iload_n hC 1 dX7_buyer_1 rfl ?_
  refine v_callV hC (kM_isBuyerAt _ _ _ h) cmM_isBuyerAt ⟨kw1143, kw51⟩ kw1141 ⟨Nat.le_of_ble_eq_true rfl, Nat.le_of_ble_eq_true rfl⟩ (Nat.le_of_ble_eq_true rfl) rfl (ci := 7) (T := TX7) (N := 30) rfl (As := fun G => [.int x1]) (fun _ => rfl) (fun _ => rfl) (st := []) (Nat.le_of_ble_eq_true rfl) rfl dX7_buyer_2 (kk_i (fun r2 σ2 h => ?_))
  refine v_if_eq hC 33 dX7_buyer_5 (by decide) (fun c3 => ?_) (fun c3 => ?_)
  · replace h := h.1 c3
    refine v_ldc hC kw1053 dX7_buyer_33 ?_
    exact v_iret hC hR h dX7_buyer_35
  · replace h := h.2 c3
    refine v_iload_n hC 2 dX7_buyer_8 rfl ?_
    refine v_iconst hC (nI 0) dX7_buyer_9 rfl ?_
    refine v_iconst hC (nI 3) dX7_buyer_10 rfl ?_
    refine v_callS hC (kM_in _ _ _ _ _ h) cmM_in kw1051 kw1050 ⟨Nat.le_of_ble_eq_true rfl, Nat.le_of_ble_eq_true rfl⟩ (fun _ => rfl) (st := []) (Nat.le_of_ble_eq_true rfl) rfl dX7_buyer_11 (kk_i (fun r5 σ5 h => ?_))
    obtain ⟨hO6, h⟩ := h
    have J6 : ∀ (v8 : Int32) (ev8 : v8 = (if r5 = nI 0 then (-1000001 : Int32) else (σ5 89 (((nI 6) + ((nI 4) * x1)) + x2).toNatClampNeg))), V X 3 35 [] [.int v8] σ5 := by
      intro v8 ev8
      replace h := h v8 ev8
      exact v_iret hC hR h dX7_buyer_35
    refine v_if_eq hC 33 dX7_buyer_14 (by decide) (fun c6 => ?_) (fun c6 => ?_)
    · replace h := hO6.1 c6
      refine v_ldc hC kw1053 dX7_buyer_33 ?_
      exact V.sub [] rfl (J6 _ (by rw [if_pos c6]))
    · replace h := hO6.2 c6
      refine v_aload_n hC 0 dX7_buyer_17 rfl ?_
      refine gf_X7_28 hC dX7_buyer_18 ?_
      refine v_bipush hC (nI 6) dX7_buyer_21 rfl ?_
      refine v_iconst hC (nI 4) dX7_buyer_23 rfl ?_
      refine v_iload_n hC 1 dX7_buyer_24 rfl ?_
      refine v_imul hC dX7_buyer_25 ?_
      refine v_iadd hC dX7_buyer_26 ?_
      refine v_iload_n hC 2 dX7_buyer_27 rfl ?_
      refine v_iadd hC dX7_buyer_28 ?_
      obtain ⟨hi9, h⟩ := h
      refine v_iald hC (Nat.le_of_ble_eq_true rfl) rfl rfl hi9 dX7_buyer_29 ?_
      refine v_goto hC 35 dX7_buyer_30 (by decide) ?_
      exact V.sub [] rfl (J6 _ (by rw [if_neg c6]))
theorem cmM_buyer : CM yX7_buyer cX7_buyer 3 (some .int) rmM_buyer 2 := ⟨kw82, kw1212, rfl, rfl, by decide, by decide, by decide +kernel⟩
def rmM_worth : Room := { frames := 3, cells := 0, slots := 0, locals := 69 }
def wM_worth (x1 : Int32) (x2 : Int32) (σ : gM) (Q : Int32 → gM → Prop) : Prop :=
    wM_isWareAt x1 σ (fun (r2 : Int32) (σ2 : gM) => (r2 = nI 0 → (Q (-1000001 : Int32) σ2)) ∧ (¬ (r2 = nI 0) → (wM_isBuyerAt x2 σ2 (fun (r5 : Int32) (σ5 : gM) => (r5 = nI 0 → (Q (-1000001 : Int32) σ5)) ∧ (¬ (r5 = nI 0) → (wM_worthOf x1 x2 (nI 0) σ5 (fun (r8 : Int32) (σ8 : gM) => Q r8 σ8)))))))
set_option maxHeartbeats 4000000 in
set_option maxRecDepth 100000 in
theorem kM_worth (x1 : Int32) (x2 : Int32) (σ : gM) (Q : Int32 → gM → Prop) (h : wM_worth x1 x2 σ Q) : CT yX7_worth cX7_worth 3 (some .int) rmM_worth (fun G => [.ref (gad G 82), .int x1, .int x2]) σ (gPi Q) := by
  refine c_enter (by decide) (fun _ => Nat.le_of_ble_eq_true rfl) (fun X hC hR => ?_)
  show V X 3 0 [(0, .ref (xad X 82)), (1, .int x1), (2, .int x2)] [] σ
  replace h : wM_isWareAt x1 σ (fun (r2 : Int32) (σ2 : gM) => (r2 = nI 0 → (Q (-1000001 : Int32) σ2)) ∧ (¬ (r2 = nI 0) → (wM_isBuyerAt x2 σ2 (fun (r5 : Int32) (σ5 : gM) => (r5 = nI 0 → (Q (-1000001 : Int32) σ5)) ∧ (¬ (r5 = nI 0) → (wM_worthOf x1 x2 (nI 0) σ5 (fun (r8 : Int32) (σ8 : gM) => Q r8 σ8))))))) := h
  refine v_aload_n hC 0 dX7_worth_0 rfl ?_
  refine v_iload_n hC 1 dX7_worth_1 rfl ?_
  refine v_callV hC (kM_isWareAt _ _ _ h) cmM_isWareAt ⟨kw1203, kw61⟩ kw1201 ⟨Nat.le_of_ble_eq_true rfl, Nat.le_of_ble_eq_true rfl⟩ (Nat.le_of_ble_eq_true rfl) rfl (ci := 7) (T := TX7) (N := 30) rfl (As := fun G => [.int x1]) (fun _ => rfl) (fun _ => rfl) (st := []) (Nat.le_of_ble_eq_true rfl) rfl dX7_worth_2 (kk_i (fun r2 σ2 h => ?_))
  refine v_if_eq hC 26 dX7_worth_5 (by decide) (fun c3 => ?_) (fun c3 => ?_)
  · replace h := h.1 c3
    refine v_ldc hC kw1053 dX7_worth_26 ?_
    exact v_iret hC hR h dX7_worth_28
  · replace h := h.2 c3
    refine v_aload_n hC 0 dX7_worth_8 rfl ?_
    refine v_iload_n hC 2 dX7_worth_9 rfl ?_
    refine v_callV hC (kM_isBuyerAt _ _ _ h) cmM_isBuyerAt ⟨kw1143, kw51⟩ kw1141 ⟨Nat.le_of_ble_eq_true rfl, Nat.le_of_ble_eq_true rfl⟩ (Nat.le_of_ble_eq_true rfl) rfl (ci := 7) (T := TX7) (N := 30) rfl (As := fun G => [.int x2]) (fun _ => rfl) (fun _ => rfl) (st := []) (Nat.le_of_ble_eq_true rfl) rfl dX7_worth_10 (kk_i (fun r5 σ5 h => ?_))
    refine v_if_eq hC 26 dX7_worth_13 (by decide) (fun c6 => ?_) (fun c6 => ?_)
    · replace h := h.1 c6
      refine v_ldc hC kw1053 dX7_worth_26 ?_
      exact v_iret hC hR h dX7_worth_28
    · replace h := h.2 c6
      refine v_aload_n hC 0 dX7_worth_16 rfl ?_
      refine v_iload_n hC 1 dX7_worth_17 rfl ?_
      refine v_iload_n hC 2 dX7_worth_18 rfl ?_
      refine v_iconst hC (nI 0) dX7_worth_19 rfl ?_
      refine v_callV hC (kM_worthOf _ _ _ _ _ h) cmM_worthOf ⟨kw1160, kw55⟩ kw1158 ⟨Nat.le_of_ble_eq_true rfl, Nat.le_of_ble_eq_true rfl⟩ (Nat.le_of_ble_eq_true rfl) rfl (ci := 7) (T := TX7) (N := 30) rfl (As := fun G => [.int x1, .int x2, .int (nI 0)]) (fun _ => rfl) (fun _ => rfl) (st := []) (Nat.le_of_ble_eq_true rfl) rfl dX7_worth_20 (kk_i (fun r8 σ8 h => ?_))
      refine v_goto hC 28 dX7_worth_23 (by decide) ?_
      exact v_iret hC hR h dX7_worth_28
theorem cmM_worth : CM yX7_worth cX7_worth 3 (some .int) rmM_worth 2 := ⟨kw82, kw1216, rfl, rfl, by decide, by decide, by decide +kernel⟩
def rmM_areUnlike : Room := { frames := 2, cells := 0, slots := 0, locals := 43 }
def wM_areUnlike (x1 : Int32) (x2 : Int32) (σ : gM) (Q : Int32 → gM → Prop) : Prop :=
    wM_isBuyerAt x1 σ (fun (r2 : Int32) (σ2 : gM) => (r2 = nI 0 → (Q (nI 0) σ2)) ∧ (¬ (r2 = nI 0) → (wM_isBuyerAt x2 σ2 (fun (r5 : Int32) (σ5 : gM) => ∀ v7 : Int32, v7 = (if r5 = nI 0 then (nI 0) else (if x1 = x2 then (nI 0) else (nI 1))) → ((v7 = nI 0 ∨ v7 = nI 1) ∧ Q v7 σ5)))))
set_option maxHeartbeats 4000000 in
set_option maxRecDepth 100000 in
theorem kM_areUnlike (x1 : Int32) (x2 : Int32) (σ : gM) (Q : Int32 → gM → Prop) (h : wM_areUnlike x1 x2 σ Q) : CT yX7_areUnlike cX7_areUnlike 3 (some .boolean) rmM_areUnlike (fun G => [.ref (gad G 82), .int x1, .int x2]) σ (gPi Q) := by
  refine c_enter (by decide) (fun _ => Nat.le_of_ble_eq_true rfl) (fun X hC hR => ?_)
  show V X 3 0 [(0, .ref (xad X 82)), (1, .int x1), (2, .int x2)] [] σ
  replace h : wM_isBuyerAt x1 σ (fun (r2 : Int32) (σ2 : gM) => (r2 = nI 0 → (Q (nI 0) σ2)) ∧ (¬ (r2 = nI 0) → (wM_isBuyerAt x2 σ2 (fun (r5 : Int32) (σ5 : gM) => ∀ v7 : Int32, v7 = (if r5 = nI 0 then (nI 0) else (if x1 = x2 then (nI 0) else (nI 1))) → ((v7 = nI 0 ∨ v7 = nI 1) ∧ Q v7 σ5))))) := h
  refine v_aload_n hC 0 dX7_areUnlike_0 rfl ?_
  refine v_iload_n hC 1 dX7_areUnlike_1 rfl ?_
  refine v_callV hC (kM_isBuyerAt _ _ _ h) cmM_isBuyerAt ⟨kw1143, kw51⟩ kw1141 ⟨Nat.le_of_ble_eq_true rfl, Nat.le_of_ble_eq_true rfl⟩ (Nat.le_of_ble_eq_true rfl) rfl (ci := 7) (T := TX7) (N := 30) rfl (As := fun G => [.int x1]) (fun _ => rfl) (fun _ => rfl) (st := []) (Nat.le_of_ble_eq_true rfl) rfl dX7_areUnlike_2 (kk_i (fun r2 σ2 h => ?_))
  refine v_if_eq hC 25 dX7_areUnlike_5 (by decide) (fun c3 => ?_) (fun c3 => ?_)
  · replace h := h.1 c3
    refine v_iconst hC (nI 0) dX7_areUnlike_25 rfl ?_
    exact v_zret hC hR rfl h dX7_areUnlike_26
  · replace h := h.2 c3
    refine v_aload_n hC 0 dX7_areUnlike_8 rfl ?_
    refine v_iload_n hC 2 dX7_areUnlike_9 rfl ?_
    refine v_callV hC (kM_isBuyerAt _ _ _ h) cmM_isBuyerAt ⟨kw1143, kw51⟩ kw1141 ⟨Nat.le_of_ble_eq_true rfl, Nat.le_of_ble_eq_true rfl⟩ (Nat.le_of_ble_eq_true rfl) rfl (ci := 7) (T := TX7) (N := 30) rfl (As := fun G => [.int x2]) (fun _ => rfl) (fun _ => rfl) (st := []) (Nat.le_of_ble_eq_true rfl) rfl dX7_areUnlike_10 (kk_i (fun r5 σ5 h => ?_))
    have J6 : ∀ (v7 : Int32) (ev7 : v7 = (if r5 = nI 0 then (nI 0) else (if x1 = x2 then (nI 0) else (nI 1)))), V X 3 26 [] [.int v7] σ5 := by
      intro v7 ev7
      replace h := h v7 ev7
      obtain ⟨hb, h⟩ := h
      exact v_zret hC hR (nar_bool hb) h dX7_areUnlike_26
    refine v_if_eq hC 25 dX7_areUnlike_13 (by decide) (fun c6 => ?_) (fun c6 => ?_)
    · refine v_iconst hC (nI 0) dX7_areUnlike_25 rfl ?_
      exact V.sub [] rfl (J6 _ (by rw [if_pos c6]))
    · refine v_iload_n hC 1 dX7_areUnlike_16 rfl ?_
      refine v_iload_n hC 2 dX7_areUnlike_17 rfl ?_
      have J8 : V X 3 26 [] [.int (if x1 = x2 then (nI 0) else (nI 1))] σ5 := by
        exact V.sub [] rfl (J6 _ (by rw [if_neg c6]))
      refine v_icmp_eq hC 25 dX7_areUnlike_18 (by decide) (fun c8 => ?_) (fun c8 => ?_)
      · refine v_iconst hC (nI 0) dX7_areUnlike_25 rfl ?_
        rw [if_pos c8] at J8
        exact V.sub [] rfl J8
      · refine v_iconst hC (nI 1) dX7_areUnlike_21 rfl ?_
        refine v_goto hC 26 dX7_areUnlike_22 (by decide) ?_
        rw [if_neg c8] at J8
        exact V.sub [] rfl J8
theorem cmM_areUnlike : CM yX7_areUnlike cX7_areUnlike 3 (some .boolean) rmM_areUnlike 2 := ⟨kw82, kw1224, rfl, rfl, by decide, by decide, by decide +kernel⟩
def rmM_layHeap : Room := { frames := 1, cells := 0, slots := 0, locals := 21 }
def wM_layHeap_l2 (Q : gM → Prop)  : Nat → Int32 → gM → Prop
  | 0, _, _ => False
  | n + 1, x1, σ =>
    ((σ 89 5) ≤ x1 → (Q σ)) ∧ (¬ ((σ 89 5) ≤ x1) → (wM_heap x1 σ (fun (r4 : Int32) (σ4 : gM) => vp_in x1 16 ∧ (∀ σ5 : gM, σ5 = gU σ4 94 x1.toNatClampNeg r4 → (∀ x1_6 : Int32, x1_6 = x1 + (nI 1) → (wM_layHeap_l2 Q n x1_6 σ5))))))
def wM_layHeap  (σ : gM) (Q : gM → Prop) : Prop :=
    ∃ n7 : Nat, wM_layHeap_l2 Q n7 (nI 0) σ
set_option maxHeartbeats 4000000 in
set_option maxRecDepth 100000 in
theorem tM_layHeap_l2 {X : gX} {Q : gM → Prop} (hC : VC X cX7_layHeap RX7 2 rmM_layHeap) (hR : VR X none (gPv Q))  : ∀ (n : Nat) (x1 : Int32) (σ : gM), wM_layHeap_l2 Q  n x1 σ → V X 2 2 [(0, .ref (xad X 82)), (1, .int x1)] [] σ := by
  intro n
  induction n with
  | zero => intro x1 σ h; exact h.elim
  | succ n ih =>
    intro x1 σ h
    replace h : ((σ 89 5) ≤ x1 → (Q σ)) ∧ (¬ ((σ 89 5) ≤ x1) → (wM_heap x1 σ (fun (r4 : Int32) (σ4 : gM) => vp_in x1 16 ∧ (∀ σ5 : gM, σ5 = gU σ4 94 x1.toNatClampNeg r4 → (∀ x1_6 : Int32, x1_6 = x1 + (nI 1) → (wM_layHeap_l2 Q n x1_6 σ5)))))) := h
    refine v_iload_n hC 1 dX7_layHeap_2 rfl ?_
    refine v_aload_n hC 0 dX7_layHeap_3 rfl ?_
    refine gf_X7_28 hC dX7_layHeap_4 ?_
    refine v_iconst hC (nI 5) dX7_layHeap_7 rfl ?_
    refine v_iald hC (Nat.le_of_ble_eq_true rfl) rfl (j := 5) (by decide) (by unfold vp_in; decide) dX7_layHeap_8 ?_
    refine v_icmp_ge hC 29 dX7_layHeap_9 (by decide) (fun c2 => ?_) (fun c2 => ?_)
    · replace h := h.1 c2
      exact v_vret hC hR h dX7_layHeap_29
    · replace h := h.2 c2
      refine v_aload_n hC 0 dX7_layHeap_12 rfl ?_
      refine gf_X7_44 hC dX7_layHeap_13 ?_
      refine v_iload_n hC 1 dX7_layHeap_16 rfl ?_
      refine v_aload_n hC 0 dX7_layHeap_17 rfl ?_
      refine v_iload_n hC 1 dX7_layHeap_18 rfl ?_
      refine v_callV hC (kM_heap _ _ _ h) cmM_heap ⟨kw1148, kw52⟩ kw1146 ⟨Nat.le_of_ble_eq_true rfl, Nat.le_of_ble_eq_true rfl⟩ (Nat.le_of_ble_eq_true rfl) rfl (ci := 7) (T := TX7) (N := 30) rfl (As := fun G => [.int x1]) (fun _ => rfl) (fun _ => rfl) (st := [.int x1, .ref (xad X 94)]) (Nat.le_of_ble_eq_true rfl) rfl dX7_layHeap_19 (kk_i (fun r4 σ4 h => ?_))
      obtain ⟨hi5, h⟩ := h
      refine v_iast hC (Nat.le_of_ble_eq_true rfl) rfl rfl hi5 dX7_layHeap_22 (fun σ5 e5 => ?_)
      replace h := h σ5 e5
      refine v_iincN hC (nI 1) 1 dX7_layHeap_23 rfl rfl (by decide) (lo2 := fun x1_6 => [(1, .int x1_6), (0, .ref (xad X 82))]) (fun _ => rfl) (fun x1_6 e6 => ?_)
      replace h := h x1_6 e6
      refine v_goto hC 2 dX7_layHeap_26 (by decide) ?_
      exact V.sub [1, 0] rfl (ih _ _ h)
set_option maxHeartbeats 4000000 in
set_option maxRecDepth 100000 in
theorem kM_layHeap  (σ : gM) (Q : gM → Prop) (h : wM_layHeap  σ Q) : CT yX7_layHeap cX7_layHeap 2 none rmM_layHeap (fun G => [.ref (gad G 82)]) σ (gPv Q) := by
  refine c_enter (by decide) (fun _ => Nat.le_of_ble_eq_true rfl) (fun X hC hR => ?_)
  show V X 2 0 [(0, .ref (xad X 82))] [] σ
  replace h : ∃ n7 : Nat, wM_layHeap_l2 Q n7 (nI 0) σ := h
  refine v_iconst hC (nI 0) dX7_layHeap_0 rfl ?_
  refine v_istore_n hC dX7_layHeap_1 (by decide) rfl ?_
  obtain ⟨n7, h⟩ := h
  exact V.sub [1, 0] rfl (tM_layHeap_l2 hC hR  n7 _ _ h)
theorem cmM_layHeap : CM yX7_layHeap cX7_layHeap 2 none rmM_layHeap 0 := ⟨kw82, kw1228, rfl, rfl, by decide, by decide, by decide +kernel⟩
def rmM_turnOf : Room := { frames := 0, cells := 0, slots := 0, locals := 0 }
def wM_turnOf (x1 : Int32) (σ : gM) (Q : Int32 → gM → Prop) : Prop :=
    ∀ v3 : Int32, v3 = (if (σ 89 1) = nI 0 then (x1 - x1 / (nI 2) * (nI 2)) else (((x1 + (nI 1)) / (nI 2)) - ((x1 + (nI 1)) / (nI 2)) / (nI 2) * (nI 2))) → (Q v3 σ)
set_option maxHeartbeats 4000000 in
set_option maxRecDepth 100000 in
theorem kM_turnOf (x1 : Int32) (σ : gM) (Q : Int32 → gM → Prop) (h : wM_turnOf x1 σ Q) : CT yX7_turnOf cX7_turnOf 2 (some .int) rmM_turnOf (fun G => [.ref (gad G 82), .int x1]) σ (gPi Q) := by
  refine c_enter (by decide) (fun _ => Nat.le_of_ble_eq_true rfl) (fun X hC hR => ?_)
  show V X 2 0 [(0, .ref (xad X 82)), (1, .int x1)] [] σ
  replace h : ∀ v3 : Int32, v3 = (if (σ 89 1) = nI 0 then (x1 - x1 / (nI 2) * (nI 2)) else (((x1 + (nI 1)) / (nI 2)) - ((x1 + (nI 1)) / (nI 2)) / (nI 2) * (nI 2))) → (Q v3 σ) := h
  refine v_aload_n hC 0 dX7_turnOf_0 rfl ?_
  refine gf_X7_28 hC dX7_turnOf_1 ?_
  refine v_iconst hC (nI 1) dX7_turnOf_4 rfl ?_
  refine v_iald hC (Nat.le_of_ble_eq_true rfl) rfl (j := 1) (by decide) (by unfold vp_in; decide) dX7_turnOf_5 ?_
  have J2 : ∀ (v3 : Int32) (ev3 : v3 = (if (σ 89 1) = nI 0 then (x1 - x1 / (nI 2) * (nI 2)) else (((x1 + (nI 1)) / (nI 2)) - ((x1 + (nI 1)) / (nI 2)) / (nI 2) * (nI 2)))), V X 2 22 [] [.int v3] σ := by
    intro v3 ev3
    replace h := h v3 ev3
    exact v_iret hC hR h dX7_turnOf_22
  refine v_if_ne hC 15 dX7_turnOf_6 (by decide) (fun c2 => ?_) (fun c2 => ?_)
  · refine v_iload_n hC 1 dX7_turnOf_15 rfl ?_
    refine v_iconst hC (nI 1) dX7_turnOf_16 rfl ?_
    refine v_iadd hC dX7_turnOf_17 ?_
    refine v_iconst hC (nI 2) dX7_turnOf_18 rfl ?_
    refine v_idiv hC dX7_turnOf_19 (by decide) ?_
    refine v_iconst hC (nI 2) dX7_turnOf_20 rfl ?_
    refine v_irem hC dX7_turnOf_21 (by decide) ?_
    exact V.sub [] rfl (J2 _ (by rw [if_neg c2]))
  · refine v_iload_n hC 1 dX7_turnOf_9 rfl ?_
    refine v_iconst hC (nI 2) dX7_turnOf_10 rfl ?_
    refine v_irem hC dX7_turnOf_11 (by decide) ?_
    refine v_goto hC 22 dX7_turnOf_12 (by decide) ?_
    exact V.sub [] rfl (J2 _ (by rw [if_pos c2]))
theorem cmM_turnOf : CM yX7_turnOf cX7_turnOf 2 (some .int) rmM_turnOf 1 := ⟨kw82, kw1236, rfl, rfl, by decide, by decide, by decide +kernel⟩
def rmM_layBest : Room := { frames := 3, cells := 0, slots := 0, locals := 69 }
def wM_layBest_b193 (Q : gM → Prop) (K3 : Int32 → Int32 → Int32 → Int32 → Int32 → gM → Prop) (K11 : Int32 → Int32 → Int32 → Int32 → Int32 → Int32 → gM → Prop) (x1 : Int32) (x2 : Int32) (x3 : Int32) (x4 : Int32) (x5 : Int32) (x6 : Int32) (x8 : Int32) (x11 : Int32) (x12 : Int32) (s0 : Int32) (σ : gM) : Prop :=
    ∀ v27 : Int32, v27 = (if x12 < s0 then (x8 + (nI 1)) else (x8 + (nI 17))) → (∀ v29 : Int32, v29 = (if x12 < s0 then s0 else x12) → (((x11 = nI 0 → (vp_in v27 289 ∧ True)) ∧ (¬ (x11 = nI 0) → (True))) ∧ (∀ v32 : Int32, v32 = (if x11 = nI 0 then (σ 95 v27.toNatClampNeg) else v29) → (vp_in x8 289 ∧ (∀ σ33 : gM, σ33 = gU σ 95 x8.toNatClampNeg v32 → (((x11 = nI 0 → (True)) ∧ (¬ (x11 = nI 0) → (vp_in v27 289 ∧ True))) ∧ (∀ v36 : Int32, v36 = (if x11 = nI 0 then v29 else (σ33 96 v27.toNatClampNeg)) → (vp_in x8 289 ∧ (∀ σ37 : gM, σ37 = gU σ33 96 x8.toNatClampNeg v36 → (∀ x6_38 : Int32, x6_38 = x6 + (nI 1) → (K11 x1 x2 x3 x4 x5 x6_38 σ37)))))))))))
def wM_layBest_b147 (Q : gM → Prop) (K3 : Int32 → Int32 → Int32 → Int32 → Int32 → gM → Prop) (K11 : Int32 → Int32 → Int32 → Int32 → Int32 → Int32 → gM → Prop) (x1 : Int32) (x2 : Int32) (x3 : Int32) (x4 : Int32) (x5 : Int32) (x6 : Int32) (x8 : Int32) (x10 : Int32) (x11 : Int32) (s0 : Int32) (σ : gM) : Prop :=
    (x11 = nI 0 → (wM_worthOf x10 x3 (nI 0) σ (fun (r24 : Int32) (σ24 : gM) => vp_in (x8 + (nI 1)) 289 ∧ (wM_layBest_b193 Q K3 K11 x1 x2 x3 x4 x5 x6 x8 x11 s0 (r24 + (σ24 96 (x8 + (nI 1)).toNatClampNeg)) σ24)))) ∧ (¬ (x11 = nI 0) → (wM_worthOf x10 x2 (nI 0) σ (fun (r42 : Int32) (σ42 : gM) => vp_in (x8 + (nI 1)) 289 ∧ (wM_layBest_b193 Q K3 K11 x1 x2 x3 x4 x5 x6 x8 x11 s0 (r42 + (σ42 95 (x8 + (nI 1)).toNatClampNeg)) σ42))))
def wM_layBest_l11 (Q : gM → Prop) (K3 : Int32 → Int32 → Int32 → Int32 → Int32 → gM → Prop) : Nat → Int32 → Int32 → Int32 → Int32 → Int32 → Int32 → gM → Prop
  | 0, _, _, _, _, _, _, _ => False
  | n + 1, x1, x2, x3, x4, x5, x6, σ =>
    (x5 < x6 → (∀ x5_3 : Int32, x5_3 = x5 + (-1 : Int32) → (K3 x1 x2 x3 x4 x5_3 σ))) ∧ (¬ (x5 < x6) → (∀ x7_4 : Int32, x7_4 = (x5 - x6) → (∀ x8_5 : Int32, x8_5 = (((nI 17) * x6) + x7_4) → ((x5 = x1 → (vp_in x8_5 289 ∧ (∀ σ7 : gM, σ7 = gU σ 95 x8_5.toNatClampNeg (nI 0) → (vp_in x8_5 289 ∧ (∀ σ8 : gM, σ8 = gU σ7 96 x8_5.toNatClampNeg (nI 0) → (∀ x6_9 : Int32, x6_9 = x6 + (nI 1) → (wM_layBest_l11 Q K3 n x1 x2 x3 x4 x5 x6_9 σ8))))))) ∧ (¬ (x5 = x1) → (vp_in x6 16 ∧ (∀ x9_11 : Int32, x9_11 = (σ 94 x6.toNatClampNeg) → (vp_in ((x1 - (nI 1)) - x7_4) 16 ∧ (∀ x10_13 : Int32, x10_13 = (σ 94 ((x1 - (nI 1)) - x7_4).toNatClampNeg) → (wM_turnOf (x5 + x4) σ (fun (r15 : Int32) (σ15 : gM) => ∀ v17 : Int32, v17 = (if r15 = nI 0 then (nI 1) else (nI 0)) → ((v17 = nI 0 → (wM_worthOf x9_11 x3 (nI 0) σ15 (fun (r20 : Int32) (σ20 : gM) => vp_in (x8_5 + (nI 17)) 289 ∧ (wM_layBest_b147 Q K3 (wM_layBest_l11 Q K3 n) x1 x2 x3 x4 x5 x6 x8_5 x10_13 v17 (r20 + (σ20 96 (x8_5 + (nI 17)).toNatClampNeg)) σ20)))) ∧ (¬ (v17 = nI 0) → (wM_worthOf x9_11 x2 (nI 0) σ15 (fun (r45 : Int32) (σ45 : gM) => vp_in (x8_5 + (nI 17)) 289 ∧ (wM_layBest_b147 Q K3 (wM_layBest_l11 Q K3 n) x1 x2 x3 x4 x5 x6 x8_5 x10_13 v17 (r45 + (σ45 95 (x8_5 + (nI 17)).toNatClampNeg)) σ45))))))))))))))))
def wM_layBest_l3 (Q : gM → Prop)  : Nat → Int32 → Int32 → Int32 → Int32 → Int32 → gM → Prop
  | 0, _, _, _, _, _, _ => False
  | n + 1, x1, x2, x3, x4, x5, σ =>
    (x5 < nI 0 → (Q σ)) ∧ (¬ (x5 < nI 0) → (∃ n47 : Nat, wM_layBest_l11 Q (wM_layBest_l3 Q n) n47 x1 x2 x3 x4 x5 (nI 0) σ))
def wM_layBest (x1 : Int32) (x2 : Int32) (x3 : Int32) (x4 : Int32) (σ : gM) (Q : gM → Prop) : Prop :=
    ∃ n48 : Nat, wM_layBest_l3 Q n48 x1 x2 x3 x4 x1 σ
set_option maxHeartbeats 4000000 in
set_option maxRecDepth 100000 in
theorem tM_layBest_b193 {X : gX} {Q : gM → Prop} (hC : VC X cX7_layBest RX7 16 rmM_layBest) (hR : VR X none (gPv Q)) {K3 : Int32 → Int32 → Int32 → Int32 → Int32 → gM → Prop} (hK3 : ∀ (x1 : Int32) (x2 : Int32) (x3 : Int32) (x4 : Int32) (x5 : Int32) (σ : gM), K3 x1 x2 x3 x4 x5 σ → V X 16 3 [(0, .ref (xad X 82)), (1, .int x1), (2, .int x2), (3, .int x3), (4, .int x4), (5, .int x5)] [] σ) {K11 : Int32 → Int32 → Int32 → Int32 → Int32 → Int32 → gM → Prop} (hK11 : ∀ (x1 : Int32) (x2 : Int32) (x3 : Int32) (x4 : Int32) (x5 : Int32) (x6 : Int32) (σ : gM), K11 x1 x2 x3 x4 x5 x6 σ → V X 16 11 [(0, .ref (xad X 82)), (1, .int x1), (2, .int x2), (3, .int x3), (4, .int x4), (5, .int x5), (6, .int x6)] [] σ) (x1 : Int32) (x2 : Int32) (x3 : Int32) (x4 : Int32) (x5 : Int32) (x6 : Int32) (x8 : Int32) (x11 : Int32) (x12 : Int32) (s0 : Int32) (σ : gM) (h : wM_layBest_b193 Q K3 K11 x1 x2 x3 x4 x5 x6 x8 x11 x12 s0 σ) : V X 16 193 [(0, .ref (xad X 82)), (1, .int x1), (2, .int x2), (3, .int x3), (4, .int x4), (5, .int x5), (6, .int x6), (8, .int x8), (11, .int x11), (12, .int x12)] [.int s0] σ := by
  replace h : ∀ v27 : Int32, v27 = (if x12 < s0 then (x8 + (nI 1)) else (x8 + (nI 17))) → (∀ v29 : Int32, v29 = (if x12 < s0 then s0 else x12) → (((x11 = nI 0 → (vp_in v27 289 ∧ True)) ∧ (¬ (x11 = nI 0) → (True))) ∧ (∀ v32 : Int32, v32 = (if x11 = nI 0 then (σ 95 v27.toNatClampNeg) else v29) → (vp_in x8 289 ∧ (∀ σ33 : gM, σ33 = gU σ 95 x8.toNatClampNeg v32 → (((x11 = nI 0 → (True)) ∧ (¬ (x11 = nI 0) → (vp_in v27 289 ∧ True))) ∧ (∀ v36 : Int32, v36 = (if x11 = nI 0 then v29 else (σ33 96 v27.toNatClampNeg)) → (vp_in x8 289 ∧ (∀ σ37 : gM, σ37 = gU σ33 96 x8.toNatClampNeg v36 → (∀ x6_38 : Int32, x6_38 = x6 + (nI 1) → (K11 x1 x2 x3 x4 x5 x6_38 σ37))))))))))) := h
  refine v_istore hC dX7_layBest_193 (by decide) rfl ?_
  refine v_iload hC 10 dX7_layBest_195 rfl ?_
  refine v_iload hC 0 dX7_layBest_197 rfl ?_
  have J26 : ∀ (v27 : Int32) (ev27 : v27 = (if x12 < s0 then (x8 + (nI 1)) else (x8 + (nI 17)))), V X 16 214 [(0, .ref (xad X 82)), (1, .int x1), (2, .int x2), (3, .int x3), (4, .int x4), (5, .int x5), (6, .int x6), (8, .int x8), (11, .int x11), (12, .int x12), (13, .int s0)] [.int v27] σ := by
    intro v27 ev27
    replace h := h v27 ev27
    refine v_istore hC dX7_layBest_214 (by decide) rfl ?_
    refine v_iload hC 10 dX7_layBest_216 rfl ?_
    refine v_iload hC 11 dX7_layBest_218 rfl ?_
    have J28 : ∀ (v29 : Int32) (ev29 : v29 = (if x12 < s0 then s0 else x12)), V X 16 230 [(0, .ref (xad X 82)), (1, .int x1), (2, .int x2), (3, .int x3), (4, .int x4), (5, .int x5), (6, .int x6), (8, .int x8), (11, .int x11), (14, .int v27)] [.int v29] σ := by
      intro v29 ev29
      replace h := h v29 ev29
      refine v_istore hC dX7_layBest_230 (by decide) rfl ?_
      refine v_aload_n hC 1 dX7_layBest_232 rfl ?_
      refine gf_X7_47 hC dX7_layBest_233 ?_
      refine v_iload hC 8 dX7_layBest_236 rfl ?_
      refine v_iload hC 9 dX7_layBest_238 rfl ?_
      obtain ⟨hO30, h⟩ := h
      have J30 : ∀ (v32 : Int32) (ev32 : v32 = (if x11 = nI 0 then (σ 95 v27.toNatClampNeg) else v29)), V X 16 255 [(0, .ref (xad X 82)), (1, .int x1), (2, .int x2), (3, .int x3), (4, .int x4), (5, .int x5), (6, .int x6), (8, .int x8), (11, .int x11), (14, .int v27), (15, .int v29)] [.int v32, .int x8, .ref (xad X 95)] σ := by
        intro v32 ev32
        replace h := h v32 ev32
        obtain ⟨hi33, h⟩ := h
        refine v_iast hC (Nat.le_of_ble_eq_true rfl) rfl rfl hi33 dX7_layBest_255 (fun σ33 e33 => ?_)
        replace h := h σ33 e33
        refine v_aload_n hC 0 dX7_layBest_256 rfl ?_
        refine gf_X7_50 hC dX7_layBest_257 ?_
        refine v_iload hC 7 dX7_layBest_260 rfl ?_
        refine v_iload hC 8 dX7_layBest_262 rfl ?_
        obtain ⟨hO34, h⟩ := h
        have J34 : ∀ (v36 : Int32) (ev36 : v36 = (if x11 = nI 0 then v29 else (σ33 96 v27.toNatClampNeg))), V X 16 279 [(0, .ref (xad X 82)), (1, .int x1), (2, .int x2), (3, .int x3), (4, .int x4), (5, .int x5), (6, .int x6)] [.int v36, .int x8, .ref (xad X 96)] σ33 := by
          intro v36 ev36
          replace h := h v36 ev36
          obtain ⟨hi37, h⟩ := h
          refine v_iast hC (Nat.le_of_ble_eq_true rfl) rfl rfl hi37 dX7_layBest_279 (fun σ37 e37 => ?_)
          replace h := h σ37 e37
          refine v_iincN hC (nI 1) 6 dX7_layBest_280 rfl rfl (by decide) (lo2 := fun x6_38 => [(6, .int x6_38), (0, .ref (xad X 82)), (1, .int x1), (2, .int x2), (3, .int x3), (4, .int x4), (5, .int x5)]) (fun _ => rfl) (fun x6_38 e38 => ?_)
          replace h := h x6_38 e38
          refine v_goto hC 11 dX7_layBest_283 (by decide) ?_
          exact V.sub [1, 2, 3, 4, 5, 6, 0] rfl (hK11 _ _ _ _ _ _ _ h)
        refine v_if_eq hC 277 dX7_layBest_264 (by decide) (fun c34 => ?_) (fun c34 => ?_)
        · replace h := hO34.1 c34
          refine v_iload hC 10 dX7_layBest_277 rfl ?_
          exact V.sub [0, 1, 2, 3, 4, 5, 6] rfl (J34 _ (by rw [if_pos c34]))
        · replace h := hO34.2 c34
          refine v_aload_n hC 0 dX7_layBest_267 rfl ?_
          refine gf_X7_50 hC dX7_layBest_268 ?_
          refine v_iload hC 9 dX7_layBest_271 rfl ?_
          obtain ⟨hi39, h⟩ := h
          refine v_iald hC (Nat.le_of_ble_eq_true rfl) rfl rfl hi39 dX7_layBest_273 ?_
          refine v_goto hC 279 dX7_layBest_274 (by decide) ?_
          exact V.sub [0, 1, 2, 3, 4, 5, 6] rfl (J34 _ (by rw [if_neg c34]))
      refine v_if_eq hC 248 dX7_layBest_240 (by decide) (fun c30 => ?_) (fun c30 => ?_)
      · replace h := hO30.1 c30
        refine v_aload_n hC 1 dX7_layBest_248 rfl ?_
        refine gf_X7_47 hC dX7_layBest_249 ?_
        refine v_iload hC 10 dX7_layBest_252 rfl ?_
        obtain ⟨hi40, h⟩ := h
        refine v_iald hC (Nat.le_of_ble_eq_true rfl) rfl rfl hi40 dX7_layBest_254 ?_
        exact V.sub [1, 2, 3, 4, 5, 6, 7, 8, 9, 10, 0] rfl (J30 _ (by rw [if_pos c30]))
      · replace h := hO30.2 c30
        refine v_iload hC 0 dX7_layBest_243 rfl ?_
        refine v_goto hC 255 dX7_layBest_245 (by decide) ?_
        exact V.sub [1, 2, 3, 4, 5, 6, 7, 8, 9, 10, 0] rfl (J30 _ (by rw [if_neg c30]))
    refine v_icmp_lt hC 228 dX7_layBest_220 (by decide) (fun c28 => ?_) (fun c28 => ?_)
    · refine v_iload hC 11 dX7_layBest_228 rfl ?_
      exact V.sub [1, 2, 3, 4, 5, 6, 7, 8, 9, 0] rfl (J28 _ (by rw [if_pos c28]))
    · refine v_iload hC 10 dX7_layBest_223 rfl ?_
      refine v_goto hC 230 dX7_layBest_225 (by decide) ?_
      exact V.sub [1, 2, 3, 4, 5, 6, 7, 8, 9, 0] rfl (J28 _ (by rw [if_neg c28]))
  refine v_icmp_lt hC 210 dX7_layBest_199 (by decide) (fun c26 => ?_) (fun c26 => ?_)
  · refine v_iload hC 8 dX7_layBest_210 rfl ?_
    refine v_iconst hC (nI 1) dX7_layBest_212 rfl ?_
    refine v_iadd hC dX7_layBest_213 ?_
    exact V.sub [1, 2, 3, 4, 5, 6, 7, 8, 9, 10, 0] rfl (J26 _ (by rw [if_pos c26]))
  · refine v_iload hC 8 dX7_layBest_202 rfl ?_
    refine v_bipush hC (nI 17) dX7_layBest_204 rfl ?_
    refine v_iadd hC dX7_layBest_206 ?_
    refine v_goto hC 214 dX7_layBest_207 (by decide) ?_
    exact V.sub [1, 2, 3, 4, 5, 6, 7, 8, 9, 10, 0] rfl (J26 _ (by rw [if_neg c26]))
set_option maxHeartbeats 4000000 in
set_option maxRecDepth 100000 in
theorem tM_layBest_b147 {X : gX} {Q : gM → Prop} (hC : VC X cX7_layBest RX7 16 rmM_layBest) (hR : VR X none (gPv Q)) {K3 : Int32 → Int32 → Int32 → Int32 → Int32 → gM → Prop} (hK3 : ∀ (x1 : Int32) (x2 : Int32) (x3 : Int32) (x4 : Int32) (x5 : Int32) (σ : gM), K3 x1 x2 x3 x4 x5 σ → V X 16 3 [(0, .ref (xad X 82)), (1, .int x1), (2, .int x2), (3, .int x3), (4, .int x4), (5, .int x5)] [] σ) {K11 : Int32 → Int32 → Int32 → Int32 → Int32 → Int32 → gM → Prop} (hK11 : ∀ (x1 : Int32) (x2 : Int32) (x3 : Int32) (x4 : Int32) (x5 : Int32) (x6 : Int32) (σ : gM), K11 x1 x2 x3 x4 x5 x6 σ → V X 16 11 [(0, .ref (xad X 82)), (1, .int x1), (2, .int x2), (3, .int x3), (4, .int x4), (5, .int x5), (6, .int x6)] [] σ) (x1 : Int32) (x2 : Int32) (x3 : Int32) (x4 : Int32) (x5 : Int32) (x6 : Int32) (x8 : Int32) (x10 : Int32) (x11 : Int32) (s0 : Int32) (σ : gM) (h : wM_layBest_b147 Q K3 K11 x1 x2 x3 x4 x5 x6 x8 x10 x11 s0 σ) : V X 16 147 [(0, .ref (xad X 82)), (1, .int x1), (2, .int x2), (3, .int x3), (4, .int x4), (5, .int x5), (6, .int x6), (8, .int x8), (10, .int x10), (11, .int x11)] [.int s0] σ := by
  replace h : (x11 = nI 0 → (wM_worthOf x10 x3 (nI 0) σ (fun (r24 : Int32) (σ24 : gM) => vp_in (x8 + (nI 1)) 289 ∧ (wM_layBest_b193 Q K3 K11 x1 x2 x3 x4 x5 x6 x8 x11 s0 (r24 + (σ24 96 (x8 + (nI 1)).toNatClampNeg)) σ24)))) ∧ (¬ (x11 = nI 0) → (wM_worthOf x10 x2 (nI 0) σ (fun (r42 : Int32) (σ42 : gM) => vp_in (x8 + (nI 1)) 289 ∧ (wM_layBest_b193 Q K3 K11 x1 x2 x3 x4 x5 x6 x8 x11 s0 (r42 + (σ42 95 (x8 + (nI 1)).toNatClampNeg)) σ42)))) := h
  refine v_istore hC dX7_layBest_147 (by decide) rfl ?_
  refine v_iload hC 10 dX7_layBest_149 rfl ?_
  refine v_if_eq hC 175 dX7_layBest_151 (by decide) (fun c22 => ?_) (fun c22 => ?_)
  · replace h := h.1 c22
    refine v_aload_n hC 1 dX7_layBest_175 rfl ?_
    refine v_iload hC 9 dX7_layBest_176 rfl ?_
    refine v_iload_n hC 4 dX7_layBest_178 rfl ?_
    refine v_iconst hC (nI 0) dX7_layBest_179 rfl ?_
    refine v_callV hC (kM_worthOf _ _ _ _ _ h) cmM_worthOf ⟨kw1160, kw55⟩ kw1158 ⟨Nat.le_of_ble_eq_true rfl, Nat.le_of_ble_eq_true rfl⟩ (Nat.le_of_ble_eq_true rfl) rfl (ci := 7) (T := TX7) (N := 30) rfl (As := fun G => [.int x10, .int x3, .int (nI 0)]) (fun _ => rfl) (fun _ => rfl) (st := []) (Nat.le_of_ble_eq_true rfl) rfl dX7_layBest_180 (kk_i (fun r24 σ24 h => ?_))
    refine v_aload_n hC 1 dX7_layBest_183 rfl ?_
    refine gf_X7_50 hC dX7_layBest_184 ?_
    refine v_iload hC 8 dX7_layBest_187 rfl ?_
    refine v_iconst hC (nI 1) dX7_layBest_189 rfl ?_
    refine v_iadd hC dX7_layBest_190 ?_
    obtain ⟨hi25, h⟩ := h
    refine v_iald hC (Nat.le_of_ble_eq_true rfl) rfl rfl hi25 dX7_layBest_191 ?_
    refine v_iadd hC dX7_layBest_192 ?_
    exact V.sub [1, 2, 3, 4, 5, 6, 7, 8, 10, 0] rfl (tM_layBest_b193 hC hR hK3 hK11 _ _ _ _ _ _ _ _ _ _ _ h)
  · replace h := h.2 c22
    refine v_aload_n hC 1 dX7_layBest_154 rfl ?_
    refine v_iload hC 9 dX7_layBest_155 rfl ?_
    refine v_iload_n hC 3 dX7_layBest_157 rfl ?_
    refine v_iconst hC (nI 0) dX7_layBest_158 rfl ?_
    refine v_callV hC (kM_worthOf _ _ _ _ _ h) cmM_worthOf ⟨kw1160, kw55⟩ kw1158 ⟨Nat.le_of_ble_eq_true rfl, Nat.le_of_ble_eq_true rfl⟩ (Nat.le_of_ble_eq_true rfl) rfl (ci := 7) (T := TX7) (N := 30) rfl (As := fun G => [.int x10, .int x2, .int (nI 0)]) (fun _ => rfl) (fun _ => rfl) (st := []) (Nat.le_of_ble_eq_true rfl) rfl dX7_layBest_159 (kk_i (fun r42 σ42 h => ?_))
    refine v_aload_n hC 1 dX7_layBest_162 rfl ?_
    refine gf_X7_47 hC dX7_layBest_163 ?_
    refine v_iload hC 8 dX7_layBest_166 rfl ?_
    refine v_iconst hC (nI 1) dX7_layBest_168 rfl ?_
    refine v_iadd hC dX7_layBest_169 ?_
    obtain ⟨hi43, h⟩ := h
    refine v_iald hC (Nat.le_of_ble_eq_true rfl) rfl rfl hi43 dX7_layBest_170 ?_
    refine v_iadd hC dX7_layBest_171 ?_
    refine v_goto hC 193 dX7_layBest_172 (by decide) ?_
    exact V.sub [1, 2, 3, 4, 5, 6, 7, 8, 10, 0] rfl (tM_layBest_b193 hC hR hK3 hK11 _ _ _ _ _ _ _ _ _ _ _ h)
set_option maxHeartbeats 4000000 in
set_option maxRecDepth 100000 in
theorem tM_layBest_l11 {X : gX} {Q : gM → Prop} (hC : VC X cX7_layBest RX7 16 rmM_layBest) (hR : VR X none (gPv Q)) {K3 : Int32 → Int32 → Int32 → Int32 → Int32 → gM → Prop} (hK3 : ∀ (x1 : Int32) (x2 : Int32) (x3 : Int32) (x4 : Int32) (x5 : Int32) (σ : gM), K3 x1 x2 x3 x4 x5 σ → V X 16 3 [(0, .ref (xad X 82)), (1, .int x1), (2, .int x2), (3, .int x3), (4, .int x4), (5, .int x5)] [] σ) : ∀ (n : Nat) (x1 : Int32) (x2 : Int32) (x3 : Int32) (x4 : Int32) (x5 : Int32) (x6 : Int32) (σ : gM), wM_layBest_l11 Q K3 n x1 x2 x3 x4 x5 x6 σ → V X 16 11 [(0, .ref (xad X 82)), (1, .int x1), (2, .int x2), (3, .int x3), (4, .int x4), (5, .int x5), (6, .int x6)] [] σ := by
  intro n
  induction n with
  | zero => intro x1 x2 x3 x4 x5 x6 σ h; exact h.elim
  | succ n ih =>
    intro x1 x2 x3 x4 x5 x6 σ h
    replace h : (x5 < x6 → (∀ x5_3 : Int32, x5_3 = x5 + (-1 : Int32) → (K3 x1 x2 x3 x4 x5_3 σ))) ∧ (¬ (x5 < x6) → (∀ x7_4 : Int32, x7_4 = (x5 - x6) → (∀ x8_5 : Int32, x8_5 = (((nI 17) * x6) + x7_4) → ((x5 = x1 → (vp_in x8_5 289 ∧ (∀ σ7 : gM, σ7 = gU σ 95 x8_5.toNatClampNeg (nI 0) → (vp_in x8_5 289 ∧ (∀ σ8 : gM, σ8 = gU σ7 96 x8_5.toNatClampNeg (nI 0) → (∀ x6_9 : Int32, x6_9 = x6 + (nI 1) → (wM_layBest_l11 Q K3 n x1 x2 x3 x4 x5 x6_9 σ8))))))) ∧ (¬ (x5 = x1) → (vp_in x6 16 ∧ (∀ x9_11 : Int32, x9_11 = (σ 94 x6.toNatClampNeg) → (vp_in ((x1 - (nI 1)) - x7_4) 16 ∧ (∀ x10_13 : Int32, x10_13 = (σ 94 ((x1 - (nI 1)) - x7_4).toNatClampNeg) → (wM_turnOf (x5 + x4) σ (fun (r15 : Int32) (σ15 : gM) => ∀ v17 : Int32, v17 = (if r15 = nI 0 then (nI 1) else (nI 0)) → ((v17 = nI 0 → (wM_worthOf x9_11 x3 (nI 0) σ15 (fun (r20 : Int32) (σ20 : gM) => vp_in (x8_5 + (nI 17)) 289 ∧ (wM_layBest_b147 Q K3 (wM_layBest_l11 Q K3 n) x1 x2 x3 x4 x5 x6 x8_5 x10_13 v17 (r20 + (σ20 96 (x8_5 + (nI 17)).toNatClampNeg)) σ20)))) ∧ (¬ (v17 = nI 0) → (wM_worthOf x9_11 x2 (nI 0) σ15 (fun (r45 : Int32) (σ45 : gM) => vp_in (x8_5 + (nI 17)) 289 ∧ (wM_layBest_b147 Q K3 (wM_layBest_l11 Q K3 n) x1 x2 x3 x4 x5 x6 x8_5 x10_13 v17 (r45 + (σ45 95 (x8_5 + (nI 17)).toNatClampNeg)) σ45)))))))))))))))) := h
    refine v_iload hC 6 dX7_layBest_11 rfl ?_
    refine v_iload hC 5 dX7_layBest_13 rfl ?_
    refine v_icmp_gt hC 286 dX7_layBest_15 (by decide) (fun c2 => ?_) (fun c2 => ?_)
    · replace h := h.1 c2
      refine v_iincN hC (-1 : Int32) 5 dX7_layBest_286 rfl rfl (by decide) (lo2 := fun x5_3 => [(5, .int x5_3), (0, .ref (xad X 82)), (1, .int x1), (2, .int x2), (3, .int x3), (4, .int x4), (6, .int x6)]) (fun _ => rfl) (fun x5_3 e3 => ?_)
      replace h := h x5_3 e3
      refine v_goto hC 3 dX7_layBest_289 (by decide) ?_
      exact V.sub [1, 2, 3, 4, 5, 0] rfl (hK3 _ _ _ _ _ _ h)
    · replace h := h.2 c2
      refine v_iload hC 5 dX7_layBest_18 rfl ?_
      refine v_iload hC 6 dX7_layBest_20 rfl ?_
      refine v_isub hC dX7_layBest_22 ?_
      refine v_istoreN hC dX7_layBest_23 (by decide) (lo2 := fun x7_4 => [(7, .int x7_4), (0, .ref (xad X 82)), (1, .int x1), (2, .int x2), (3, .int x3), (4, .int x4), (5, .int x5), (6, .int x6)]) (fun _ => rfl) (fun x7_4 e4 => ?_)
      replace h := h x7_4 e4
      refine v_bipush hC (nI 17) dX7_layBest_25 rfl ?_
      refine v_iload hC 7 dX7_layBest_27 rfl ?_
      refine v_imul hC dX7_layBest_29 ?_
      refine v_iload hC 0 dX7_layBest_30 rfl ?_
      refine v_iadd hC dX7_layBest_32 ?_
      refine v_istoreN hC dX7_layBest_33 (by decide) (lo2 := fun x8_5 => [(8, .int x8_5), (7, .int x7_4), (0, .ref (xad X 82)), (1, .int x1), (2, .int x2), (3, .int x3), (4, .int x4), (5, .int x5), (6, .int x6)]) (fun _ => rfl) (fun x8_5 e5 => ?_)
      replace h := h x8_5 e5
      refine v_iload hC 7 dX7_layBest_35 rfl ?_
      refine v_iload_n hC 3 dX7_layBest_37 rfl ?_
      refine v_icmp_ne hC 60 dX7_layBest_38 (by decide) (fun c6 => ?_) (fun c6 => ?_)
      · replace h := h.2 c6
        refine v_aload_n hC 2 dX7_layBest_60 rfl ?_
        refine gf_X7_44 hC dX7_layBest_61 ?_
        refine v_iload hC 8 dX7_layBest_64 rfl ?_
        obtain ⟨hi10, h⟩ := h
        refine v_iald hC (Nat.le_of_ble_eq_true rfl) rfl rfl hi10 dX7_layBest_66 ?_
        refine v_istoreN hC dX7_layBest_67 (by decide) (lo2 := fun x9_11 => [(9, .int x9_11), (8, .int x8_5), (7, .int x7_4), (0, .ref (xad X 82)), (1, .int x1), (2, .int x2), (3, .int x3), (4, .int x4), (5, .int x5), (6, .int x6)]) (fun _ => rfl) (fun x9_11 e11 => ?_)
        replace h := h x9_11 e11
        refine v_aload_n hC 3 dX7_layBest_69 rfl ?_
        refine gf_X7_44 hC dX7_layBest_70 ?_
        refine v_iload_n hC 4 dX7_layBest_73 rfl ?_
        refine v_iconst hC (nI 1) dX7_layBest_74 rfl ?_
        refine v_isub hC dX7_layBest_75 ?_
        refine v_iload hC 2 dX7_layBest_76 rfl ?_
        refine v_isub hC dX7_layBest_78 ?_
        obtain ⟨hi12, h⟩ := h
        refine v_iald hC (Nat.le_of_ble_eq_true rfl) rfl rfl hi12 dX7_layBest_79 ?_
        refine v_istoreN hC dX7_layBest_80 (by decide) (lo2 := fun x10_13 => [(10, .int x10_13), (9, .int x9_11), (8, .int x8_5), (7, .int x7_4), (0, .ref (xad X 82)), (1, .int x1), (2, .int x2), (3, .int x3), (4, .int x4), (5, .int x5), (6, .int x6)]) (fun _ => rfl) (fun x10_13 e13 => ?_)
        replace h := h x10_13 e13
        refine v_aload_n hC 4 dX7_layBest_82 rfl ?_
        refine v_iload hC 9 dX7_layBest_83 rfl ?_
        refine v_iload hC 8 dX7_layBest_85 rfl ?_
        refine v_iadd hC dX7_layBest_87 ?_
        refine v_callV hC (kM_turnOf _ _ _ h) cmM_turnOf ⟨kw1235, kw66⟩ kw1233 ⟨Nat.le_of_ble_eq_true rfl, Nat.le_of_ble_eq_true rfl⟩ (Nat.le_of_ble_eq_true rfl) rfl (ci := 7) (T := TX7) (N := 30) rfl (As := fun G => [.int (x5 + x4)]) (fun _ => rfl) (fun _ => rfl) (st := []) (Nat.le_of_ble_eq_true rfl) rfl dX7_layBest_88 (kk_i (fun r15 σ15 h => ?_))
        have J16 : ∀ (v17 : Int32) (ev17 : v17 = (if r15 = nI 0 then (nI 1) else (nI 0))), V X 16 99 [(0, .ref (xad X 82)), (1, .int x1), (2, .int x2), (3, .int x3), (4, .int x4), (5, .int x5), (6, .int x6), (8, .int x8_5), (9, .int x9_11), (10, .int x10_13)] [.int v17] σ15 := by
          intro v17 ev17
          replace h := h v17 ev17
          refine v_istore hC dX7_layBest_99 (by decide) rfl ?_
          refine v_iload hC 0 dX7_layBest_101 rfl ?_
          refine v_if_eq hC 128 dX7_layBest_103 (by decide) (fun c18 => ?_) (fun c18 => ?_)
          · replace h := h.1 c18
            refine v_aload_n hC 1 dX7_layBest_128 rfl ?_
            refine v_iload hC 9 dX7_layBest_129 rfl ?_
            refine v_iload_n hC 4 dX7_layBest_131 rfl ?_
            refine v_iconst hC (nI 0) dX7_layBest_132 rfl ?_
            refine v_callV hC (kM_worthOf _ _ _ _ _ h) cmM_worthOf ⟨kw1160, kw55⟩ kw1158 ⟨Nat.le_of_ble_eq_true rfl, Nat.le_of_ble_eq_true rfl⟩ (Nat.le_of_ble_eq_true rfl) rfl (ci := 7) (T := TX7) (N := 30) rfl (As := fun G => [.int x9_11, .int x3, .int (nI 0)]) (fun _ => rfl) (fun _ => rfl) (st := []) (Nat.le_of_ble_eq_true rfl) rfl dX7_layBest_133 (kk_i (fun r20 σ20 h => ?_))
            refine v_aload_n hC 1 dX7_layBest_136 rfl ?_
            refine gf_X7_50 hC dX7_layBest_137 ?_
            refine v_iload hC 8 dX7_layBest_140 rfl ?_
            refine v_bipush hC (nI 17) dX7_layBest_142 rfl ?_
            refine v_iadd hC dX7_layBest_144 ?_
            obtain ⟨hi21, h⟩ := h
            refine v_iald hC (Nat.le_of_ble_eq_true rfl) rfl rfl hi21 dX7_layBest_145 ?_
            refine v_iadd hC dX7_layBest_146 ?_
            exact V.sub [1, 2, 3, 4, 5, 6, 7, 8, 10, 0] rfl (tM_layBest_b147 hC hR hK3 ih _ _ _ _ _ _ _ _ _ _ _ h)
          · replace h := h.2 c18
            refine v_aload_n hC 1 dX7_layBest_106 rfl ?_
            refine v_iload hC 9 dX7_layBest_107 rfl ?_
            refine v_iload_n hC 3 dX7_layBest_109 rfl ?_
            refine v_iconst hC (nI 0) dX7_layBest_110 rfl ?_
            refine v_callV hC (kM_worthOf _ _ _ _ _ h) cmM_worthOf ⟨kw1160, kw55⟩ kw1158 ⟨Nat.le_of_ble_eq_true rfl, Nat.le_of_ble_eq_true rfl⟩ (Nat.le_of_ble_eq_true rfl) rfl (ci := 7) (T := TX7) (N := 30) rfl (As := fun G => [.int x9_11, .int x2, .int (nI 0)]) (fun _ => rfl) (fun _ => rfl) (st := []) (Nat.le_of_ble_eq_true rfl) rfl dX7_layBest_111 (kk_i (fun r45 σ45 h => ?_))
            refine v_aload_n hC 1 dX7_layBest_114 rfl ?_
            refine gf_X7_47 hC dX7_layBest_115 ?_
            refine v_iload hC 8 dX7_layBest_118 rfl ?_
            refine v_bipush hC (nI 17) dX7_layBest_120 rfl ?_
            refine v_iadd hC dX7_layBest_122 ?_
            obtain ⟨hi46, h⟩ := h
            refine v_iald hC (Nat.le_of_ble_eq_true rfl) rfl rfl hi46 dX7_layBest_123 ?_
            refine v_iadd hC dX7_layBest_124 ?_
            refine v_goto hC 147 dX7_layBest_125 (by decide) ?_
            exact V.sub [1, 2, 3, 4, 5, 6, 7, 8, 10, 0] rfl (tM_layBest_b147 hC hR hK3 ih _ _ _ _ _ _ _ _ _ _ _ h)
        refine v_if_ne hC 98 dX7_layBest_91 (by decide) (fun c16 => ?_) (fun c16 => ?_)
        · refine v_iconst hC (nI 0) dX7_layBest_98 rfl ?_
          exact V.sub [4, 5, 6, 7, 8, 9, 10, 2, 1, 0] rfl (J16 _ (by rw [if_neg c16]))
        · refine v_iconst hC (nI 1) dX7_layBest_94 rfl ?_
          refine v_goto hC 99 dX7_layBest_95 (by decide) ?_
          exact V.sub [4, 5, 6, 7, 8, 9, 10, 2, 1, 0] rfl (J16 _ (by rw [if_pos c16]))
      · replace h := h.1 c6
        refine v_aload_n hC 2 dX7_layBest_41 rfl ?_
        refine gf_X7_47 hC dX7_layBest_42 ?_
        refine v_iload hC 0 dX7_layBest_45 rfl ?_
        refine v_iconst hC (nI 0) dX7_layBest_47 rfl ?_
        obtain ⟨hi7, h⟩ := h
        refine v_iast hC (Nat.le_of_ble_eq_true rfl) rfl rfl hi7 dX7_layBest_48 (fun σ7 e7 => ?_)
        replace h := h σ7 e7
        refine v_aload_n hC 2 dX7_layBest_49 rfl ?_
        refine gf_X7_50 hC dX7_layBest_50 ?_
        refine v_iload hC 0 dX7_layBest_53 rfl ?_
        refine v_iconst hC (nI 0) dX7_layBest_55 rfl ?_
        obtain ⟨hi8, h⟩ := h
        refine v_iast hC (Nat.le_of_ble_eq_true rfl) rfl rfl hi8 dX7_layBest_56 (fun σ8 e8 => ?_)
        replace h := h σ8 e8
        refine v_goto hC 280 dX7_layBest_57 (by decide) ?_
        refine v_iincN hC (nI 1) 8 dX7_layBest_280 rfl rfl (by decide) (lo2 := fun x6_9 => [(6, .int x6_9), (8, .int x8_5), (7, .int x7_4), (0, .ref (xad X 82)), (1, .int x1), (2, .int x2), (3, .int x3), (4, .int x4), (5, .int x5)]) (fun _ => rfl) (fun x6_9 e9 => ?_)
        replace h := h x6_9 e9
        refine v_goto hC 11 dX7_layBest_283 (by decide) ?_
        exact V.sub [3, 4, 5, 6, 7, 8, 0] rfl (ih _ _ _ _ _ _ _ h)
set_option maxHeartbeats 4000000 in
set_option maxRecDepth 100000 in
theorem tM_layBest_l3 {X : gX} {Q : gM → Prop} (hC : VC X cX7_layBest RX7 16 rmM_layBest) (hR : VR X none (gPv Q))  : ∀ (n : Nat) (x1 : Int32) (x2 : Int32) (x3 : Int32) (x4 : Int32) (x5 : Int32) (σ : gM), wM_layBest_l3 Q  n x1 x2 x3 x4 x5 σ → V X 16 3 [(0, .ref (xad X 82)), (1, .int x1), (2, .int x2), (3, .int x3), (4, .int x4), (5, .int x5)] [] σ := by
  intro n
  induction n with
  | zero => intro x1 x2 x3 x4 x5 σ h; exact h.elim
  | succ n ih =>
    intro x1 x2 x3 x4 x5 σ h
    replace h : (x5 < nI 0 → (Q σ)) ∧ (¬ (x5 < nI 0) → (∃ n47 : Nat, wM_layBest_l11 Q (wM_layBest_l3 Q n) n47 x1 x2 x3 x4 x5 (nI 0) σ)) := h
    refine v_iload hC 5 dX7_layBest_3 rfl ?_
    refine v_if_lt hC 292 dX7_layBest_5 (by decide) (fun c1 => ?_) (fun c1 => ?_)
    · replace h := h.1 c1
      exact v_vret hC hR h dX7_layBest_292
    · replace h := h.2 c1
      refine v_iconst hC (nI 0) dX7_layBest_8 rfl ?_
      refine v_istore hC dX7_layBest_9 (by decide) rfl ?_
      obtain ⟨n47, h⟩ := h
      exact V.sub [1, 2, 3, 4, 5, 6, 0] rfl (tM_layBest_l11 hC hR ih n47 _ _ _ _ _ _ _ h)
set_option maxHeartbeats 4000000 in
set_option maxRecDepth 100000 in
theorem kM_layBest (x1 : Int32) (x2 : Int32) (x3 : Int32) (x4 : Int32) (σ : gM) (Q : gM → Prop) (h : wM_layBest x1 x2 x3 x4 σ Q) : CT yX7_layBest cX7_layBest 16 none rmM_layBest (fun G => [.ref (gad G 82), .int x1, .int x2, .int x3, .int x4]) σ (gPv Q) := by
  refine c_enter (by decide) (fun _ => Nat.le_of_ble_eq_true rfl) (fun X hC hR => ?_)
  show V X 16 0 [(0, .ref (xad X 82)), (1, .int x1), (2, .int x2), (3, .int x3), (4, .int x4)] [] σ
  replace h : ∃ n48 : Nat, wM_layBest_l3 Q n48 x1 x2 x3 x4 x1 σ := h
  refine v_iload_n hC 1 dX7_layBest_0 rfl ?_
  refine v_istore hC dX7_layBest_1 (by decide) rfl ?_
  obtain ⟨n48, h⟩ := h
  exact V.sub [1, 2, 3, 4, 5, 0] rfl (tM_layBest_l3 hC hR  n48 _ _ _ _ _ _ h)
theorem cmM_layBest : CM yX7_layBest cX7_layBest 16 none rmM_layBest 4 := ⟨kw82, kw1232, rfl, rfl, by decide, by decide, by decide +kernel⟩
def rmM_best : Room := { frames := 4, cells := 0, slots := 0, locals := 104 }
def wM_best (x1 : Int32) (x2 : Int32) (x3 : Int32) (σ : gM) (Q : Int32 → gM → Prop) : Prop :=
    wM_areUnlike x1 x2 σ (fun (r2 : Int32) (σ2 : gM) => (r2 = nI 0 → (Q (-1000001 : Int32) σ2)) ∧ (¬ (r2 = nI 0) → (wM_in x3 (nI 0) (nI 2) σ2 (fun (r5 : Int32) (σ5 : gM) => (r5 = nI 0 → (Q (-1000001 : Int32) σ5)) ∧ (¬ (r5 = nI 0) → (∀ x4_8 : Int32, x4_8 = (σ5 89 5) → (wM_layHeap  σ5 (fun (σ10 : gM) => wM_layBest x4_8 x1 x2 (nI 0) σ10 (fun (σ12 : gM) => ((nI 2) ≤ x3 → ((x4_8 = nI 0 → (Q (-1000000 : Int32) σ12)) ∧ (¬ (x4_8 = nI 0) → (wM_worthOf (σ12 94 0) x1 (nI 0) σ12 (fun (r17 : Int32) (σ17 : gM) => vp_in (x4_8 - (nI 1)) 16 ∧ (wM_worthOf (σ17 94 (x4_8 - (nI 1)).toNatClampNeg) x1 (nI 0) σ17 (fun (r21 : Int32) (σ21 : gM) => ∀ v24 : Int32, v24 = (if (r17 + (σ17 95 17)) < (r21 + (σ21 95 1)) then (nI 1) else (nI 0)) → (Q v24 σ21)))))))) ∧ (¬ ((nI 2) ≤ x3) → (∀ v28 : Int32, v28 = (if x3 = nI 0 then (σ12 95 0) else (σ12 96 0)) → (Q v28 σ12))))))))))))
set_option maxHeartbeats 4000000 in
set_option maxRecDepth 100000 in
theorem kM_best (x1 : Int32) (x2 : Int32) (x3 : Int32) (σ : gM) (Q : Int32 → gM → Prop) (h : wM_best x1 x2 x3 σ Q) : CT yX7_best cX7_best 5 (some .int) rmM_best (fun G => [.ref (gad G 82), .int x1, .int x2, .int x3]) σ (gPi Q) := by
  refine c_enter (by decide) (fun _ => Nat.le_of_ble_eq_true rfl) (fun X hC hR => ?_)
  show V X 5 0 [(0, .ref (xad X 82)), (1, .int x1), (2, .int x2), (3, .int x3)] [] σ
  replace h : wM_areUnlike x1 x2 σ (fun (r2 : Int32) (σ2 : gM) => (r2 = nI 0 → (Q (-1000001 : Int32) σ2)) ∧ (¬ (r2 = nI 0) → (wM_in x3 (nI 0) (nI 2) σ2 (fun (r5 : Int32) (σ5 : gM) => (r5 = nI 0 → (Q (-1000001 : Int32) σ5)) ∧ (¬ (r5 = nI 0) → (∀ x4_8 : Int32, x4_8 = (σ5 89 5) → (wM_layHeap  σ5 (fun (σ10 : gM) => wM_layBest x4_8 x1 x2 (nI 0) σ10 (fun (σ12 : gM) => ((nI 2) ≤ x3 → ((x4_8 = nI 0 → (Q (-1000000 : Int32) σ12)) ∧ (¬ (x4_8 = nI 0) → (wM_worthOf (σ12 94 0) x1 (nI 0) σ12 (fun (r17 : Int32) (σ17 : gM) => vp_in (x4_8 - (nI 1)) 16 ∧ (wM_worthOf (σ17 94 (x4_8 - (nI 1)).toNatClampNeg) x1 (nI 0) σ17 (fun (r21 : Int32) (σ21 : gM) => ∀ v24 : Int32, v24 = (if (r17 + (σ17 95 17)) < (r21 + (σ21 95 1)) then (nI 1) else (nI 0)) → (Q v24 σ21)))))))) ∧ (¬ ((nI 2) ≤ x3) → (∀ v28 : Int32, v28 = (if x3 = nI 0 then (σ12 95 0) else (σ12 96 0)) → (Q v28 σ12)))))))))))) := h
  refine v_aload_n hC 0 dX7_best_0 rfl ?_
  refine v_iload_n hC 1 dX7_best_1 rfl ?_
  refine v_iload_n hC 2 dX7_best_2 rfl ?_
  refine v_callV hC (kM_areUnlike _ _ _ _ h) cmM_areUnlike ⟨kw1223, kw63⟩ kw1221 ⟨Nat.le_of_ble_eq_true rfl, Nat.le_of_ble_eq_true rfl⟩ (Nat.le_of_ble_eq_true rfl) rfl (ci := 7) (T := TX7) (N := 30) rfl (As := fun G => [.int x1, .int x2]) (fun _ => rfl) (fun _ => rfl) (st := []) (Nat.le_of_ble_eq_true rfl) rfl dX7_best_3 (kk_i (fun r2 σ2 h => ?_))
  refine v_if_eq hC 18 dX7_best_6 (by decide) (fun c3 => ?_) (fun c3 => ?_)
  · replace h := h.1 c3
    refine v_ldc hC kw1053 dX7_best_18 ?_
    exact v_iret hC hR h dX7_best_20
  · replace h := h.2 c3
    refine v_iload_n hC 3 dX7_best_9 rfl ?_
    refine v_iconst hC (nI 0) dX7_best_10 rfl ?_
    refine v_iconst hC (nI 2) dX7_best_11 rfl ?_
    refine v_callS hC (kM_in _ _ _ _ _ h) cmM_in kw1051 kw1050 ⟨Nat.le_of_ble_eq_true rfl, Nat.le_of_ble_eq_true rfl⟩ (fun _ => rfl) (st := []) (Nat.le_of_ble_eq_true rfl) rfl dX7_best_12 (kk_i (fun r5 σ5 h => ?_))
    refine v_if_ne hC 21 dX7_best_15 (by decide) (fun c6 => ?_) (fun c6 => ?_)
    · replace h := h.2 c6
      refine v_aload_n hC 0 dX7_best_21 rfl ?_
      refine gf_X7_28 hC dX7_best_22 ?_
      refine v_iconst hC (nI 5) dX7_best_25 rfl ?_
      refine v_iald hC (Nat.le_of_ble_eq_true rfl) rfl (j := 5) (by decide) (by unfold vp_in; decide) dX7_best_26 ?_
      refine v_istoreN hC dX7_best_27 (by decide) (lo2 := fun x4_8 => [(4, .int x4_8), (0, .ref (xad X 82)), (1, .int x1), (2, .int x2), (3, .int x3)]) (fun _ => rfl) (fun x4_8 e8 => ?_)
      replace h := h x4_8 e8
      refine v_aload_n hC 1 dX7_best_29 rfl ?_
      refine v_callV hC (kM_layHeap  _ _ h) cmM_layHeap ⟨kw1227, kw64⟩ kw1225 ⟨Nat.le_of_ble_eq_true rfl, Nat.le_of_ble_eq_true rfl⟩ (Nat.le_of_ble_eq_true rfl) rfl (ci := 7) (T := TX7) (N := 30) rfl (As := fun G => []) (fun _ => rfl) (fun _ => rfl) (st := []) (Nat.le_of_ble_eq_true rfl) rfl dX7_best_30 (kk_v (fun σ10 h => ?_))
      refine v_aload_n hC 1 dX7_best_33 rfl ?_
      refine v_iload hC 0 dX7_best_34 rfl ?_
      refine v_iload_n hC 2 dX7_best_36 rfl ?_
      refine v_iload_n hC 3 dX7_best_37 rfl ?_
      refine v_iconst hC (nI 0) dX7_best_38 rfl ?_
      refine v_callV hC (kM_layBest _ _ _ _ _ _ h) cmM_layBest ⟨kw1231, kw65⟩ kw1229 ⟨Nat.le_of_ble_eq_true rfl, Nat.le_of_ble_eq_true rfl⟩ (Nat.le_of_ble_eq_true rfl) rfl (ci := 7) (T := TX7) (N := 30) rfl (As := fun G => [.int x4_8, .int x1, .int x2, .int (nI 0)]) (fun _ => rfl) (fun _ => rfl) (st := []) (Nat.le_of_ble_eq_true rfl) rfl dX7_best_39 (kk_v (fun σ12 h => ?_))
      refine v_iload_n hC 4 dX7_best_42 rfl ?_
      refine v_iconst hC (nI 2) dX7_best_43 rfl ?_
      refine v_icmp_ge hC 67 dX7_best_44 (by decide) (fun c13 => ?_) (fun c13 => ?_)
      · replace h := h.1 c13
        refine v_iload hC 0 dX7_best_67 rfl ?_
        refine v_if_ne hC 77 dX7_best_69 (by decide) (fun c14 => ?_) (fun c14 => ?_)
        · replace h := h.2 c14
          refine v_aload_n hC 1 dX7_best_77 rfl ?_
          refine v_aload_n hC 1 dX7_best_78 rfl ?_
          refine gf_X7_44 hC dX7_best_79 ?_
          refine v_iconst hC (nI 0) dX7_best_82 rfl ?_
          refine v_iald hC (Nat.le_of_ble_eq_true rfl) rfl (j := 0) (by decide) (by unfold vp_in; decide) dX7_best_83 ?_
          refine v_iload_n hC 2 dX7_best_84 rfl ?_
          refine v_iconst hC (nI 0) dX7_best_85 rfl ?_
          refine v_callV hC (kM_worthOf _ _ _ _ _ h) cmM_worthOf ⟨kw1160, kw55⟩ kw1158 ⟨Nat.le_of_ble_eq_true rfl, Nat.le_of_ble_eq_true rfl⟩ (Nat.le_of_ble_eq_true rfl) rfl (ci := 7) (T := TX7) (N := 30) rfl (As := fun G => [.int (σ12 94 0), .int x1, .int (nI 0)]) (fun _ => rfl) (fun _ => rfl) (st := []) (Nat.le_of_ble_eq_true rfl) rfl dX7_best_86 (kk_i (fun r17 σ17 h => ?_))
          refine v_aload_n hC 1 dX7_best_89 rfl ?_
          refine gf_X7_47 hC dX7_best_90 ?_
          refine v_bipush hC (nI 17) dX7_best_93 rfl ?_
          refine v_iald hC (Nat.le_of_ble_eq_true rfl) rfl (j := 17) (by decide) (by unfold vp_in; decide) dX7_best_95 ?_
          refine v_iadd hC dX7_best_96 ?_
          refine v_aload_n hC 1 dX7_best_97 rfl ?_
          refine v_aload_n hC 1 dX7_best_98 rfl ?_
          refine gf_X7_44 hC dX7_best_99 ?_
          refine v_iload hC 0 dX7_best_102 rfl ?_
          refine v_iconst hC (nI 1) dX7_best_104 rfl ?_
          refine v_isub hC dX7_best_105 ?_
          obtain ⟨hi19, h⟩ := h
          refine v_iald hC (Nat.le_of_ble_eq_true rfl) rfl rfl hi19 dX7_best_106 ?_
          refine v_iload_n hC 2 dX7_best_107 rfl ?_
          refine v_iconst hC (nI 0) dX7_best_108 rfl ?_
          refine v_callV hC (kM_worthOf _ _ _ _ _ h) cmM_worthOf ⟨kw1160, kw55⟩ kw1158 ⟨Nat.le_of_ble_eq_true rfl, Nat.le_of_ble_eq_true rfl⟩ (Nat.le_of_ble_eq_true rfl) rfl (ci := 7) (T := TX7) (N := 30) rfl (As := fun G => [.int (σ17 94 (x4_8 - (nI 1)).toNatClampNeg), .int x1, .int (nI 0)]) (fun _ => rfl) (fun _ => rfl) (st := [.int (r17 + (σ17 95 17))]) (Nat.le_of_ble_eq_true rfl) rfl dX7_best_109 (kk_i (fun r21 σ21 h => ?_))
          refine v_aload_n hC 1 dX7_best_112 rfl ?_
          refine gf_X7_47 hC dX7_best_113 ?_
          refine v_iconst hC (nI 1) dX7_best_116 rfl ?_
          refine v_iald hC (Nat.le_of_ble_eq_true rfl) rfl (j := 1) (by decide) (by unfold vp_in; decide) dX7_best_117 ?_
          refine v_iadd hC dX7_best_118 ?_
          have J23 : ∀ (v24 : Int32) (ev24 : v24 = (if (r17 + (σ17 95 17)) < (r21 + (σ21 95 1)) then (nI 1) else (nI 0))), V X 5 127 [] [.int v24] σ21 := by
            intro v24 ev24
            replace h := h v24 ev24
            exact v_iret hC hR h dX7_best_127
          refine v_icmp_lt hC 126 dX7_best_119 (by decide) (fun c23 => ?_) (fun c23 => ?_)
          · refine v_iconst hC (nI 1) dX7_best_126 rfl ?_
            exact V.sub [] rfl (J23 _ (by rw [if_pos c23]))
          · refine v_iconst hC (nI 0) dX7_best_122 rfl ?_
            refine v_goto hC 127 dX7_best_123 (by decide) ?_
            exact V.sub [] rfl (J23 _ (by rw [if_neg c23]))
        · replace h := h.1 c14
          refine v_ldc hC kw1132 dX7_best_72 ?_
          refine v_goto hC 127 dX7_best_74 (by decide) ?_
          exact v_iret hC hR h dX7_best_127
      · replace h := h.2 c13
        refine v_iload_n hC 4 dX7_best_47 rfl ?_
        have J25 : ∀ (v28 : Int32) (ev28 : v28 = (if x3 = nI 0 then (σ12 95 0) else (σ12 96 0))), V X 5 66 [] [.int v28] σ12 := by
          intro v28 ev28
          replace h := h v28 ev28
          exact v_iret hC hR h dX7_best_66
        refine v_if_ne hC 60 dX7_best_48 (by decide) (fun c25 => ?_) (fun c25 => ?_)
        · refine v_aload_n hC 1 dX7_best_60 rfl ?_
          refine gf_X7_50 hC dX7_best_61 ?_
          refine v_iconst hC (nI 0) dX7_best_64 rfl ?_
          refine v_iald hC (Nat.le_of_ble_eq_true rfl) rfl (j := 0) (by decide) (by unfold vp_in; decide) dX7_best_65 ?_
          exact V.sub [] rfl (J25 _ (by rw [if_neg c25]))
        · refine v_aload_n hC 1 dX7_best_51 rfl ?_
          refine gf_X7_47 hC dX7_best_52 ?_
          refine v_iconst hC (nI 0) dX7_best_55 rfl ?_
          refine v_iald hC (Nat.le_of_ble_eq_true rfl) rfl (j := 0) (by decide) (by unfold vp_in; decide) dX7_best_56 ?_
          refine v_goto hC 66 dX7_best_57 (by decide) ?_
          exact V.sub [] rfl (J25 _ (by rw [if_pos c25]))
    · replace h := h.1 c6
      refine v_ldc hC kw1053 dX7_best_18 ?_
      exact v_iret hC hR h dX7_best_20
theorem cmM_best : CM yX7_best cX7_best 5 (some .int) rmM_best 3 := ⟨kw82, kw1220, rfl, rfl, by decide, by decide, by decide +kernel⟩
