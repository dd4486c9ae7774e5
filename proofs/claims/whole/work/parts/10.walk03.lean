def rmH_isNoEnd : Room := { frames := 0, cells := 0, slots := 0, locals := 0 }
def wH_isNoEnd (x1 : Int32) (σ : gM) (Q : Int32 → gM → Prop) : Prop :=
    ∀ v2 : Int32, v2 = (if x1 = nI 0 then (nI 0) else (if x1 = (nI 1) then (nI 0) else (nI 1))) → ((v2 = nI 0 ∨ v2 = nI 1) ∧ Q v2 σ)
set_option maxHeartbeats 4000000 in
set_option maxRecDepth 100000 in
theorem kH_isNoEnd (x1 : Int32) (σ : gM) (Q : Int32 → gM → Prop) (h : wH_isNoEnd x1 σ Q) : CT yX6_isNoEnd cX6_isNoEnd 2 (some .boolean) rmH_isNoEnd (fun G => [.ref (gad G 0), .int x1]) σ (gPi Q) := by
  refine c_enter (by decide) (fun _ => Nat.le_of_ble_eq_true rfl) (fun X hC hR => ?_)
  show V X 2 0 [(0, .ref (xad X 0)), (1, .int x1)] [] σ
  replace h : ∀ v2 : Int32, v2 = (if x1 = nI 0 then (nI 0) else (if x1 = (nI 1) then (nI 0) else (nI 1))) → ((v2 = nI 0 ∨ v2 = nI 1) ∧ Q v2 σ) := h
  refine v_iload_n hC 1 dX6_isNoEnd_0 rfl ?_
  have J1 : ∀ (v2 : Int32) (ev2 : v2 = (if x1 = nI 0 then (nI 0) else (if x1 = (nI 1) then (nI 0) else (nI 1)))), V X 2 14 [] [.int v2] σ := by
    intro v2 ev2
    replace h := h v2 ev2
    obtain ⟨hb, h⟩ := h
    exact v_zret hC hR (nar_bool hb) h dX6_isNoEnd_14
  refine v_if_eq hC 13 dX6_isNoEnd_1 (by decide) (fun c1 => ?_) (fun c1 => ?_)
  · refine v_iconst hC (nI 0) dX6_isNoEnd_13 rfl ?_
    exact V.sub [] rfl (J1 _ (by rw [if_pos c1]))
  · refine v_iload_n hC 1 dX6_isNoEnd_4 rfl ?_
    refine v_iconst hC (nI 1) dX6_isNoEnd_5 rfl ?_
    have J3 : V X 2 14 [] [.int (if x1 = (nI 1) then (nI 0) else (nI 1))] σ := by
      exact V.sub [] rfl (J1 _ (by rw [if_neg c1]))
    refine v_icmp_eq hC 13 dX6_isNoEnd_6 (by decide) (fun c3 => ?_) (fun c3 => ?_)
    · refine v_iconst hC (nI 0) dX6_isNoEnd_13 rfl ?_
      rw [if_pos c3] at J3
      exact V.sub [] rfl J3
    · refine v_iconst hC (nI 1) dX6_isNoEnd_9 rfl ?_
      refine v_goto hC 14 dX6_isNoEnd_10 (by decide) ?_
      rw [if_neg c3] at J3
      exact V.sub [] rfl J3
theorem cmH_isNoEnd : CM yX6_isNoEnd cX6_isNoEnd 2 (some .boolean) rmH_isNoEnd 1 := ⟨kw75, kw597, rfl, rfl, by decide, by decide, by decide +kernel⟩
def rmK_wareAt : Room := { frames := 0, cells := 0, slots := 0, locals := 0 }
def wK42_wareAt (x1 : Int32) (σ : gM) (Q : Int32 → gM → Prop) : Prop :=
    ∀ v2 : Int32, v2 = (if x1 = nI 0 then (nI 0) else ((σ 42 5) - (nI 1))) → (vp_in v2 16 ∧ (Q (σ 51 v2.toNatClampNeg) σ))
set_option maxHeartbeats 4000000 in
set_option maxRecDepth 100000 in
theorem kK42_wareAt (x1 : Int32) (σ : gM) (Q : Int32 → gM → Prop) (h : wK42_wareAt x1 σ Q) : CT yX2_wareAt cX2_wareAt 2 (some .int) rmK_wareAt (fun G => [.ref (gad G 42), .int x1]) σ (gPi Q) := by
  refine c_enter (by decide) (fun _ => Nat.le_of_ble_eq_true rfl) (fun X hC hR => ?_)
  show V X 2 0 [(0, .ref (xad X 42)), (1, .int x1)] [] σ
  replace h : ∀ v2 : Int32, v2 = (if x1 = nI 0 then (nI 0) else ((σ 42 5) - (nI 1))) → (vp_in v2 16 ∧ (Q (σ 51 v2.toNatClampNeg) σ)) := h
  refine v_aload_n hC 0 dX2_wareAt_0 rfl ?_
  refine gf_X2_36_42 hC dX2_wareAt_1 ?_
  refine v_iload_n hC 1 dX2_wareAt_4 rfl ?_
  have J1 : ∀ (v2 : Int32) (ev2 : v2 = (if x1 = nI 0 then (nI 0) else ((σ 42 5) - (nI 1)))), V X 2 18 [] [.int v2, .ref (xad X 51)] σ := by
    intro v2 ev2
    replace h := h v2 ev2
    obtain ⟨hi3, h⟩ := h
    refine v_iald hC (Nat.le_of_ble_eq_true rfl) rfl rfl hi3 dX2_wareAt_18 ?_
    exact v_iret hC hR h dX2_wareAt_19
  refine v_if_ne hC 12 dX2_wareAt_5 (by decide) (fun c1 => ?_) (fun c1 => ?_)
  · refine v_aload_n hC 0 dX2_wareAt_12 rfl ?_
    refine gf_X2_56_42 hC dX2_wareAt_13 ?_
    refine v_iconst hC (nI 1) dX2_wareAt_16 rfl ?_
    refine v_isub hC dX2_wareAt_17 ?_
    exact V.sub [] rfl (J1 _ (by rw [if_neg c1]))
  · refine v_iconst hC (nI 0) dX2_wareAt_8 rfl ?_
    refine v_goto hC 18 dX2_wareAt_9 (by decide) ?_
    exact V.sub [] rfl (J1 _ (by rw [if_pos c1]))
theorem cmK_wareAt : CM yX2_wareAt cX2_wareAt 2 (some .int) rmK_wareAt 1 := ⟨kw77, kw602, rfl, rfl, by decide, by decide, by decide +kernel⟩
def rmK_ripened : Room := { frames := 0, cells := 0, slots := 0, locals := 0 }
def wK_ripened (x0 : Int32) (x1 : Int32) (x2 : Int32) (σ : gM) (Q : Int32 → gM → Prop) : Prop :=
    (x0 = (nI 1) → (Q (x1 - x2) σ)) ∧ (x0 = (nI 2) → (∀ v3 : Int32, v3 = (if (nI 5) < x2 then ((x1 + (nI 5)) - ((nI 2) * (x2 - (nI 5)))) else (x1 + x2)) → (Q v3 σ))) ∧ (x0 = (nI 3) → (Q (x1 - ((nI 2) * x2)) σ)) ∧ (x0 = (nI 5) → (Q (x1 + (x2 / (nI 3))) σ)) ∧ ((¬ x0 = (nI 1) ∧ ¬ x0 = (nI 2) ∧ ¬ x0 = (nI 3) ∧ ¬ x0 = (nI 5)) → (Q x1 σ))
set_option maxHeartbeats 4000000 in
set_option maxRecDepth 100000 in
theorem kK_ripened (x0 : Int32) (x1 : Int32) (x2 : Int32) (σ : gM) (Q : Int32 → gM → Prop) (h : wK_ripened x0 x1 x2 σ Q) : CT yX2_ripened cX2_ripened 3 (some .int) rmK_ripened (fun G => [.int x0, .int x1, .int x2]) σ (gPi Q) := by
  refine c_enter (by decide) (fun _ => Nat.le_of_ble_eq_true rfl) (fun X hC hR => ?_)
  show V X 3 0 [(0, .int x0), (1, .int x1), (2, .int x2)] [] σ
  replace h : (x0 = (nI 1) → (Q (x1 - x2) σ)) ∧ (x0 = (nI 2) → (∀ v3 : Int32, v3 = (if (nI 5) < x2 then ((x1 + (nI 5)) - ((nI 2) * (x2 - (nI 5)))) else (x1 + x2)) → (Q v3 σ))) ∧ (x0 = (nI 3) → (Q (x1 - ((nI 2) * x2)) σ)) ∧ (x0 = (nI 5) → (Q (x1 + (x2 / (nI 3))) σ)) ∧ ((¬ x0 = (nI 1) ∧ ¬ x0 = (nI 2) ∧ ¬ x0 = (nI 3) ∧ ¬ x0 = (nI 5)) → (Q x1 σ)) := h
  refine v_iload_n hC 0 dX2_ripened_0 rfl ?_
  by_cases q1_1 : x0 = (nI 1)
  · replace h := h.1 q1_1
    refine v_tableIn hC (nI 1) 36 dX2_ripened_1 q1_1 (by decide) (by decide) rfl (by decide) ?_
    refine v_iload_n hC 1 dX2_ripened_36 rfl ?_
    refine v_iload_n hC 2 dX2_ripened_37 rfl ?_
    refine v_isub hC dX2_ripened_38 ?_
    exact v_iret hC hR h dX2_ripened_39
  · by_cases q1_2 : x0 = (nI 2)
    · replace h := h.2.1 q1_2
      refine v_tableIn hC (nI 2) 40 dX2_ripened_1 q1_2 (by decide) (by decide) rfl (by decide) ?_
      refine v_iload_n hC 2 dX2_ripened_40 rfl ?_
      refine v_iconst hC (nI 5) dX2_ripened_41 rfl ?_
      have J2 : ∀ (v3 : Int32) (ev3 : v3 = (if (nI 5) < x2 then ((x1 + (nI 5)) - ((nI 2) * (x2 - (nI 5)))) else (x1 + x2))), V X 3 60 [] [.int v3] σ := by
        intro v3 ev3
        replace h := h v3 ev3
        exact v_iret hC hR h dX2_ripened_60
      refine v_icmp_gt hC 51 dX2_ripened_42 (by decide) (fun c2 => ?_) (fun c2 => ?_)
      · refine v_iload_n hC 1 dX2_ripened_51 rfl ?_
        refine v_iconst hC (nI 5) dX2_ripened_52 rfl ?_
        refine v_iadd hC dX2_ripened_53 ?_
        refine v_iconst hC (nI 2) dX2_ripened_54 rfl ?_
        refine v_iload_n hC 2 dX2_ripened_55 rfl ?_
        refine v_iconst hC (nI 5) dX2_ripened_56 rfl ?_
        refine v_isub hC dX2_ripened_57 ?_
        refine v_imul hC dX2_ripened_58 ?_
        refine v_isub hC dX2_ripened_59 ?_
        exact V.sub [] rfl (J2 _ (by rw [if_pos c2]))
      · refine v_iload_n hC 1 dX2_ripened_45 rfl ?_
        refine v_iload_n hC 2 dX2_ripened_46 rfl ?_
        refine v_iadd hC dX2_ripened_47 ?_
        refine v_goto hC 60 dX2_ripened_48 (by decide) ?_
        exact V.sub [] rfl (J2 _ (by rw [if_neg c2]))
    · by_cases q1_3 : x0 = (nI 3)
      · replace h := h.2.2.1 q1_3
        refine v_tableIn hC (nI 3) 61 dX2_ripened_1 q1_3 (by decide) (by decide) rfl (by decide) ?_
        refine v_iload_n hC 1 dX2_ripened_61 rfl ?_
        refine v_iconst hC (nI 2) dX2_ripened_62 rfl ?_
        refine v_iload_n hC 2 dX2_ripened_63 rfl ?_
        refine v_imul hC dX2_ripened_64 ?_
        refine v_isub hC dX2_ripened_65 ?_
        exact v_iret hC hR h dX2_ripened_66
      · by_cases q1_5 : x0 = (nI 5)
        · replace h := h.2.2.2.1 q1_5
          refine v_tableIn hC (nI 5) 67 dX2_ripened_1 q1_5 (by decide) (by decide) rfl (by decide) ?_
          refine v_iload_n hC 1 dX2_ripened_67 rfl ?_
          refine v_iload_n hC 2 dX2_ripened_68 rfl ?_
          refine v_iconst hC (nI 3) dX2_ripened_69 rfl ?_
          refine v_idiv hC dX2_ripened_70 (by decide) ?_
          refine v_iadd hC dX2_ripened_71 ?_
          exact v_iret hC hR h dX2_ripened_72
        · replace h := h.2.2.2.2 ⟨q1_1, q1_2, q1_3, q1_5⟩
          by_cases q1_4 : x0 = (nI 4)
          · refine v_tableIn hC (nI 4) 73 dX2_ripened_1 q1_4 (by decide) (by decide) rfl (by decide) ?_
            refine v_iload_n hC 1 dX2_ripened_73 rfl ?_
            exact v_iret hC hR h dX2_ripened_74
          refine v_tableOut hC 73 dX2_ripened_1 (sw_out _ _ (fun j hj1 hj2 => by have hj : j = 1 ∨ j = 2 ∨ j = 3 ∨ j = 4 ∨ j = 5 := (by omega); rcases hj with rfl | rfl | rfl | rfl | rfl <;> first | exact q1_1 | exact q1_2 | exact q1_3 | exact q1_4 | exact q1_5)) (by decide) ?_
          refine v_iload_n hC 1 dX2_ripened_73 rfl ?_
          exact v_iret hC hR h dX2_ripened_74
theorem cmK_ripened : CM yX2_ripened cX2_ripened 3 (some .int) rmK_ripened 3 := ⟨kw77, kw609, rfl, rfl, by decide, by decide, by decide +kernel⟩
def rmK_valueIn : Room := { frames := 1, cells := 0, slots := 0, locals := 40 }
def wK42_valueIn (x1 : Int32) (x2 : Int32) (σ : gM) (Q : Int32 → gM → Prop) : Prop :=
    vp_in x1 16 ∧ (vp_in x1 16 ∧ (vp_in x1 16 ∧ (wK_ripened (σ 47 x1.toNatClampNeg) (σ 48 x1.toNatClampNeg) ((σ 49 x1.toNatClampNeg) + x2) σ (fun (r5 : Int32) (σ5 : gM) => Q (if (nI 0) < r5 then r5 else (nI 0)) σ5))))
set_option maxHeartbeats 4000000 in
set_option maxRecDepth 100000 in
theorem kK42_valueIn (x1 : Int32) (x2 : Int32) (σ : gM) (Q : Int32 → gM → Prop) (h : wK42_valueIn x1 x2 σ Q) : CT yX2_valueIn cX2_valueIn 3 (some .int) rmK_valueIn (fun G => [.ref (gad G 42), .int x1, .int x2]) σ (gPi Q) := by
  refine c_enter (by decide) (fun _ => Nat.le_of_ble_eq_true rfl) (fun X hC hR => ?_)
  show V X 3 0 [(0, .ref (xad X 42)), (1, .int x1), (2, .int x2)] [] σ
  replace h : vp_in x1 16 ∧ (vp_in x1 16 ∧ (vp_in x1 16 ∧ (wK_ripened (σ 47 x1.toNatClampNeg) (σ 48 x1.toNatClampNeg) ((σ 49 x1.toNatClampNeg) + x2) σ (fun (r5 : Int32) (σ5 : gM) => Q (if (nI 0) < r5 then r5 else (nI 0)) σ5)))) := h
  refine v_iconst hC (nI 0) dX2_valueIn_0 rfl ?_
  refine v_aload_n hC 0 dX2_valueIn_1 rfl ?_
  refine gf_X2_24_42 hC dX2_valueIn_2 ?_
  refine v_iload_n hC 1 dX2_valueIn_5 rfl ?_
  obtain ⟨hi1, h⟩ := h
  refine v_iald hC (Nat.le_of_ble_eq_true rfl) rfl rfl hi1 dX2_valueIn_6 ?_
  refine v_aload_n hC 0 dX2_valueIn_7 rfl ?_
  refine gf_X2_27_42 hC dX2_valueIn_8 ?_
  refine v_iload_n hC 1 dX2_valueIn_11 rfl ?_
  obtain ⟨hi2, h⟩ := h
  refine v_iald hC (Nat.le_of_ble_eq_true rfl) rfl rfl hi2 dX2_valueIn_12 ?_
  refine v_aload_n hC 0 dX2_valueIn_13 rfl ?_
  refine gf_X2_30_42 hC dX2_valueIn_14 ?_
  refine v_iload_n hC 1 dX2_valueIn_17 rfl ?_
  obtain ⟨hi3, h⟩ := h
  refine v_iald hC (Nat.le_of_ble_eq_true rfl) rfl rfl hi3 dX2_valueIn_18 ?_
  refine v_iload_n hC 2 dX2_valueIn_19 rfl ?_
  refine v_iadd hC dX2_valueIn_20 ?_
  refine v_callS hC (kK_ripened _ _ _ _ _ h) cmK_ripened kw608 kw607 ⟨Nat.le_of_ble_eq_true rfl, Nat.le_of_ble_eq_true rfl⟩ (fun _ => rfl) (st := [.int (nI 0)]) (Nat.le_of_ble_eq_true rfl) rfl dX2_valueIn_21 (kk_i (fun r5 σ5 h => ?_))
  refine v_mmax hC kw610 kw611 kw89 kw612 (Nat.le_of_ble_eq_true rfl) (Nat.le_of_ble_eq_true rfl) dX2_valueIn_24 ?_
  exact v_iret hC hR h dX2_valueIn_27
theorem cmK_valueIn : CM yX2_valueIn cX2_valueIn 3 (some .int) rmK_valueIn 2 := ⟨kw77, kw606, rfl, rfl, by decide, by decide, by decide +kernel⟩
def rmA_keep : Room := { frames := 1, cells := 0, slots := 0, locals := 40 }
def wA_keep (x1 : Int32) (x2 : Int32) (x3 : Int32) (σ : gM) (Q : gM → Prop) : Prop :=
    vp_in (σ 20 4) 24 ∧ (∀ σ1 : gM, σ1 = gU σ 21 (σ 20 4).toNatClampNeg x1 → (vp_in (σ1 20 4) 24 ∧ (∀ σ2 : gM, σ2 = gU σ1 22 (σ1 20 4).toNatClampNeg x2 → (vp_in (σ2 20 4) 24 ∧ (∀ σ3 : gM, σ3 = gU σ2 23 (σ2 20 4).toNatClampNeg x3 → (∀ σ4 : gM, σ4 = gU σ3 20 4 (((σ3 20 4) + (nI 1)) - ((σ3 20 4) + (nI 1)) / (nI 24) * (nI 24)) → (∀ σ6 : gM, σ6 = gU σ4 20 3 (if (nI 24) < ((σ4 20 3) + (nI 1)) then (nI 24) else ((σ4 20 3) + (nI 1))) → (Q σ6))))))))
set_option maxHeartbeats 4000000 in
set_option maxRecDepth 100000 in
theorem kA_keep (x1 : Int32) (x2 : Int32) (x3 : Int32) (σ : gM) (Q : gM → Prop) (h : wA_keep x1 x2 x3 σ Q) : CT yX0_keep cX0_keep 4 none rmA_keep (fun G => [.ref (gad G 20), .int x1, .int x2, .int x3]) σ (gPv Q) := by
  refine c_enter (by decide) (fun _ => Nat.le_of_ble_eq_true rfl) (fun X hC hR => ?_)
  show V X 4 0 [(0, .ref (xad X 20)), (1, .int x1), (2, .int x2), (3, .int x3)] [] σ
  replace h : vp_in (σ 20 4) 24 ∧ (∀ σ1 : gM, σ1 = gU σ 21 (σ 20 4).toNatClampNeg x1 → (vp_in (σ1 20 4) 24 ∧ (∀ σ2 : gM, σ2 = gU σ1 22 (σ1 20 4).toNatClampNeg x2 → (vp_in (σ2 20 4) 24 ∧ (∀ σ3 : gM, σ3 = gU σ2 23 (σ2 20 4).toNatClampNeg x3 → (∀ σ4 : gM, σ4 = gU σ3 20 4 (((σ3 20 4) + (nI 1)) - ((σ3 20 4) + (nI 1)) / (nI 24) * (nI 24)) → (∀ σ6 : gM, σ6 = gU σ4 20 3 (if (nI 24) < ((σ4 20 3) + (nI 1)) then (nI 24) else ((σ4 20 3) + (nI 1))) → (Q σ6)))))))) := h
  refine v_aload_n hC 0 dX0_keep_0 rfl ?_
  refine gf_X0_9 hC dX0_keep_1 ?_
  refine v_aload_n hC 0 dX0_keep_4 rfl ?_
  refine gf_X0_21 hC dX0_keep_5 ?_
  refine v_iload_n hC 1 dX0_keep_8 rfl ?_
  obtain ⟨hi1, h⟩ := h
  refine v_iast hC (Nat.le_of_ble_eq_true rfl) rfl rfl hi1 dX0_keep_9 (fun σ1 e1 => ?_)
  replace h := h σ1 e1
  refine v_aload_n hC 0 dX0_keep_10 rfl ?_
  refine gf_X0_15 hC dX0_keep_11 ?_
  refine v_aload_n hC 0 dX0_keep_14 rfl ?_
  refine gf_X0_21 hC dX0_keep_15 ?_
  refine v_iload_n hC 2 dX0_keep_18 rfl ?_
  obtain ⟨hi2, h⟩ := h
  refine v_iast hC (Nat.le_of_ble_eq_true rfl) rfl rfl hi2 dX0_keep_19 (fun σ2 e2 => ?_)
  replace h := h σ2 e2
  refine v_aload_n hC 0 dX0_keep_20 rfl ?_
  refine gf_X0_18 hC dX0_keep_21 ?_
  refine v_aload_n hC 0 dX0_keep_24 rfl ?_
  refine gf_X0_21 hC dX0_keep_25 ?_
  refine v_iload_n hC 3 dX0_keep_28 rfl ?_
  obtain ⟨hi3, h⟩ := h
  refine v_iast hC (Nat.le_of_ble_eq_true rfl) rfl rfl hi3 dX0_keep_29 (fun σ3 e3 => ?_)
  replace h := h σ3 e3
  refine v_aload_n hC 0 dX0_keep_30 rfl ?_
  refine v_aload_n hC 0 dX0_keep_31 rfl ?_
  refine gf_X0_21 hC dX0_keep_32 ?_
  refine v_iconst hC (nI 1) dX0_keep_35 rfl ?_
  refine v_iadd hC dX0_keep_36 ?_
  refine v_bipush hC (nI 24) dX0_keep_37 rfl ?_
  refine v_irem hC dX0_keep_39 (by decide) ?_
  refine pf_X0_21 hC dX0_keep_40 (fun σ4 e4 => ?_)
  replace h := h σ4 e4
  refine v_aload_n hC 0 dX0_keep_43 rfl ?_
  refine v_aload_n hC 0 dX0_keep_44 rfl ?_
  refine gf_X0_25 hC dX0_keep_45 ?_
  refine v_iconst hC (nI 1) dX0_keep_48 rfl ?_
  refine v_iadd hC dX0_keep_49 ?_
  refine v_bipush hC (nI 24) dX0_keep_50 rfl ?_
  refine v_mmin hC kw617 kw618 kw89 kw619 (Nat.le_of_ble_eq_true rfl) (Nat.le_of_ble_eq_true rfl) dX0_keep_52 ?_
  refine pf_X0_25 hC dX0_keep_55 (fun σ6 e6 => ?_)
  replace h := h σ6 e6
  exact v_vret hC hR h dX0_keep_58
theorem cmA_keep : CM yX0_keep cX0_keep 4 none rmA_keep 3 := ⟨kw78, kw616, rfl, rfl, by decide, by decide, by decide +kernel⟩
def rmH_isSuch : Room := { frames := 0, cells := 0, slots := 0, locals := 0 }
def wH_isSuch (x0 : Int32) (x1 : Int32) (σ : gM) (Q : Int32 → gM → Prop) : Prop :=
    ((x1 = nI 0 → (True)) ∧ (¬ (x1 = nI 0) → (((x1 = x0 → (True)) ∧ (¬ (x1 = x0) → (vp_in x0 6 ∧ True))) ∧ True))) ∧ (∀ v3 : Int32, v3 = (if x1 = nI 0 then (nI 1) else (if x1 = x0 then (nI 1) else (if x1 = (gNear x0.toNatClampNeg) then (nI 1) else (nI 0)))) → ((v3 = nI 0 ∨ v3 = nI 1) ∧ Q v3 σ))
set_option maxHeartbeats 4000000 in
set_option maxRecDepth 100000 in
theorem kH_isSuch (x0 : Int32) (x1 : Int32) (σ : gM) (Q : Int32 → gM → Prop) (h : wH_isSuch x0 x1 σ Q) : CT yX6_isSuch cX6_isSuch 2 (some .boolean) rmH_isSuch (fun G => [.int x0, .int x1]) σ (gPi Q) := by
  refine c_enter (by decide) (fun _ => Nat.le_of_ble_eq_true rfl) (fun X hC hR => ?_)
  show V X 2 0 [(0, .int x0), (1, .int x1)] [] σ
  replace h : ((x1 = nI 0 → (True)) ∧ (¬ (x1 = nI 0) → (((x1 = x0 → (True)) ∧ (¬ (x1 = x0) → (vp_in x0 6 ∧ True))) ∧ True))) ∧ (∀ v3 : Int32, v3 = (if x1 = nI 0 then (nI 1) else (if x1 = x0 then (nI 1) else (if x1 = (gNear x0.toNatClampNeg) then (nI 1) else (nI 0)))) → ((v3 = nI 0 ∨ v3 = nI 1) ∧ Q v3 σ)) := h
  refine v_iload_n hC 1 dX6_isSuch_0 rfl ?_
  obtain ⟨hO1, h⟩ := h
  have J1 : ∀ (v3 : Int32) (ev3 : v3 = (if x1 = nI 0 then (nI 1) else (if x1 = x0 then (nI 1) else (if x1 = (gNear x0.toNatClampNeg) then (nI 1) else (nI 0))))), V X 2 23 [] [.int v3] σ := by
    intro v3 ev3
    replace h := h v3 ev3
    obtain ⟨hb, h⟩ := h
    exact v_zret hC hR (nar_bool hb) h dX6_isSuch_23
  refine v_if_eq hC 18 dX6_isSuch_1 (by decide) (fun c1 => ?_) (fun c1 => ?_)
  · replace h := hO1.1 c1
    refine v_iconst hC (nI 1) dX6_isSuch_18 rfl ?_
    refine v_goto hC 23 dX6_isSuch_19 (by decide) ?_
    exact V.sub [] rfl (J1 _ (by rw [if_pos c1]))
  · replace h := hO1.2 c1
    refine v_iload_n hC 1 dX6_isSuch_4 rfl ?_
    refine v_iload_n hC 0 dX6_isSuch_5 rfl ?_
    obtain ⟨hO4, h⟩ := h
    have J4 : V X 2 23 [] [.int (if x1 = x0 then (nI 1) else (if x1 = (gNear x0.toNatClampNeg) then (nI 1) else (nI 0)))] σ := by
      exact V.sub [] rfl (J1 _ (by rw [if_neg c1]))
    refine v_icmp_eq hC 18 dX6_isSuch_6 (by decide) (fun c4 => ?_) (fun c4 => ?_)
    · replace h := hO4.1 c4
      refine v_iconst hC (nI 1) dX6_isSuch_18 rfl ?_
      refine v_goto hC 23 dX6_isSuch_19 (by decide) ?_
      rw [if_pos c4] at J4
      exact V.sub [] rfl J4
    · replace h := hO4.2 c4
      refine v_iload_n hC 1 dX6_isSuch_9 rfl ?_
      refine v_getNear hC kw633 dX6_isSuch_10 ?_
      refine v_iload_n hC 0 dX6_isSuch_13 rfl ?_
      obtain ⟨hi6, h⟩ := h
      refine v_nearAt hC hi6 dX6_isSuch_14 ?_
      have J7 : V X 2 23 [] [.int (if x1 = (gNear x0.toNatClampNeg) then (nI 1) else (nI 0))] σ := by
        rw [if_neg c4] at J4
        exact V.sub [] rfl J4
      refine v_icmp_ne hC 22 dX6_isSuch_15 (by decide) (fun c7 => ?_) (fun c7 => ?_)
      · refine v_iconst hC (nI 0) dX6_isSuch_22 rfl ?_
        rw [if_neg c7] at J7
        exact V.sub [] rfl J7
      · refine v_iconst hC (nI 1) dX6_isSuch_18 rfl ?_
        refine v_goto hC 23 dX6_isSuch_19 (by decide) ?_
        rw [if_pos c7] at J7
        exact V.sub [] rfl J7
theorem cmH_isSuch : CM yX6_isSuch cX6_isSuch 2 (some .boolean) rmH_isSuch 2 := ⟨kw75, kw632, rfl, rfl, by decide, by decide, by decide +kernel⟩
def rmK_valueTo : Room := { frames := 2, cells := 0, slots := 0, locals := 62 }
def wK42_valueTo (x1 : Int32) (x2 : Int32) (x3 : Int32) (σ : gM) (Q : Int32 → gM → Prop) : Prop :=
    wK42_valueIn x2 x3 σ (fun (r2 : Int32) (σ2 : gM) => vp_in x2 16 ∧ (vp_in x1 4 ∧ (wH_isSuch (σ2 47 x2.toNatClampNeg) (σ2 43 x1.toNatClampNeg) σ2 (fun (r6 : Int32) (σ6 : gM) => ∀ v8 : Int32, v8 = (if r6 = nI 0 then r2 else ((nI 2) * r2)) → (Q v8 σ6)))))
set_option maxHeartbeats 4000000 in
set_option maxRecDepth 100000 in
theorem kK42_valueTo (x1 : Int32) (x2 : Int32) (x3 : Int32) (σ : gM) (Q : Int32 → gM → Prop) (h : wK42_valueTo x1 x2 x3 σ Q) : CT yX2_valueTo cX2_valueTo 5 (some .int) rmK_valueTo (fun G => [.ref (gad G 42), .int x1, .int x2, .int x3]) σ (gPi Q) := by
  refine c_enter (by decide) (fun _ => Nat.le_of_ble_eq_true rfl) (fun X hC hR => ?_)
  show V X 5 0 [(0, .ref (xad X 42)), (1, .int x1), (2, .int x2), (3, .int x3)] [] σ
  replace h : wK42_valueIn x2 x3 σ (fun (r2 : Int32) (σ2 : gM) => vp_in x2 16 ∧ (vp_in x1 4 ∧ (wH_isSuch (σ2 47 x2.toNatClampNeg) (σ2 43 x1.toNatClampNeg) σ2 (fun (r6 : Int32) (σ6 : gM) => ∀ v8 : Int32, v8 = (if r6 = nI 0 then r2 else ((nI 2) * r2)) → (Q v8 σ6))))) := h
  refine v_aload_n hC 0 dX2_valueTo_0 rfl ?_
  refine v_iload_n hC 2 dX2_valueTo_1 rfl ?_
  refine v_iload_n hC 3 dX2_valueTo_2 rfl ?_
  refine v_callV hC (kK42_valueIn _ _ _ _ h) cmK_valueIn ⟨kw604, kw605⟩ kw629 ⟨Nat.le_of_ble_eq_true rfl, Nat.le_of_ble_eq_true rfl⟩ (Nat.le_of_ble_eq_true rfl) rfl (ci := 2) (T := TX2) (N := 15) rfl (As := fun G => [.int x2, .int x3]) (fun _ => rfl) (fun _ => rfl) (st := []) (Nat.le_of_ble_eq_true rfl) rfl dX2_valueTo_3 (kk_i (fun r2 σ2 h => ?_))
  refine v_istore hC dX2_valueTo_6 (by decide) rfl ?_
  refine v_aload_n hC 1 dX2_valueTo_8 rfl ?_
  refine gf_X2_24_42 hC dX2_valueTo_9 ?_
  refine v_iload_n hC 3 dX2_valueTo_12 rfl ?_
  obtain ⟨hi3, h⟩ := h
  refine v_iald hC (Nat.le_of_ble_eq_true rfl) rfl rfl hi3 dX2_valueTo_13 ?_
  refine v_aload_n hC 1 dX2_valueTo_14 rfl ?_
  refine gf_X2_9_42 hC dX2_valueTo_15 ?_
  refine v_iload_n hC 2 dX2_valueTo_18 rfl ?_
  obtain ⟨hi4, h⟩ := h
  refine v_iald hC (Nat.le_of_ble_eq_true rfl) rfl rfl hi4 dX2_valueTo_19 ?_
  refine v_callN hC (kH_isSuch _ _ _ _ h) cmH_isSuch kw631 ⟨Nat.le_of_ble_eq_true rfl, Nat.le_of_ble_eq_true rfl⟩ (fun _ => rfl) (st := []) (Nat.le_of_ble_eq_true rfl) rfl dX2_valueTo_20 (kk_i (fun r6 σ6 h => ?_))
  have J7 : ∀ (v8 : Int32) (ev8 : v8 = (if r6 = nI 0 then r2 else ((nI 2) * r2))), V X 5 35 [] [.int v8] σ6 := by
    intro v8 ev8
    replace h := h v8 ev8
    exact v_iret hC hR h dX2_valueTo_35
  refine v_if_eq hC 33 dX2_valueTo_23 (by decide) (fun c7 => ?_) (fun c7 => ?_)
  · refine v_iload hC 0 dX2_valueTo_33 rfl ?_
    exact V.sub [] rfl (J7 _ (by rw [if_pos c7]))
  · refine v_iconst hC (nI 2) dX2_valueTo_26 rfl ?_
    refine v_iload hC 0 dX2_valueTo_27 rfl ?_
    refine v_imul hC dX2_valueTo_29 ?_
    refine v_goto hC 35 dX2_valueTo_30 (by decide) ?_
    exact V.sub [] rfl (J7 _ (by rw [if_neg c7]))
theorem cmK_valueTo : CM yX2_valueTo cX2_valueTo 5 (some .int) rmK_valueTo 3 := ⟨kw77, kw628, rfl, rfl, by decide, by decide, by decide +kernel⟩
def rmK_removeAt : Room := { frames := 1, cells := 0, slots := 0, locals := 60 }
def wK42_removeAt (x1 : Int32) (σ : gM) (Q : gM → Prop) : Prop :=
    ∀ σ1 : gM, σ1 = gU σ 42 5 ((σ 42 5) - (nI 1)) → ((x1 = nI 0 → ((¬ (nI 1) < nI 0 ∧ ¬ (nI 0) < nI 0 ∧ ¬ (σ1 42 5) < nI 0 ∧ (nI 1).toNatClampNeg + (σ1 42 5).toNatClampNeg ≤ 16 ∧ (nI 0).toNatClampNeg + (σ1 42 5).toNatClampNeg ≤ 16) ∧ (∀ σ3 : gM, σ3 = gCp σ1 51 (nI 1).toNatClampNeg 51 (nI 0).toNatClampNeg (σ1 42 5).toNatClampNeg → (Q σ3)))) ∧ (¬ (x1 = nI 0) → (Q σ1)))
set_option maxHeartbeats 4000000 in
set_option maxRecDepth 100000 in
theorem kK42_removeAt (x1 : Int32) (σ : gM) (Q : gM → Prop) (h : wK42_removeAt x1 σ Q) : CT yX2_removeAt cX2_removeAt 2 none rmK_removeAt (fun G => [.ref (gad G 42), .int x1]) σ (gPv Q) := by
  refine c_enter (by decide) (fun _ => Nat.le_of_ble_eq_true rfl) (fun X hC hR => ?_)
  show V X 2 0 [(0, .ref (xad X 42)), (1, .int x1)] [] σ
  replace h : ∀ σ1 : gM, σ1 = gU σ 42 5 ((σ 42 5) - (nI 1)) → ((x1 = nI 0 → ((¬ (nI 1) < nI 0 ∧ ¬ (nI 0) < nI 0 ∧ ¬ (σ1 42 5) < nI 0 ∧ (nI 1).toNatClampNeg + (σ1 42 5).toNatClampNeg ≤ 16 ∧ (nI 0).toNatClampNeg + (σ1 42 5).toNatClampNeg ≤ 16) ∧ (∀ σ3 : gM, σ3 = gCp σ1 51 (nI 1).toNatClampNeg 51 (nI 0).toNatClampNeg (σ1 42 5).toNatClampNeg → (Q σ3)))) ∧ (¬ (x1 = nI 0) → (Q σ1))) := h
  refine v_aload_n hC 0 dX2_removeAt_0 rfl ?_
  refine v_dup hC dX2_removeAt_1 rfl ?_
  refine gf_X2_56_42 hC dX2_removeAt_2 ?_
  refine v_iconst hC (nI 1) dX2_removeAt_5 rfl ?_
  refine v_isub hC dX2_removeAt_6 ?_
  refine pf_X2_56_42 hC dX2_removeAt_7 (fun σ1 e1 => ?_)
  replace h := h σ1 e1
  refine v_iload_n hC 1 dX2_removeAt_10 rfl ?_
  refine v_if_ne hC 31 dX2_removeAt_11 (by decide) (fun c2 => ?_) (fun c2 => ?_)
  · replace h := h.2 c2
    exact v_vret hC hR h dX2_removeAt_31
  · replace h := h.1 c2
    refine v_aload_n hC 0 dX2_removeAt_14 rfl ?_
    refine gf_X2_36_42 hC dX2_removeAt_15 ?_
    refine v_iconst hC (nI 1) dX2_removeAt_18 rfl ?_
    refine v_aload_n hC 0 dX2_removeAt_19 rfl ?_
    refine gf_X2_36_42 hC dX2_removeAt_20 ?_
    refine v_iconst hC (nI 0) dX2_removeAt_23 rfl ?_
    refine v_aload_n hC 0 dX2_removeAt_24 rfl ?_
    refine gf_X2_56_42 hC dX2_removeAt_25 ?_
    obtain ⟨hk3, h⟩ := h
    refine v_copy hC (Nat.le_of_ble_eq_true rfl) (Nat.le_of_ble_eq_true rfl) rfl rfl kw571 kw420 kw419 kw84 hk3.1 hk3.2.1 hk3.2.2.1 hk3.2.2.2.1 hk3.2.2.2.2 (Nat.le_of_ble_eq_true rfl) (by decide) dX2_removeAt_28 (fun σ3 e3 => ?_)
    replace h := h σ3 e3
    exact v_vret hC hR h dX2_removeAt_31
theorem cmK_removeAt : CM yX2_removeAt cX2_removeAt 2 none rmK_removeAt 1 := ⟨kw77, kw638, rfl, rfl, by decide, by decide, by decide +kernel⟩
def rmK_sell : Room := { frames := 3, cells := 0, slots := 0, locals := 86 }
def wK42_sell (x1 : Int32) (x2 : Int32) (σ : gM) (Q : Int32 → gM → Prop) : Prop :=
    wK42_wareAt x2 σ (fun (r2 : Int32) (σ2 : gM) => wK42_valueTo x1 r2 (nI 0) σ2 (fun (r4 : Int32) (σ4 : gM) => vp_in x1 4 ∧ (wK42_valueIn r2 (nI 0) σ4 (fun (r7 : Int32) (σ7 : gM) => vp_in x1 4 ∧ (∀ σ8 : gM, σ8 = gU σ7 44 x1.toNatClampNeg ((σ4 44 x1.toNatClampNeg) - r7) → (vp_in x1 4 ∧ (vp_in x1 4 ∧ (∀ σ10 : gM, σ10 = gU σ8 45 x1.toNatClampNeg ((σ8 45 x1.toNatClampNeg) + r4) → (vp_in x1 4 ∧ (vp_in x1 4 ∧ (∀ σ12 : gM, σ12 = gU σ10 46 x1.toNatClampNeg ((σ10 46 x1.toNatClampNeg) + (nI 1)) → (vp_in r2 16 ∧ (∀ σ13 : gM, σ13 = gU σ12 50 r2.toNatClampNeg x1 → (wK42_removeAt x2 σ13 (fun (σ15 : gM) => Q r4 σ15)))))))))))))))
set_option maxHeartbeats 4000000 in
set_option maxRecDepth 100000 in
theorem kK42_sell (x1 : Int32) (x2 : Int32) (σ : gM) (Q : Int32 → gM → Prop) (h : wK42_sell x1 x2 σ Q) : CT yX2_sell cX2_sell 5 (some .int) rmK_sell (fun G => [.ref (gad G 42), .int x1, .int x2]) σ (gPi Q) := by
  refine c_enter (by decide) (fun _ => Nat.le_of_ble_eq_true rfl) (fun X hC hR => ?_)
  show V X 5 0 [(0, .ref (xad X 42)), (1, .int x1), (2, .int x2)] [] σ
  replace h : wK42_wareAt x2 σ (fun (r2 : Int32) (σ2 : gM) => wK42_valueTo x1 r2 (nI 0) σ2 (fun (r4 : Int32) (σ4 : gM) => vp_in x1 4 ∧ (wK42_valueIn r2 (nI 0) σ4 (fun (r7 : Int32) (σ7 : gM) => vp_in x1 4 ∧ (∀ σ8 : gM, σ8 = gU σ7 44 x1.toNatClampNeg ((σ4 44 x1.toNatClampNeg) - r7) → (vp_in x1 4 ∧ (vp_in x1 4 ∧ (∀ σ10 : gM, σ10 = gU σ8 45 x1.toNatClampNeg ((σ8 45 x1.toNatClampNeg) + r4) → (vp_in x1 4 ∧ (vp_in x1 4 ∧ (∀ σ12 : gM, σ12 = gU σ10 46 x1.toNatClampNeg ((σ10 46 x1.toNatClampNeg) + (nI 1)) → (vp_in r2 16 ∧ (∀ σ13 : gM, σ13 = gU σ12 50 r2.toNatClampNeg x1 → (wK42_removeAt x2 σ13 (fun (σ15 : gM) => Q r4 σ15))))))))))))))) := h
  refine v_aload_n hC 0 dX2_sell_0 rfl ?_
  refine v_iload_n hC 2 dX2_sell_1 rfl ?_
  refine v_callV hC (kK42_wareAt _ _ _ h) cmK_wareAt ⟨kw600, kw601⟩ kw624 ⟨Nat.le_of_ble_eq_true rfl, Nat.le_of_ble_eq_true rfl⟩ (Nat.le_of_ble_eq_true rfl) rfl (ci := 2) (T := TX2) (N := 15) rfl (As := fun G => [.int x2]) (fun _ => rfl) (fun _ => rfl) (st := []) (Nat.le_of_ble_eq_true rfl) rfl dX2_sell_2 (kk_i (fun r2 σ2 h => ?_))
  refine v_istore_n hC dX2_sell_5 (by decide) rfl ?_
  refine v_aload_n hC 1 dX2_sell_6 rfl ?_
  refine v_iload_n hC 2 dX2_sell_7 rfl ?_
  refine v_iload_n hC 0 dX2_sell_8 rfl ?_
  refine v_iconst hC (nI 0) dX2_sell_9 rfl ?_
  refine v_callV hC (kK42_valueTo _ _ _ _ _ h) cmK_valueTo ⟨kw626, kw627⟩ kw625 ⟨Nat.le_of_ble_eq_true rfl, Nat.le_of_ble_eq_true rfl⟩ (Nat.le_of_ble_eq_true rfl) rfl (ci := 2) (T := TX2) (N := 15) rfl (As := fun G => [.int x1, .int r2, .int (nI 0)]) (fun _ => rfl) (fun _ => rfl) (st := []) (Nat.le_of_ble_eq_true rfl) rfl dX2_sell_10 (kk_i (fun r4 σ4 h => ?_))
  refine v_istore hC dX2_sell_13 (by decide) rfl ?_
  refine v_aload_n hC 2 dX2_sell_15 rfl ?_
  refine gf_X2_15_42 hC dX2_sell_16 ?_
  refine v_iload_n hC 3 dX2_sell_19 rfl ?_
  refine v_dup2 hC dX2_sell_20 rfl rfl ?_
  obtain ⟨hi5, h⟩ := h
  refine v_iald hC (Nat.le_of_ble_eq_true rfl) rfl rfl hi5 dX2_sell_21 ?_
  refine v_aload_n hC 2 dX2_sell_22 rfl ?_
  refine v_iload_n hC 1 dX2_sell_23 rfl ?_
  refine v_iconst hC (nI 0) dX2_sell_24 rfl ?_
  refine v_callV hC (kK42_valueIn _ _ _ _ h) cmK_valueIn ⟨kw604, kw605⟩ kw629 ⟨Nat.le_of_ble_eq_true rfl, Nat.le_of_ble_eq_true rfl⟩ (Nat.le_of_ble_eq_true rfl) rfl (ci := 2) (T := TX2) (N := 15) rfl (As := fun G => [.int r2, .int (nI 0)]) (fun _ => rfl) (fun _ => rfl) (st := [.int (σ4 44 x1.toNatClampNeg), .int x1, .ref (xad X 44)]) (Nat.le_of_ble_eq_true rfl) rfl dX2_sell_25 (kk_i (fun r7 σ7 h => ?_))
  refine v_isub hC dX2_sell_28 ?_
  obtain ⟨hi8, h⟩ := h
  refine v_iast hC (Nat.le_of_ble_eq_true rfl) rfl rfl hi8 dX2_sell_29 (fun σ8 e8 => ?_)
  replace h := h σ8 e8
  refine v_aload_n hC 2 dX2_sell_30 rfl ?_
  refine gf_X2_18_42 hC dX2_sell_31 ?_
  refine v_iload_n hC 3 dX2_sell_34 rfl ?_
  refine v_dup2 hC dX2_sell_35 rfl rfl ?_
  obtain ⟨hi9, h⟩ := h
  refine v_iald hC (Nat.le_of_ble_eq_true rfl) rfl rfl hi9 dX2_sell_36 ?_
  refine v_iload hC 0 dX2_sell_37 rfl ?_
  refine v_iadd hC dX2_sell_39 ?_
  obtain ⟨hi10, h⟩ := h
  refine v_iast hC (Nat.le_of_ble_eq_true rfl) rfl rfl hi10 dX2_sell_40 (fun σ10 e10 => ?_)
  replace h := h σ10 e10
  refine v_aload_n hC 2 dX2_sell_41 rfl ?_
  refine gf_X2_21_42 hC dX2_sell_42 ?_
  refine v_iload_n hC 3 dX2_sell_45 rfl ?_
  refine v_dup2 hC dX2_sell_46 rfl rfl ?_
  obtain ⟨hi11, h⟩ := h
  refine v_iald hC (Nat.le_of_ble_eq_true rfl) rfl rfl hi11 dX2_sell_47 ?_
  refine v_iconst hC (nI 1) dX2_sell_48 rfl ?_
  refine v_iadd hC dX2_sell_49 ?_
  obtain ⟨hi12, h⟩ := h
  refine v_iast hC (Nat.le_of_ble_eq_true rfl) rfl rfl hi12 dX2_sell_50 (fun σ12 e12 => ?_)
  replace h := h σ12 e12
  refine v_aload_n hC 2 dX2_sell_51 rfl ?_
  refine gf_X2_33_42 hC dX2_sell_52 ?_
  refine v_iload_n hC 1 dX2_sell_55 rfl ?_
  refine v_iload_n hC 3 dX2_sell_56 rfl ?_
  obtain ⟨hi13, h⟩ := h
  refine v_iast hC (Nat.le_of_ble_eq_true rfl) rfl rfl hi13 dX2_sell_57 (fun σ13 e13 => ?_)
  replace h := h σ13 e13
  refine v_aload_n hC 2 dX2_sell_58 rfl ?_
  refine v_iload_n hC 4 dX2_sell_59 rfl ?_
  refine v_callV hC (kK42_removeAt _ _ _ h) cmK_removeAt ⟨kw637, kw19⟩ kw635 ⟨Nat.le_of_ble_eq_true rfl, Nat.le_of_ble_eq_true rfl⟩ (Nat.le_of_ble_eq_true rfl) rfl (ci := 2) (T := TX2) (N := 15) rfl (As := fun G => [.int x2]) (fun _ => rfl) (fun _ => rfl) (st := []) (Nat.le_of_ble_eq_true rfl) rfl dX2_sell_60 (kk_v (fun σ15 h => ?_))
  refine v_iload hC 0 dX2_sell_63 rfl ?_
  exact v_iret hC hR h dX2_sell_65
theorem cmK_sell : CM yX2_sell cX2_sell 5 (some .int) rmK_sell 2 := ⟨kw77, kw623, rfl, rfl, by decide, by decide, by decide +kernel⟩
def rmH_take : Room := { frames := 4, cells := 0, slots := 0, locals := 110 }
def wH_take (x1 : Int32) (x2 : Int32) (σ : gM) (Q : Int32 → gM → Prop) : Prop :=
    wH_isNoBuyer x1 σ (fun (r2 : Int32) (σ2 : gM) => (r2 = nI 0 → (wH_isNoEnd x2 σ2 (fun (r5 : Int32) (σ5 : gM) => (r5 = nI 0 → (((σ5 42 5) = nI 0 → (Q (-1000002 : Int32) σ5)) ∧ (¬ ((σ5 42 5) = nI 0) → (wK42_wareAt x2 σ5 (fun (r9 : Int32) (σ9 : gM) => vp_in x1 4 ∧ (wK42_valueIn r9 (nI 0) σ9 (fun (r12 : Int32) (σ12 : gM) => (r12 ≤ (σ9 44 x1.toNatClampNeg) → (wA_keep (nI 0) x2 r9 σ12 (fun (σ15 : gM) => wK42_sell x1 x2 σ15 (fun (r17 : Int32) (σ17 : gM) => Q r17 σ17)))) ∧ (¬ (r12 ≤ (σ9 44 x1.toNatClampNeg)) → (Q (-1000002 : Int32) σ12))))))))) ∧ (¬ (r5 = nI 0) → (Q (-1000001 : Int32) σ5))))) ∧ (¬ (r2 = nI 0) → (Q (-1000001 : Int32) σ2)))
set_option maxHeartbeats 4000000 in
set_option maxRecDepth 100000 in
theorem kH_take (x1 : Int32) (x2 : Int32) (σ : gM) (Q : Int32 → gM → Prop) (h : wH_take x1 x2 σ Q) : CT yX6_take cX6_take 4 (some .int) rmH_take (fun G => [.ref (gad G 0), .int x1, .int x2]) σ (gPi Q) := by
  refine c_enter (by decide) (fun _ => Nat.le_of_ble_eq_true rfl) (fun X hC hR => ?_)
  show V X 4 0 [(0, .ref (xad X 0)), (1, .int x1), (2, .int x2)] [] σ
  replace h : wH_isNoBuyer x1 σ (fun (r2 : Int32) (σ2 : gM) => (r2 = nI 0 → (wH_isNoEnd x2 σ2 (fun (r5 : Int32) (σ5 : gM) => (r5 = nI 0 → (((σ5 42 5) = nI 0 → (Q (-1000002 : Int32) σ5)) ∧ (¬ ((σ5 42 5) = nI 0) → (wK42_wareAt x2 σ5 (fun (r9 : Int32) (σ9 : gM) => vp_in x1 4 ∧ (wK42_valueIn r9 (nI 0) σ9 (fun (r12 : Int32) (σ12 : gM) => (r12 ≤ (σ9 44 x1.toNatClampNeg) → (wA_keep (nI 0) x2 r9 σ12 (fun (σ15 : gM) => wK42_sell x1 x2 σ15 (fun (r17 : Int32) (σ17 : gM) => Q r17 σ17)))) ∧ (¬ (r12 ≤ (σ9 44 x1.toNatClampNeg)) → (Q (-1000002 : Int32) σ12))))))))) ∧ (¬ (r5 = nI 0) → (Q (-1000001 : Int32) σ5))))) ∧ (¬ (r2 = nI 0) → (Q (-1000001 : Int32) σ2))) := h
  refine v_aload_n hC 0 dX6_take_0 rfl ?_
  refine v_iload_n hC 1 dX6_take_1 rfl ?_
  refine v_callV hC (kH_isNoBuyer _ _ _ h) cmH_isNoBuyer ⟨kw592, kw17⟩ kw590 ⟨Nat.le_of_ble_eq_true rfl, Nat.le_of_ble_eq_true rfl⟩ (Nat.le_of_ble_eq_true rfl) rfl (ci := 6) (T := TX6) (N := 12) rfl (As := fun G => [.int x1]) (fun _ => rfl) (fun _ => rfl) (st := []) (Nat.le_of_ble_eq_true rfl) rfl dX6_take_2 (kk_i (fun r2 σ2 h => ?_))
  refine v_if_ne hC 16 dX6_take_5 (by decide) (fun c3 => ?_) (fun c3 => ?_)
  · replace h := h.2 c3
    refine v_ldc hC kw377 dX6_take_16 ?_
    exact v_iret hC hR h dX6_take_18
  · replace h := h.1 c3
    refine v_aload_n hC 0 dX6_take_8 rfl ?_
    refine v_iload_n hC 2 dX6_take_9 rfl ?_
    refine v_callV hC (kH_isNoEnd _ _ _ h) cmH_isNoEnd ⟨kw596, kw18⟩ kw594 ⟨Nat.le_of_ble_eq_true rfl, Nat.le_of_ble_eq_true rfl⟩ (Nat.le_of_ble_eq_true rfl) rfl (ci := 6) (T := TX6) (N := 12) rfl (As := fun G => [.int x2]) (fun _ => rfl) (fun _ => rfl) (st := []) (Nat.le_of_ble_eq_true rfl) rfl dX6_take_10 (kk_i (fun r5 σ5 h => ?_))
    refine v_if_eq hC 19 dX6_take_13 (by decide) (fun c6 => ?_) (fun c6 => ?_)
    · replace h := h.1 c6
      refine v_aload_n hC 0 dX6_take_19 rfl ?_
      refine gf_X6_25 hC dX6_take_20 ?_
      refine gf_X6_148_42 hC dX6_take_23 ?_
      refine v_if_ne hC 32 dX6_take_26 (by decide) (fun c7 => ?_) (fun c7 => ?_)
      · replace h := h.2 c7
        refine v_aload_n hC 0 dX6_take_32 rfl ?_
        refine gf_X6_25 hC dX6_take_33 ?_
        refine v_iload_n hC 2 dX6_take_36 rfl ?_
        refine v_callV hC (kK42_wareAt _ _ _ h) cmK_wareAt ⟨kw600, kw601⟩ kw599 ⟨Nat.le_of_ble_eq_true rfl, Nat.le_of_ble_eq_true rfl⟩ (Nat.le_of_ble_eq_true rfl) rfl (ci := 2) (T := TX2) (N := 15) rfl (As := fun G => [.int x2]) (fun _ => rfl) (fun _ => rfl) (st := []) (Nat.le_of_ble_eq_true rfl) rfl dX6_take_37 (kk_i (fun r9 σ9 h => ?_))
        refine v_istore_n hC dX6_take_40 (by decide) rfl ?_
        refine v_aload_n hC 1 dX6_take_41 rfl ?_
        refine gf_X6_25 hC dX6_take_42 ?_
        refine gf_X6_155_42 hC dX6_take_45 ?_
        refine v_iload_n hC 2 dX6_take_48 rfl ?_
        obtain ⟨hi10, h⟩ := h
        refine v_iald hC (Nat.le_of_ble_eq_true rfl) rfl rfl hi10 dX6_take_49 ?_
        refine v_aload_n hC 1 dX6_take_50 rfl ?_
        refine gf_X6_25 hC dX6_take_51 ?_
        refine v_iload_n hC 0 dX6_take_54 rfl ?_
        refine v_iconst hC (nI 0) dX6_take_55 rfl ?_
        refine v_callV hC (kK42_valueIn _ _ _ _ h) cmK_valueIn ⟨kw604, kw605⟩ kw603 ⟨Nat.le_of_ble_eq_true rfl, Nat.le_of_ble_eq_true rfl⟩ (Nat.le_of_ble_eq_true rfl) rfl (ci := 2) (T := TX2) (N := 15) rfl (As := fun G => [.int r9, .int (nI 0)]) (fun _ => rfl) (fun _ => rfl) (st := [.int (σ9 44 x1.toNatClampNeg)]) (Nat.le_of_ble_eq_true rfl) rfl dX6_take_56 (kk_i (fun r12 σ12 h => ?_))
        refine v_icmp_ge hC 65 dX6_take_59 (by decide) (fun c13 => ?_) (fun c13 => ?_)
        · replace h := h.1 c13
          refine v_aload_n hC 1 dX6_take_65 rfl ?_
          refine gf_X6_39 hC dX6_take_66 ?_
          refine v_iconst hC (nI 0) dX6_take_69 rfl ?_
          refine v_iload_n hC 3 dX6_take_70 rfl ?_
          refine v_iload_n hC 0 dX6_take_71 rfl ?_
          refine v_callV hC (kA_keep _ _ _ _ _ h) cmA_keep ⟨kw614, kw615⟩ kw613 ⟨Nat.le_of_ble_eq_true rfl, Nat.le_of_ble_eq_true rfl⟩ (Nat.le_of_ble_eq_true rfl) rfl (ci := 0) (T := TX0) (N := 5) rfl (As := fun G => [.int (nI 0), .int x2, .int r9]) (fun _ => rfl) (fun _ => rfl) (st := []) (Nat.le_of_ble_eq_true rfl) rfl dX6_take_72 (kk_v (fun σ15 h => ?_))
          refine v_aload_n hC 1 dX6_take_75 rfl ?_
          refine gf_X6_25 hC dX6_take_76 ?_
          refine v_iload_n hC 2 dX6_take_79 rfl ?_
          refine v_iload_n hC 3 dX6_take_80 rfl ?_
          refine v_callV hC (kK42_sell _ _ _ _ h) cmK_sell ⟨kw621, kw622⟩ kw620 ⟨Nat.le_of_ble_eq_true rfl, Nat.le_of_ble_eq_true rfl⟩ (Nat.le_of_ble_eq_true rfl) rfl (ci := 2) (T := TX2) (N := 15) rfl (As := fun G => [.int x1, .int x2]) (fun _ => rfl) (fun _ => rfl) (st := []) (Nat.le_of_ble_eq_true rfl) rfl dX6_take_81 (kk_i (fun r17 σ17 h => ?_))
          exact v_iret hC hR h dX6_take_84
        · replace h := h.2 c13
          refine v_ldc hC kw598 dX6_take_62 ?_
          exact v_iret hC hR h dX6_take_64
      · replace h := h.1 c7
        refine v_ldc hC kw598 dX6_take_29 ?_
        exact v_iret hC hR h dX6_take_31
    · replace h := h.2 c6
      refine v_ldc hC kw377 dX6_take_16 ?_
      exact v_iret hC hR h dX6_take_18
theorem cmH_take : CM yX6_take cX6_take 4 (some .int) rmH_take 2 := ⟨kw75, kw589, rfl, rfl, by decide, by decide, by decide +kernel⟩
def wK42_putAt (x1 : Int32) (x2 : Int32) (σ : gM) (Q : gM → Prop) : Prop :=
    (x1 = nI 0 → ((¬ (nI 0) < nI 0 ∧ ¬ (nI 1) < nI 0 ∧ ¬ (σ 42 5) < nI 0 ∧ (nI 0).toNatClampNeg + (σ 42 5).toNatClampNeg ≤ 16 ∧ (nI 1).toNatClampNeg + (σ 42 5).toNatClampNeg ≤ 16) ∧ (∀ σ2 : gM, σ2 = gCp σ 51 (nI 0).toNatClampNeg 51 (nI 1).toNatClampNeg (σ 42 5).toNatClampNeg → (∀ σ3 : gM, σ3 = gU σ2 51 0 x2 → (∀ σ4 : gM, σ4 = gU σ3 42 5 ((σ3 42 5) + (nI 1)) → (Q σ4)))))) ∧ (¬ (x1 = nI 0) → (vp_in (σ 42 5) 16 ∧ (∀ σ5 : gM, σ5 = gU σ 51 (σ 42 5).toNatClampNeg x2 → (∀ σ6 : gM, σ6 = gU σ5 42 5 ((σ5 42 5) + (nI 1)) → (Q σ6)))))
set_option maxHeartbeats 4000000 in
set_option maxRecDepth 100000 in
theorem kK42_putAt (x1 : Int32) (x2 : Int32) (σ : gM) (Q : gM → Prop) (h : wK42_putAt x1 x2 σ Q) : CT yX2_putAt cX2_putAt 3 none rmK_putAt (fun G => [.ref (gad G 42), .int x1, .int x2]) σ (gPv Q) := by
  refine c_enter (by decide) (fun _ => Nat.le_of_ble_eq_true rfl) (fun X hC hR => ?_)
  show V X 3 0 [(0, .ref (xad X 42)), (1, .int x1), (2, .int x2)] [] σ
  replace h : (x1 = nI 0 → ((¬ (nI 0) < nI 0 ∧ ¬ (nI 1) < nI 0 ∧ ¬ (σ 42 5) < nI 0 ∧ (nI 0).toNatClampNeg + (σ 42 5).toNatClampNeg ≤ 16 ∧ (nI 1).toNatClampNeg + (σ 42 5).toNatClampNeg ≤ 16) ∧ (∀ σ2 : gM, σ2 = gCp σ 51 (nI 0).toNatClampNeg 51 (nI 1).toNatClampNeg (σ 42 5).toNatClampNeg → (∀ σ3 : gM, σ3 = gU σ2 51 0 x2 → (∀ σ4 : gM, σ4 = gU σ3 42 5 ((σ3 42 5) + (nI 1)) → (Q σ4)))))) ∧ (¬ (x1 = nI 0) → (vp_in (σ 42 5) 16 ∧ (∀ σ5 : gM, σ5 = gU σ 51 (σ 42 5).toNatClampNeg x2 → (∀ σ6 : gM, σ6 = gU σ5 42 5 ((σ5 42 5) + (nI 1)) → (Q σ6))))) := h
  refine v_iload_n hC 1 dX2_putAt_0 rfl ?_
  refine v_if_ne hC 31 dX2_putAt_1 (by decide) (fun c1 => ?_) (fun c1 => ?_)
  · replace h := h.2 c1
    refine v_aload_n hC 0 dX2_putAt_31 rfl ?_
    refine gf_X2_36_42 hC dX2_putAt_32 ?_
    refine v_aload_n hC 0 dX2_putAt_35 rfl ?_
    refine gf_X2_56_42 hC dX2_putAt_36 ?_
    refine v_iload_n hC 2 dX2_putAt_39 rfl ?_
    obtain ⟨hi5, h⟩ := h
    refine v_iast hC (Nat.le_of_ble_eq_true rfl) rfl rfl hi5 dX2_putAt_40 (fun σ5 e5 => ?_)
    replace h := h σ5 e5
    refine v_aload_n hC 0 dX2_putAt_41 rfl ?_
    refine v_dup hC dX2_putAt_42 rfl ?_
    refine gf_X2_56_42 hC dX2_putAt_43 ?_
    refine v_iconst hC (nI 1) dX2_putAt_46 rfl ?_
    refine v_iadd hC dX2_putAt_47 ?_
    refine pf_X2_56_42 hC dX2_putAt_48 (fun σ6 e6 => ?_)
    replace h := h σ6 e6
    exact v_vret hC hR h dX2_putAt_51
  · replace h := h.1 c1
    refine v_aload_n hC 0 dX2_putAt_4 rfl ?_
    refine gf_X2_36_42 hC dX2_putAt_5 ?_
    refine v_iconst hC (nI 0) dX2_putAt_8 rfl ?_
    refine v_aload_n hC 0 dX2_putAt_9 rfl ?_
    refine gf_X2_36_42 hC dX2_putAt_10 ?_
    refine v_iconst hC (nI 1) dX2_putAt_13 rfl ?_
    refine v_aload_n hC 0 dX2_putAt_14 rfl ?_
    refine gf_X2_56_42 hC dX2_putAt_15 ?_
    obtain ⟨hk2, h⟩ := h
    refine v_copy hC (Nat.le_of_ble_eq_true rfl) (Nat.le_of_ble_eq_true rfl) rfl rfl kw571 kw420 kw419 kw84 hk2.1 hk2.2.1 hk2.2.2.1 hk2.2.2.2.1 hk2.2.2.2.2 (Nat.le_of_ble_eq_true rfl) (by decide) dX2_putAt_18 (fun σ2 e2 => ?_)
    replace h := h σ2 e2
    refine v_aload_n hC 0 dX2_putAt_21 rfl ?_
    refine gf_X2_36_42 hC dX2_putAt_22 ?_
    refine v_iconst hC (nI 0) dX2_putAt_25 rfl ?_
    refine v_iload_n hC 2 dX2_putAt_26 rfl ?_
    refine v_iast hC (Nat.le_of_ble_eq_true rfl) rfl (j := 0) (by decide) (by unfold vp_in; decide) dX2_putAt_27 (fun σ3 e3 => ?_)
    replace h := h σ3 e3
    refine v_goto hC 41 dX2_putAt_28 (by decide) ?_
    refine v_aload_n hC 0 dX2_putAt_41 rfl ?_
    refine v_dup hC dX2_putAt_42 rfl ?_
    refine gf_X2_56_42 hC dX2_putAt_43 ?_
    refine v_iconst hC (nI 1) dX2_putAt_46 rfl ?_
    refine v_iadd hC dX2_putAt_47 ?_
    refine pf_X2_56_42 hC dX2_putAt_48 (fun σ4 e4 => ?_)
    replace h := h σ4 e4
    exact v_vret hC hR h dX2_putAt_51
def wK42_addWare (x1 : Int32) (x2 : Int32) (x3 : Int32) (x4 : Int32) (σ : gM) (Q : Int32 → gM → Prop) : Prop :=
    ∀ x5_1 : Int32, x5_1 = (σ 42 4) → (vp_in x5_1 16 ∧ (∀ σ2 : gM, σ2 = gU σ 47 x5_1.toNatClampNeg x1 → (vp_in x5_1 16 ∧ (∀ σ3 : gM, σ3 = gU σ2 48 x5_1.toNatClampNeg x2 → (vp_in x5_1 16 ∧ (∀ σ4 : gM, σ4 = gU σ3 49 x5_1.toNatClampNeg x3 → (vp_in x5_1 16 ∧ (∀ σ5 : gM, σ5 = gU σ4 50 x5_1.toNatClampNeg (-1000000 : Int32) → (∀ σ6 : gM, σ6 = gU σ5 42 4 ((σ5 42 4) + (nI 1)) → (wK42_putAt x4 x5_1 σ6 (fun (σ8 : gM) => Q x5_1 σ8)))))))))))
set_option maxHeartbeats 4000000 in
set_option maxRecDepth 100000 in
theorem kK42_addWare (x1 : Int32) (x2 : Int32) (x3 : Int32) (x4 : Int32) (σ : gM) (Q : Int32 → gM → Prop) (h : wK42_addWare x1 x2 x3 x4 σ Q) : CT yX2_addWare cX2_addWare 6 (some .int) rmK_addWare (fun G => [.ref (gad G 42), .int x1, .int x2, .int x3, .int x4]) σ (gPi Q) := by
  refine c_enter (by decide) (fun _ => Nat.le_of_ble_eq_true rfl) (fun X hC hR => ?_)
  show V X 6 0 [(0, .ref (xad X 42)), (1, .int x1), (2, .int x2), (3, .int x3), (4, .int x4)] [] σ
  replace h : ∀ x5_1 : Int32, x5_1 = (σ 42 4) → (vp_in x5_1 16 ∧ (∀ σ2 : gM, σ2 = gU σ 47 x5_1.toNatClampNeg x1 → (vp_in x5_1 16 ∧ (∀ σ3 : gM, σ3 = gU σ2 48 x5_1.toNatClampNeg x2 → (vp_in x5_1 16 ∧ (∀ σ4 : gM, σ4 = gU σ3 49 x5_1.toNatClampNeg x3 → (vp_in x5_1 16 ∧ (∀ σ5 : gM, σ5 = gU σ4 50 x5_1.toNatClampNeg (-1000000 : Int32) → (∀ σ6 : gM, σ6 = gU σ5 42 4 ((σ5 42 4) + (nI 1)) → (wK42_putAt x4 x5_1 σ6 (fun (σ8 : gM) => Q x5_1 σ8))))))))))) := h
  refine v_aload_n hC 0 dX2_addWare_0 rfl ?_
  refine gf_X2_53_42 hC dX2_addWare_1 ?_
  refine v_istoreN hC dX2_addWare_4 (by decide) (lo2 := fun x5_1 => [(5, .int x5_1), (0, .ref (xad X 42)), (1, .int x1), (2, .int x2), (3, .int x3), (4, .int x4)]) (fun _ => rfl) (fun x5_1 e1 => ?_)
  replace h := h x5_1 e1
  refine v_aload_n hC 1 dX2_addWare_6 rfl ?_
  refine gf_X2_24_42 hC dX2_addWare_7 ?_
  refine v_iload hC 0 dX2_addWare_10 rfl ?_
  refine v_iload_n hC 2 dX2_addWare_12 rfl ?_
  obtain ⟨hi2, h⟩ := h
  refine v_iast hC (Nat.le_of_ble_eq_true rfl) rfl rfl hi2 dX2_addWare_13 (fun σ2 e2 => ?_)
  replace h := h σ2 e2
  refine v_aload_n hC 1 dX2_addWare_14 rfl ?_
  refine gf_X2_27_42 hC dX2_addWare_15 ?_
  refine v_iload hC 0 dX2_addWare_18 rfl ?_
  refine v_iload_n hC 3 dX2_addWare_20 rfl ?_
  obtain ⟨hi3, h⟩ := h
  refine v_iast hC (Nat.le_of_ble_eq_true rfl) rfl rfl hi3 dX2_addWare_21 (fun σ3 e3 => ?_)
  replace h := h σ3 e3
  refine v_aload_n hC 1 dX2_addWare_22 rfl ?_
  refine gf_X2_30_42 hC dX2_addWare_23 ?_
  refine v_iload hC 0 dX2_addWare_26 rfl ?_
  refine v_iload_n hC 4 dX2_addWare_28 rfl ?_
  obtain ⟨hi4, h⟩ := h
  refine v_iast hC (Nat.le_of_ble_eq_true rfl) rfl rfl hi4 dX2_addWare_29 (fun σ4 e4 => ?_)
  replace h := h σ4 e4
  refine v_aload_n hC 1 dX2_addWare_30 rfl ?_
  refine gf_X2_33_42 hC dX2_addWare_31 ?_
  refine v_iload hC 0 dX2_addWare_34 rfl ?_
  refine v_ldc hC kw566 dX2_addWare_36 ?_
  obtain ⟨hi5, h⟩ := h
  refine v_iast hC (Nat.le_of_ble_eq_true rfl) rfl rfl hi5 dX2_addWare_38 (fun σ5 e5 => ?_)
  replace h := h σ5 e5
  refine v_aload_n hC 1 dX2_addWare_39 rfl ?_
  refine v_dup hC dX2_addWare_40 rfl ?_
  refine gf_X2_53_42 hC dX2_addWare_41 ?_
  refine v_iconst hC (nI 1) dX2_addWare_44 rfl ?_
  refine v_iadd hC dX2_addWare_45 ?_
  refine pf_X2_53_42 hC dX2_addWare_46 (fun σ6 e6 => ?_)
  replace h := h σ6 e6
  refine v_aload_n hC 1 dX2_addWare_49 rfl ?_
  refine v_iload hC 5 dX2_addWare_50 rfl ?_
  refine v_iload hC 0 dX2_addWare_52 rfl ?_
  refine v_callV hC (kK42_putAt _ _ _ _ h) cmK_putAt ⟨kw569, kw16⟩ kw567 ⟨Nat.le_of_ble_eq_true rfl, Nat.le_of_ble_eq_true rfl⟩ (Nat.le_of_ble_eq_true rfl) rfl (ci := 2) (T := TX2) (N := 15) rfl (As := fun G => [.int x4, .int x5_1]) (fun _ => rfl) (fun _ => rfl) (st := []) (Nat.le_of_ble_eq_true rfl) rfl dX2_addWare_54 (kk_v (fun σ8 h => ?_))
  refine v_iload hC 0 dX2_addWare_57 rfl ?_
  exact v_iret hC hR h dX2_addWare_59
def rmH_lay : Room := { frames := 3, cells := 0, slots := 0, locals := 107 }
def wH_lay (x1 : Int32) (x2 : Int32) (x3 : Int32) (σ : gM) (Q : Int32 → gM → Prop) : Prop :=
    ((σ 42 0) = nI 0 → (Q (-1000002 : Int32) σ)) ∧ (¬ ((σ 42 0) = nI 0) → ((x1 < (nI 1) → (Q (-1000001 : Int32) σ)) ∧ (¬ (x1 < (nI 1)) → (((nI 5) < x1 → (Q (-1000001 : Int32) σ)) ∧ (¬ ((nI 5) < x1) → ((x2 < nI 0 → (Q (-1000001 : Int32) σ)) ∧ (¬ (x2 < nI 0) → (((nI 30) < x2 → (Q (-1000001 : Int32) σ)) ∧ (¬ ((nI 30) < x2) → (wH_isNoEnd x3 σ (fun (r7 : Int32) (σ7 : gM) => (r7 = nI 0 → (((σ7 42 4) = (nI 16) → (Q (-1000003 : Int32) σ7)) ∧ (¬ ((σ7 42 4) = (nI 16)) → (wK42_addWare x1 x2 (nI 0) x3 σ7 (fun (r11 : Int32) (σ11 : gM) => wA_keep (nI 1) x3 r11 σ11 (fun (σ13 : gM) => Q r11 σ13)))))) ∧ (¬ (r7 = nI 0) → (Q (-1000001 : Int32) σ7)))))))))))))
set_option maxHeartbeats 4000000 in
set_option maxRecDepth 100000 in
theorem kH_lay (x1 : Int32) (x2 : Int32) (x3 : Int32) (σ : gM) (Q : Int32 → gM → Prop) (h : wH_lay x1 x2 x3 σ Q) : CT yX6_lay cX6_lay 5 (some .int) rmH_lay (fun G => [.ref (gad G 0), .int x1, .int x2, .int x3]) σ (gPi Q) := by
  refine c_enter (by decide) (fun _ => Nat.le_of_ble_eq_true rfl) (fun X hC hR => ?_)
  show V X 5 0 [(0, .ref (xad X 0)), (1, .int x1), (2, .int x2), (3, .int x3)] [] σ
  replace h : ((σ 42 0) = nI 0 → (Q (-1000002 : Int32) σ)) ∧ (¬ ((σ 42 0) = nI 0) → ((x1 < (nI 1) → (Q (-1000001 : Int32) σ)) ∧ (¬ (x1 < (nI 1)) → (((nI 5) < x1 → (Q (-1000001 : Int32) σ)) ∧ (¬ ((nI 5) < x1) → ((x2 < nI 0 → (Q (-1000001 : Int32) σ)) ∧ (¬ (x2 < nI 0) → (((nI 30) < x2 → (Q (-1000001 : Int32) σ)) ∧ (¬ ((nI 30) < x2) → (wH_isNoEnd x3 σ (fun (r7 : Int32) (σ7 : gM) => (r7 = nI 0 → (((σ7 42 4) = (nI 16) → (Q (-1000003 : Int32) σ7)) ∧ (¬ ((σ7 42 4) = (nI 16)) → (wK42_addWare x1 x2 (nI 0) x3 σ7 (fun (r11 : Int32) (σ11 : gM) => wA_keep (nI 1) x3 r11 σ11 (fun (σ13 : gM) => Q r11 σ13)))))) ∧ (¬ (r7 = nI 0) → (Q (-1000001 : Int32) σ7))))))))))))) := h
  refine v_aload_n hC 0 dX6_lay_0 rfl ?_
  refine gf_X6_25 hC dX6_lay_1 ?_
  refine gf_X6_168_42 hC dX6_lay_4 ?_
  refine v_if_ne hC 13 dX6_lay_7 (by decide) (fun c1 => ?_) (fun c1 => ?_)
  · replace h := h.2 c1
    refine v_iload_n hC 1 dX6_lay_13 rfl ?_
    refine v_iconst hC (nI 1) dX6_lay_14 rfl ?_
    refine v_icmp_lt hC 41 dX6_lay_15 (by decide) (fun c2 => ?_) (fun c2 => ?_)
    · replace h := h.1 c2
      refine v_ldc hC kw377 dX6_lay_41 ?_
      exact v_iret hC hR h dX6_lay_43
    · replace h := h.2 c2
      refine v_iload_n hC 1 dX6_lay_18 rfl ?_
      refine v_iconst hC (nI 5) dX6_lay_19 rfl ?_
      refine v_icmp_gt hC 41 dX6_lay_20 (by decide) (fun c3 => ?_) (fun c3 => ?_)
      · replace h := h.1 c3
        refine v_ldc hC kw377 dX6_lay_41 ?_
        exact v_iret hC hR h dX6_lay_43
      · replace h := h.2 c3
        refine v_iload_n hC 2 dX6_lay_23 rfl ?_
        refine v_if_lt hC 41 dX6_lay_24 (by decide) (fun c4 => ?_) (fun c4 => ?_)
        · replace h := h.1 c4
          refine v_ldc hC kw377 dX6_lay_41 ?_
          exact v_iret hC hR h dX6_lay_43
        · replace h := h.2 c4
          refine v_iload_n hC 2 dX6_lay_27 rfl ?_
          refine v_bipush hC (nI 30) dX6_lay_28 rfl ?_
          refine v_icmp_gt hC 41 dX6_lay_30 (by decide) (fun c5 => ?_) (fun c5 => ?_)
          · replace h := h.1 c5
            refine v_ldc hC kw377 dX6_lay_41 ?_
            exact v_iret hC hR h dX6_lay_43
          · replace h := h.2 c5
            refine v_aload_n hC 0 dX6_lay_33 rfl ?_
            refine v_iload_n hC 3 dX6_lay_34 rfl ?_
            refine v_callV hC (kH_isNoEnd _ _ _ h) cmH_isNoEnd ⟨kw596, kw18⟩ kw594 ⟨Nat.le_of_ble_eq_true rfl, Nat.le_of_ble_eq_true rfl⟩ (Nat.le_of_ble_eq_true rfl) rfl (ci := 6) (T := TX6) (N := 12) rfl (As := fun G => [.int x3]) (fun _ => rfl) (fun _ => rfl) (st := []) (Nat.le_of_ble_eq_true rfl) rfl dX6_lay_35 (kk_i (fun r7 σ7 h => ?_))
            refine v_if_eq hC 44 dX6_lay_38 (by decide) (fun c8 => ?_) (fun c8 => ?_)
            · replace h := h.1 c8
              refine v_aload_n hC 0 dX6_lay_44 rfl ?_
              refine gf_X6_25 hC dX6_lay_45 ?_
              refine gf_X6_139_42 hC dX6_lay_48 ?_
              refine v_bipush hC (nI 16) dX6_lay_51 rfl ?_
              refine v_icmp_ne hC 59 dX6_lay_53 (by decide) (fun c9 => ?_) (fun c9 => ?_)
              · replace h := h.2 c9
                refine v_aload_n hC 0 dX6_lay_59 rfl ?_
                refine gf_X6_25 hC dX6_lay_60 ?_
                refine v_iload_n hC 1 dX6_lay_63 rfl ?_
                refine v_iload_n hC 2 dX6_lay_64 rfl ?_
                refine v_iconst hC (nI 0) dX6_lay_65 rfl ?_
                refine v_iload_n hC 3 dX6_lay_66 rfl ?_
                refine v_callV hC (kK42_addWare _ _ _ _ _ _ h) cmK_addWare ⟨kw563, kw564⟩ kw643 ⟨Nat.le_of_ble_eq_true rfl, Nat.le_of_ble_eq_true rfl⟩ (Nat.le_of_ble_eq_true rfl) rfl (ci := 2) (T := TX2) (N := 15) rfl (As := fun G => [.int x1, .int x2, .int (nI 0), .int x3]) (fun _ => rfl) (fun _ => rfl) (st := []) (Nat.le_of_ble_eq_true rfl) rfl dX6_lay_67 (kk_i (fun r11 σ11 h => ?_))
                refine v_istore hC dX6_lay_70 (by decide) rfl ?_
                refine v_aload_n hC 1 dX6_lay_72 rfl ?_
                refine gf_X6_39 hC dX6_lay_73 ?_
                refine v_iconst hC (nI 1) dX6_lay_76 rfl ?_
                refine v_iload_n hC 4 dX6_lay_77 rfl ?_
                refine v_iload hC 0 dX6_lay_78 rfl ?_
                refine v_callV hC (kA_keep _ _ _ _ _ h) cmA_keep ⟨kw614, kw615⟩ kw613 ⟨Nat.le_of_ble_eq_true rfl, Nat.le_of_ble_eq_true rfl⟩ (Nat.le_of_ble_eq_true rfl) rfl (ci := 0) (T := TX0) (N := 5) rfl (As := fun G => [.int (nI 1), .int x3, .int r11]) (fun _ => rfl) (fun _ => rfl) (st := []) (Nat.le_of_ble_eq_true rfl) rfl dX6_lay_80 (kk_v (fun σ13 h => ?_))
                refine v_iload hC 0 dX6_lay_83 rfl ?_
                exact v_iret hC hR h dX6_lay_85
              · replace h := h.1 c9
                refine v_ldc hC kw429 dX6_lay_56 ?_
                exact v_iret hC hR h dX6_lay_58
            · replace h := h.2 c8
              refine v_ldc hC kw377 dX6_lay_41 ?_
              exact v_iret hC hR h dX6_lay_43
  · replace h := h.1 c1
    refine v_ldc hC kw598 dX6_lay_10 ?_
    exact v_iret hC hR h dX6_lay_12
theorem cmH_lay : CM yX6_lay cX6_lay 5 (some .int) rmH_lay 3 := ⟨kw75, kw642, rfl, rfl, by decide, by decide, by decide +kernel⟩
def rmK_rottenIn : Room := { frames := 2, cells := 0, slots := 0, locals := 62 }
def wK42_rottenIn_l4 (Q : Int32 → gM → Prop)  : Nat → Int32 → Int32 → Int32 → gM → Prop
  | 0, _, _, _, _ => False
  | n + 1, x1, x2, x3, σ =>
    ((σ 42 5) ≤ x3 → (Q x2 σ)) ∧ (¬ ((σ 42 5) ≤ x3) → (vp_in x3 16 ∧ (wK42_valueIn (σ 51 x3.toNatClampNeg) x1 σ (fun (r4 : Int32) (σ4 : gM) => ((r4 = nI 0 → (vp_in x3 16 ∧ True)) ∧ (¬ (r4 = nI 0) → (True))) ∧ (∀ v7 : Int32, v7 = (if r4 = nI 0 then (x2 ||| ((nI 1) <<< ((σ4 51 x3.toNatClampNeg) &&& 31))) else x2) → (∀ x3_8 : Int32, x3_8 = x3 + (nI 1) → (wK42_rottenIn_l4 Q n x1 v7 x3_8 σ4)))))))
def wK42_rottenIn (x1 : Int32) (σ : gM) (Q : Int32 → gM → Prop) : Prop :=
    ∃ n10 : Nat, wK42_rottenIn_l4 Q n10 x1 (nI 0) (nI 0) σ
set_option maxHeartbeats 4000000 in
set_option maxRecDepth 100000 in
theorem tK42_rottenIn_l4 {X : gX} {Q : Int32 → gM → Prop} (hC : VC X cX2_rottenIn RX2 4 rmK_rottenIn) (hR : VR X (some .int) (gPi Q))  : ∀ (n : Nat) (x1 : Int32) (x2 : Int32) (x3 : Int32) (σ : gM), wK42_rottenIn_l4 Q  n x1 x2 x3 σ → V X 4 4 [(0, .ref (xad X 42)), (1, .int x1), (2, .int x2), (3, .int x3)] [] σ := by
  intro n
  induction n with
  | zero => intro x1 x2 x3 σ h; exact h.elim
  | succ n ih =>
    intro x1 x2 x3 σ h
    replace h : ((σ 42 5) ≤ x3 → (Q x2 σ)) ∧ (¬ ((σ 42 5) ≤ x3) → (vp_in x3 16 ∧ (wK42_valueIn (σ 51 x3.toNatClampNeg) x1 σ (fun (r4 : Int32) (σ4 : gM) => ((r4 = nI 0 → (vp_in x3 16 ∧ True)) ∧ (¬ (r4 = nI 0) → (True))) ∧ (∀ v7 : Int32, v7 = (if r4 = nI 0 then (x2 ||| ((nI 1) <<< ((σ4 51 x3.toNatClampNeg) &&& 31))) else x2) → (∀ x3_8 : Int32, x3_8 = x3 + (nI 1) → (wK42_rottenIn_l4 Q n x1 v7 x3_8 σ4))))))) := h
    refine v_iload_n hC 3 dX2_rottenIn_4 rfl ?_
    refine v_aload_n hC 0 dX2_rottenIn_5 rfl ?_
    refine gf_X2_56_42 hC dX2_rottenIn_6 ?_
    refine v_icmp_ge hC 43 dX2_rottenIn_9 (by decide) (fun c1 => ?_) (fun c1 => ?_)
    · replace h := h.1 c1
      refine v_iload_n hC 2 dX2_rottenIn_43 rfl ?_
      exact v_iret hC hR h dX2_rottenIn_44
    · replace h := h.2 c1
      refine v_aload_n hC 0 dX2_rottenIn_12 rfl ?_
      refine v_aload_n hC 0 dX2_rottenIn_13 rfl ?_
      refine gf_X2_36_42 hC dX2_rottenIn_14 ?_
      refine v_iload_n hC 3 dX2_rottenIn_17 rfl ?_
      obtain ⟨hi2, h⟩ := h
      refine v_iald hC (Nat.le_of_ble_eq_true rfl) rfl rfl hi2 dX2_rottenIn_18 ?_
      refine v_iload_n hC 1 dX2_rottenIn_19 rfl ?_
      refine v_callV hC (kK42_valueIn _ _ _ _ h) cmK_valueIn ⟨kw604, kw605⟩ kw629 ⟨Nat.le_of_ble_eq_true rfl, Nat.le_of_ble_eq_true rfl⟩ (Nat.le_of_ble_eq_true rfl) rfl (ci := 2) (T := TX2) (N := 15) rfl (As := fun G => [.int (σ 51 x3.toNatClampNeg), .int x1]) (fun _ => rfl) (fun _ => rfl) (st := []) (Nat.le_of_ble_eq_true rfl) rfl dX2_rottenIn_20 (kk_i (fun r4 σ4 h => ?_))
      obtain ⟨hO5, h⟩ := h
      have J5 : ∀ (v7 : Int32) (ev7 : v7 = (if r4 = nI 0 then (x2 ||| ((nI 1) <<< ((σ4 51 x3.toNatClampNeg) &&& 31))) else x2)), V X 4 37 [(0, .ref (xad X 42)), (1, .int x1), (2, .int v7), (3, .int x3)] [] σ4 := by
        intro v7 ev7
        replace h := h v7 ev7
        refine v_iincN hC (nI 1) 3 dX2_rottenIn_37 rfl rfl (by decide) (lo2 := fun x3_8 => [(3, .int x3_8), (0, .ref (xad X 42)), (1, .int x1), (2, .int v7)]) (fun _ => rfl) (fun x3_8 e8 => ?_)
        replace h := h x3_8 e8
        refine v_goto hC 4 dX2_rottenIn_40 (by decide) ?_
        exact V.sub [1, 2, 3, 0] rfl (ih _ _ _ _ h)
      refine v_if_ne hC 37 dX2_rottenIn_23 (by decide) (fun c5 => ?_) (fun c5 => ?_)
      · replace h := hO5.2 c5
        exact V.sub [0, 1, 2, 3] rfl (J5 _ (by rw [if_neg c5]))
      · replace h := hO5.1 c5
        refine v_iload_n hC 2 dX2_rottenIn_26 rfl ?_
        refine v_iconst hC (nI 1) dX2_rottenIn_27 rfl ?_
        refine v_aload_n hC 0 dX2_rottenIn_28 rfl ?_
        refine gf_X2_36_42 hC dX2_rottenIn_29 ?_
        refine v_iload_n hC 3 dX2_rottenIn_32 rfl ?_
        obtain ⟨hi9, h⟩ := h
        refine v_iald hC (Nat.le_of_ble_eq_true rfl) rfl rfl hi9 dX2_rottenIn_33 ?_
        refine v_ishl hC dX2_rottenIn_34 ?_
        refine v_ior hC dX2_rottenIn_35 ?_
        refine v_istore_n hC dX2_rottenIn_36 (by decide) rfl ?_
        exact V.sub [1, 2, 0, 3] rfl (J5 _ (by rw [if_pos c5]))
set_option maxHeartbeats 4000000 in
set_option maxRecDepth 100000 in
theorem kK42_rottenIn (x1 : Int32) (σ : gM) (Q : Int32 → gM → Prop) (h : wK42_rottenIn x1 σ Q) : CT yX2_rottenIn cX2_rottenIn 4 (some .int) rmK_rottenIn (fun G => [.ref (gad G 42), .int x1]) σ (gPi Q) := by
  refine c_enter (by decide) (fun _ => Nat.le_of_ble_eq_true rfl) (fun X hC hR => ?_)
  show V X 4 0 [(0, .ref (xad X 42)), (1, .int x1)] [] σ
  replace h : ∃ n10 : Nat, wK42_rottenIn_l4 Q n10 x1 (nI 0) (nI 0) σ := h
  refine v_iconst hC (nI 0) dX2_rottenIn_0 rfl ?_
  refine v_istore_n hC dX2_rottenIn_1 (by decide) rfl ?_
  refine v_iconst hC (nI 0) dX2_rottenIn_2 rfl ?_
  refine v_istore_n hC dX2_rottenIn_3 (by decide) rfl ?_
  obtain ⟨n10, h⟩ := h
  exact V.sub [2, 3, 1, 0] rfl (tK42_rottenIn_l4 hC hR  n10 _ _ _ _ h)
theorem cmK_rottenIn : CM yX2_rottenIn cX2_rottenIn 4 (some .int) rmK_rottenIn 1 := ⟨kw77, kw651, rfl, rfl, by decide, by decide, by decide +kernel⟩
def rmK_passDays : Room := { frames := 0, cells := 0, slots := 0, locals := 0 }
def wK42_passDays_l12 (Q : gM → Prop)  : Nat → Int32 → Int32 → gM → Prop
  | 0, _, _, _ => False
  | n + 1, x1, x2, σ =>
    ((σ 42 5) ≤ x2 → (Q σ)) ∧ (¬ ((σ 42 5) ≤ x2) → (vp_in x2 16 ∧ (vp_in (σ 51 x2.toNatClampNeg) 16 ∧ (vp_in (σ 51 x2.toNatClampNeg) 16 ∧ (∀ σ5 : gM, σ5 = gU σ 49 (σ 51 x2.toNatClampNeg).toNatClampNeg ((σ 49 (σ 51 x2.toNatClampNeg).toNatClampNeg) + x1) → (∀ x2_6 : Int32, x2_6 = x2 + (nI 1) → (wK42_passDays_l12 Q n x1 x2_6 σ5)))))))
def wK42_passDays (x1 : Int32) (σ : gM) (Q : gM → Prop) : Prop :=
    ∀ σ1 : gM, σ1 = gU σ 42 2 ((σ 42 2) + x1) → (∃ n7 : Nat, wK42_passDays_l12 Q n7 x1 (nI 0) σ1)
set_option maxHeartbeats 4000000 in
set_option maxRecDepth 100000 in
theorem tK42_passDays_l12 {X : gX} {Q : gM → Prop} (hC : VC X cX2_passDays RX2 3 rmK_passDays) (hR : VR X none (gPv Q))  : ∀ (n : Nat) (x1 : Int32) (x2 : Int32) (σ : gM), wK42_passDays_l12 Q  n x1 x2 σ → V X 3 12 [(0, .ref (xad X 42)), (1, .int x1), (2, .int x2)] [] σ := by
  intro n
  induction n with
  | zero => intro x1 x2 σ h; exact h.elim
  | succ n ih =>
    intro x1 x2 σ h
    replace h : ((σ 42 5) ≤ x2 → (Q σ)) ∧ (¬ ((σ 42 5) ≤ x2) → (vp_in x2 16 ∧ (vp_in (σ 51 x2.toNatClampNeg) 16 ∧ (vp_in (σ 51 x2.toNatClampNeg) 16 ∧ (∀ σ5 : gM, σ5 = gU σ 49 (σ 51 x2.toNatClampNeg).toNatClampNeg ((σ 49 (σ 51 x2.toNatClampNeg).toNatClampNeg) + x1) → (∀ x2_6 : Int32, x2_6 = x2 + (nI 1) → (wK42_passDays_l12 Q n x1 x2_6 σ5))))))) := h
    refine v_iload_n hC 2 dX2_passDays_12 rfl ?_
    refine v_aload_n hC 0 dX2_passDays_13 rfl ?_
    refine gf_X2_56_42 hC dX2_passDays_14 ?_
    refine v_icmp_ge hC 41 dX2_passDays_17 (by decide) (fun c2 => ?_) (fun c2 => ?_)
    · replace h := h.1 c2
      exact v_vret hC hR h dX2_passDays_41
    · replace h := h.2 c2
      refine v_aload_n hC 0 dX2_passDays_20 rfl ?_
      refine gf_X2_30_42 hC dX2_passDays_21 ?_
      refine v_aload_n hC 0 dX2_passDays_24 rfl ?_
      refine gf_X2_36_42 hC dX2_passDays_25 ?_
      refine v_iload_n hC 2 dX2_passDays_28 rfl ?_
      obtain ⟨hi3, h⟩ := h
      refine v_iald hC (Nat.le_of_ble_eq_true rfl) rfl rfl hi3 dX2_passDays_29 ?_
      refine v_dup2 hC dX2_passDays_30 rfl rfl ?_
      obtain ⟨hi4, h⟩ := h
      refine v_iald hC (Nat.le_of_ble_eq_true rfl) rfl rfl hi4 dX2_passDays_31 ?_
      refine v_iload_n hC 1 dX2_passDays_32 rfl ?_
      refine v_iadd hC dX2_passDays_33 ?_
      obtain ⟨hi5, h⟩ := h
      refine v_iast hC (Nat.le_of_ble_eq_true rfl) rfl rfl hi5 dX2_passDays_34 (fun σ5 e5 => ?_)
      replace h := h σ5 e5
      refine v_iincN hC (nI 1) 2 dX2_passDays_35 rfl rfl (by decide) (lo2 := fun x2_6 => [(2, .int x2_6), (0, .ref (xad X 42)), (1, .int x1)]) (fun _ => rfl) (fun x2_6 e6 => ?_)
      replace h := h x2_6 e6
      refine v_goto hC 12 dX2_passDays_38 (by decide) ?_
      exact V.sub [1, 2, 0] rfl (ih _ _ _ h)
set_option maxHeartbeats 4000000 in
set_option maxRecDepth 100000 in
theorem kK42_passDays (x1 : Int32) (σ : gM) (Q : gM → Prop) (h : wK42_passDays x1 σ Q) : CT yX2_passDays cX2_passDays 3 none rmK_passDays (fun G => [.ref (gad G 42), .int x1]) σ (gPv Q) := by
  refine c_enter (by decide) (fun _ => Nat.le_of_ble_eq_true rfl) (fun X hC hR => ?_)
  show V X 3 0 [(0, .ref (xad X 42)), (1, .int x1)] [] σ
  replace h : ∀ σ1 : gM, σ1 = gU σ 42 2 ((σ 42 2) + x1) → (∃ n7 : Nat, wK42_passDays_l12 Q n7 x1 (nI 0) σ1) := h
  refine v_aload_n hC 0 dX2_passDays_0 rfl ?_
  refine v_dup hC dX2_passDays_1 rfl ?_
  refine gf_X2_47_42 hC dX2_passDays_2 ?_
  refine v_iload_n hC 1 dX2_passDays_5 rfl ?_
  refine v_iadd hC dX2_passDays_6 ?_
  refine pf_X2_47_42 hC dX2_passDays_7 (fun σ1 e1 => ?_)
  replace h := h σ1 e1
  refine v_iconst hC (nI 0) dX2_passDays_10 rfl ?_
  refine v_istore_n hC dX2_passDays_11 (by decide) rfl ?_
  obtain ⟨n7, h⟩ := h
  exact V.sub [1, 2, 0] rfl (tK42_passDays_l12 hC hR  n7 _ _ _ h)
theorem cmK_passDays : CM yX2_passDays cX2_passDays 3 none rmK_passDays 1 := ⟨kw77, kw656, rfl, rfl, by decide, by decide, by decide +kernel⟩
def rmH_day : Room := { frames := 3, cells := 0, slots := 0, locals := 85 }
def wH_day  (σ : gM) (Q : Int32 → gM → Prop) : Prop :=
    ((σ 42 0) = nI 0 → (Q (-1000002 : Int32) σ)) ∧ (¬ ((σ 42 0) = nI 0) → (((σ 42 2) < (nI 999) → (wK42_rottenIn (nI 0) σ (fun (r4 : Int32) (σ4 : gM) => wA_keep (nI 2) (-1000000 : Int32) (-1000000 : Int32) σ4 (fun (σ6 : gM) => wK42_passDays (nI 1) σ6 (fun (σ8 : gM) => wK42_rottenIn (nI 0) σ8 (fun (r10 : Int32) (σ10 : gM) => Q (r10 &&& (r4 ^^^ (-1 : Int32))) σ10)))))) ∧ (¬ ((σ 42 2) < (nI 999)) → (Q (-1000003 : Int32) σ))))
set_option maxHeartbeats 4000000 in
set_option maxRecDepth 100000 in
theorem kH_day  (σ : gM) (Q : Int32 → gM → Prop) (h : wH_day  σ Q) : CT yX6_day cX6_day 2 (some .int) rmH_day (fun G => [.ref (gad G 0)]) σ (gPi Q) := by
  refine c_enter (by decide) (fun _ => Nat.le_of_ble_eq_true rfl) (fun X hC hR => ?_)
  show V X 2 0 [(0, .ref (xad X 0))] [] σ
  replace h : ((σ 42 0) = nI 0 → (Q (-1000002 : Int32) σ)) ∧ (¬ ((σ 42 0) = nI 0) → (((σ 42 2) < (nI 999) → (wK42_rottenIn (nI 0) σ (fun (r4 : Int32) (σ4 : gM) => wA_keep (nI 2) (-1000000 : Int32) (-1000000 : Int32) σ4 (fun (σ6 : gM) => wK42_passDays (nI 1) σ6 (fun (σ8 : gM) => wK42_rottenIn (nI 0) σ8 (fun (r10 : Int32) (σ10 : gM) => Q (r10 &&& (r4 ^^^ (-1 : Int32))) σ10)))))) ∧ (¬ ((σ 42 2) < (nI 999)) → (Q (-1000003 : Int32) σ)))) := h
  refine v_aload_n hC 0 dX6_day_0 rfl ?_
  refine gf_X6_25 hC dX6_day_1 ?_
  refine gf_X6_168_42 hC dX6_day_4 ?_
  refine v_if_ne hC 13 dX6_day_7 (by decide) (fun c1 => ?_) (fun c1 => ?_)
  · replace h := h.2 c1
    refine v_aload_n hC 0 dX6_day_13 rfl ?_
    refine gf_X6_25 hC dX6_day_14 ?_
    refine gf_X6_175_42 hC dX6_day_17 ?_
    refine v_sipush hC (nI 999) dX6_day_20 rfl ?_
    refine v_icmp_lt hC 29 dX6_day_23 (by decide) (fun c2 => ?_) (fun c2 => ?_)
    · replace h := h.1 c2
      refine v_aload_n hC 0 dX6_day_29 rfl ?_
      refine gf_X6_25 hC dX6_day_30 ?_
      refine v_iconst hC (nI 0) dX6_day_33 rfl ?_
      refine v_callV hC (kK42_rottenIn _ _ _ h) cmK_rottenIn ⟨kw649, kw650⟩ kw648 ⟨Nat.le_of_ble_eq_true rfl, Nat.le_of_ble_eq_true rfl⟩ (Nat.le_of_ble_eq_true rfl) rfl (ci := 2) (T := TX2) (N := 15) rfl (As := fun G => [.int (nI 0)]) (fun _ => rfl) (fun _ => rfl) (st := []) (Nat.le_of_ble_eq_true rfl) rfl dX6_day_34 (kk_i (fun r4 σ4 h => ?_))
      refine v_istore_n hC dX6_day_37 (by decide) rfl ?_
      refine v_aload_n hC 1 dX6_day_38 rfl ?_
      refine gf_X6_39 hC dX6_day_39 ?_
      refine v_iconst hC (nI 2) dX6_day_42 rfl ?_
      refine v_ldc hC kw652 dX6_day_43 ?_
      refine v_ldc hC kw652 dX6_day_45 ?_
      refine v_callV hC (kA_keep _ _ _ _ _ h) cmA_keep ⟨kw614, kw615⟩ kw613 ⟨Nat.le_of_ble_eq_true rfl, Nat.le_of_ble_eq_true rfl⟩ (Nat.le_of_ble_eq_true rfl) rfl (ci := 0) (T := TX0) (N := 5) rfl (As := fun G => [.int (nI 2), .int (-1000000 : Int32), .int (-1000000 : Int32)]) (fun _ => rfl) (fun _ => rfl) (st := []) (Nat.le_of_ble_eq_true rfl) rfl dX6_day_47 (kk_v (fun σ6 h => ?_))
      refine v_aload_n hC 1 dX6_day_50 rfl ?_
      refine gf_X6_25 hC dX6_day_51 ?_
      refine v_iconst hC (nI 1) dX6_day_54 rfl ?_
      refine v_callV hC (kK42_passDays _ _ _ h) cmK_passDays ⟨kw654, kw655⟩ kw653 ⟨Nat.le_of_ble_eq_true rfl, Nat.le_of_ble_eq_true rfl⟩ (Nat.le_of_ble_eq_true rfl) rfl (ci := 2) (T := TX2) (N := 15) rfl (As := fun G => [.int (nI 1)]) (fun _ => rfl) (fun _ => rfl) (st := []) (Nat.le_of_ble_eq_true rfl) rfl dX6_day_55 (kk_v (fun σ8 h => ?_))
      refine v_aload_n hC 1 dX6_day_58 rfl ?_
      refine gf_X6_25 hC dX6_day_59 ?_
      refine v_iconst hC (nI 0) dX6_day_62 rfl ?_
      refine v_callV hC (kK42_rottenIn _ _ _ h) cmK_rottenIn ⟨kw649, kw650⟩ kw648 ⟨Nat.le_of_ble_eq_true rfl, Nat.le_of_ble_eq_true rfl⟩ (Nat.le_of_ble_eq_true rfl) rfl (ci := 2) (T := TX2) (N := 15) rfl (As := fun G => [.int (nI 0)]) (fun _ => rfl) (fun _ => rfl) (st := []) (Nat.le_of_ble_eq_true rfl) rfl dX6_day_63 (kk_i (fun r10 σ10 h => ?_))
      refine v_iload_n hC 0 dX6_day_66 rfl ?_
      refine v_iconst hC (-1 : Int32) dX6_day_67 rfl ?_
      refine v_ixor hC dX6_day_68 ?_
      refine v_iand hC dX6_day_69 ?_
      exact v_iret hC hR h dX6_day_70
    · replace h := h.2 c2
      refine v_ldc hC kw429 dX6_day_26 ?_
      exact v_iret hC hR h dX6_day_28
  · replace h := h.1 c1
    refine v_ldc hC kw598 dX6_day_10 ?_
    exact v_iret hC hR h dX6_day_12
theorem cmH_day : CM yX6_day cX6_day 2 (some .int) rmH_day 0 := ⟨kw75, kw647, rfl, rfl, by decide, by decide, by decide +kernel⟩
def rmA_takeBack : Room := { frames := 0, cells := 0, slots := 0, locals := 0 }
def wA_takeBack  (σ : gM) (Q : Int32 → gM → Prop) : Prop :=
    ∀ σ1 : gM, σ1 = gU σ 20 4 ((((σ 20 4) + (nI 24)) - (nI 1)) - (((σ 20 4) + (nI 24)) - (nI 1)) / (nI 24) * (nI 24)) → (∀ σ2 : gM, σ2 = gU σ1 20 3 ((σ1 20 3) - (nI 1)) → (Q (σ2 20 4) σ2))
set_option maxHeartbeats 4000000 in
set_option maxRecDepth 100000 in
theorem kA_takeBack  (σ : gM) (Q : Int32 → gM → Prop) (h : wA_takeBack  σ Q) : CT yX0_takeBack cX0_takeBack 1 (some .int) rmA_takeBack (fun G => [.ref (gad G 20)]) σ (gPi Q) := by
  refine c_enter (by decide) (fun _ => Nat.le_of_ble_eq_true rfl) (fun X hC hR => ?_)
  show V X 1 0 [(0, .ref (xad X 20))] [] σ
  replace h : ∀ σ1 : gM, σ1 = gU σ 20 4 ((((σ 20 4) + (nI 24)) - (nI 1)) - (((σ 20 4) + (nI 24)) - (nI 1)) / (nI 24) * (nI 24)) → (∀ σ2 : gM, σ2 = gU σ1 20 3 ((σ1 20 3) - (nI 1)) → (Q (σ2 20 4) σ2)) := h
  refine v_aload_n hC 0 dX0_takeBack_0 rfl ?_
  refine v_aload_n hC 0 dX0_takeBack_1 rfl ?_
  refine gf_X0_21 hC dX0_takeBack_2 ?_
  refine v_bipush hC (nI 24) dX0_takeBack_5 rfl ?_
  refine v_iadd hC dX0_takeBack_7 ?_
  refine v_iconst hC (nI 1) dX0_takeBack_8 rfl ?_
  refine v_isub hC dX0_takeBack_9 ?_
  refine v_bipush hC (nI 24) dX0_takeBack_10 rfl ?_
  refine v_irem hC dX0_takeBack_12 (by decide) ?_
  refine pf_X0_21 hC dX0_takeBack_13 (fun σ1 e1 => ?_)
  replace h := h σ1 e1
  refine v_aload_n hC 0 dX0_takeBack_16 rfl ?_
  refine v_dup hC dX0_takeBack_17 rfl ?_
  refine gf_X0_25 hC dX0_takeBack_18 ?_
  refine v_iconst hC (nI 1) dX0_takeBack_21 rfl ?_
  refine v_isub hC dX0_takeBack_22 ?_
  refine pf_X0_25 hC dX0_takeBack_23 (fun σ2 e2 => ?_)
  replace h := h σ2 e2
  refine v_aload_n hC 0 dX0_takeBack_26 rfl ?_
  refine gf_X0_21 hC dX0_takeBack_27 ?_
  exact v_iret hC hR h dX0_takeBack_30
theorem cmA_takeBack : CM yX0_takeBack cX0_takeBack 1 (some .int) rmA_takeBack 0 := ⟨kw78, kw664, rfl, rfl, by decide, by decide, by decide +kernel⟩
