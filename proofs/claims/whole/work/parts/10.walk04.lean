def rmK_unsell : Room := { frames := 3, cells := 0, slots := 0, locals := 86 }
def wK42_unsell (x1 : Int32) (x2 : Int32) (σ : gM) (Q : gM → Prop) : Prop :=
    vp_in x1 16 ∧ (∀ x3_2 : Int32, x3_2 = (σ 50 x1.toNatClampNeg) → (vp_in x3_2 4 ∧ (wK42_valueIn x1 (nI 0) σ (fun (r5 : Int32) (σ5 : gM) => vp_in x3_2 4 ∧ (∀ σ6 : gM, σ6 = gU σ5 44 x3_2.toNatClampNeg ((σ 44 x3_2.toNatClampNeg) + r5) → (vp_in x3_2 4 ∧ (wK42_valueTo x3_2 x1 (nI 0) σ6 (fun (r9 : Int32) (σ9 : gM) => vp_in x3_2 4 ∧ (∀ σ10 : gM, σ10 = gU σ9 45 x3_2.toNatClampNeg ((σ6 45 x3_2.toNatClampNeg) - r9) → (vp_in x3_2 4 ∧ (vp_in x3_2 4 ∧ (∀ σ12 : gM, σ12 = gU σ10 46 x3_2.toNatClampNeg ((σ10 46 x3_2.toNatClampNeg) - (nI 1)) → (vp_in x1 16 ∧ (∀ σ13 : gM, σ13 = gU σ12 50 x1.toNatClampNeg (-1000000 : Int32) → (wK42_putAt x2 x1 σ13 (fun (σ15 : gM) => Q σ15))))))))))))))))
set_option maxHeartbeats 4000000 in
set_option maxRecDepth 100000 in
theorem kK42_unsell (x1 : Int32) (x2 : Int32) (σ : gM) (Q : gM → Prop) (h : wK42_unsell x1 x2 σ Q) : CT yX2_unsell cX2_unsell 4 none rmK_unsell (fun G => [.ref (gad G 42), .int x1, .int x2]) σ (gPv Q) := by
  refine c_enter (by decide) (fun _ => Nat.le_of_ble_eq_true rfl) (fun X hC hR => ?_)
  show V X 4 0 [(0, .ref (xad X 42)), (1, .int x1), (2, .int x2)] [] σ
  replace h : vp_in x1 16 ∧ (∀ x3_2 : Int32, x3_2 = (σ 50 x1.toNatClampNeg) → (vp_in x3_2 4 ∧ (wK42_valueIn x1 (nI 0) σ (fun (r5 : Int32) (σ5 : gM) => vp_in x3_2 4 ∧ (∀ σ6 : gM, σ6 = gU σ5 44 x3_2.toNatClampNeg ((σ 44 x3_2.toNatClampNeg) + r5) → (vp_in x3_2 4 ∧ (wK42_valueTo x3_2 x1 (nI 0) σ6 (fun (r9 : Int32) (σ9 : gM) => vp_in x3_2 4 ∧ (∀ σ10 : gM, σ10 = gU σ9 45 x3_2.toNatClampNeg ((σ6 45 x3_2.toNatClampNeg) - r9) → (vp_in x3_2 4 ∧ (vp_in x3_2 4 ∧ (∀ σ12 : gM, σ12 = gU σ10 46 x3_2.toNatClampNeg ((σ10 46 x3_2.toNatClampNeg) - (nI 1)) → (vp_in x1 16 ∧ (∀ σ13 : gM, σ13 = gU σ12 50 x1.toNatClampNeg (-1000000 : Int32) → (wK42_putAt x2 x1 σ13 (fun (σ15 : gM) => Q σ15)))))))))))))))) := h
  refine v_aload_n hC 0 dX2_unsell_0 rfl ?_
  refine gf_X2_33_42 hC dX2_unsell_1 ?_
  refine v_iload_n hC 1 dX2_unsell_4 rfl ?_
  obtain ⟨hi1, h⟩ := h
  refine v_iald hC (Nat.le_of_ble_eq_true rfl) rfl rfl hi1 dX2_unsell_5 ?_
  refine v_istore_nN hC dX2_unsell_6 (by decide) (lo2 := fun x3_2 => [(3, .int x3_2), (0, .ref (xad X 42)), (1, .int x1), (2, .int x2)]) (fun _ => rfl) (fun x3_2 e2 => ?_)
  replace h := h x3_2 e2
  refine v_aload_n hC 1 dX2_unsell_7 rfl ?_
  refine gf_X2_15_42 hC dX2_unsell_8 ?_
  refine v_iload_n hC 0 dX2_unsell_11 rfl ?_
  refine v_dup2 hC dX2_unsell_12 rfl rfl ?_
  obtain ⟨hi3, h⟩ := h
  refine v_iald hC (Nat.le_of_ble_eq_true rfl) rfl rfl hi3 dX2_unsell_13 ?_
  refine v_aload_n hC 1 dX2_unsell_14 rfl ?_
  refine v_iload_n hC 2 dX2_unsell_15 rfl ?_
  refine v_iconst hC (nI 0) dX2_unsell_16 rfl ?_
  refine v_callV hC (kK42_valueIn _ _ _ _ h) cmK_valueIn ⟨kw604, kw605⟩ kw629 ⟨Nat.le_of_ble_eq_true rfl, Nat.le_of_ble_eq_true rfl⟩ (Nat.le_of_ble_eq_true rfl) rfl (ci := 2) (T := TX2) (N := 15) rfl (As := fun G => [.int x1, .int (nI 0)]) (fun _ => rfl) (fun _ => rfl) (st := [.int (σ 44 x3_2.toNatClampNeg), .int x3_2, .ref (xad X 44)]) (Nat.le_of_ble_eq_true rfl) rfl dX2_unsell_17 (kk_i (fun r5 σ5 h => ?_))
  refine v_iadd hC dX2_unsell_20 ?_
  obtain ⟨hi6, h⟩ := h
  refine v_iast hC (Nat.le_of_ble_eq_true rfl) rfl rfl hi6 dX2_unsell_21 (fun σ6 e6 => ?_)
  replace h := h σ6 e6
  refine v_aload_n hC 1 dX2_unsell_22 rfl ?_
  refine gf_X2_18_42 hC dX2_unsell_23 ?_
  refine v_iload_n hC 0 dX2_unsell_26 rfl ?_
  refine v_dup2 hC dX2_unsell_27 rfl rfl ?_
  obtain ⟨hi7, h⟩ := h
  refine v_iald hC (Nat.le_of_ble_eq_true rfl) rfl rfl hi7 dX2_unsell_28 ?_
  refine v_aload_n hC 1 dX2_unsell_29 rfl ?_
  refine v_iload_n hC 0 dX2_unsell_30 rfl ?_
  refine v_iload_n hC 2 dX2_unsell_31 rfl ?_
  refine v_iconst hC (nI 0) dX2_unsell_32 rfl ?_
  refine v_callV hC (kK42_valueTo _ _ _ _ _ h) cmK_valueTo ⟨kw626, kw627⟩ kw625 ⟨Nat.le_of_ble_eq_true rfl, Nat.le_of_ble_eq_true rfl⟩ (Nat.le_of_ble_eq_true rfl) rfl (ci := 2) (T := TX2) (N := 15) rfl (As := fun G => [.int x3_2, .int x1, .int (nI 0)]) (fun _ => rfl) (fun _ => rfl) (st := [.int (σ6 45 x3_2.toNatClampNeg), .int x3_2, .ref (xad X 45)]) (Nat.le_of_ble_eq_true rfl) rfl dX2_unsell_33 (kk_i (fun r9 σ9 h => ?_))
  refine v_isub hC dX2_unsell_36 ?_
  obtain ⟨hi10, h⟩ := h
  refine v_iast hC (Nat.le_of_ble_eq_true rfl) rfl rfl hi10 dX2_unsell_37 (fun σ10 e10 => ?_)
  replace h := h σ10 e10
  refine v_aload_n hC 1 dX2_unsell_38 rfl ?_
  refine gf_X2_21_42 hC dX2_unsell_39 ?_
  refine v_iload_n hC 0 dX2_unsell_42 rfl ?_
  refine v_dup2 hC dX2_unsell_43 rfl rfl ?_
  obtain ⟨hi11, h⟩ := h
  refine v_iald hC (Nat.le_of_ble_eq_true rfl) rfl rfl hi11 dX2_unsell_44 ?_
  refine v_iconst hC (nI 1) dX2_unsell_45 rfl ?_
  refine v_isub hC dX2_unsell_46 ?_
  obtain ⟨hi12, h⟩ := h
  refine v_iast hC (Nat.le_of_ble_eq_true rfl) rfl rfl hi12 dX2_unsell_47 (fun σ12 e12 => ?_)
  replace h := h σ12 e12
  refine v_aload_n hC 1 dX2_unsell_48 rfl ?_
  refine gf_X2_33_42 hC dX2_unsell_49 ?_
  refine v_iload_n hC 2 dX2_unsell_52 rfl ?_
  refine v_ldc hC kw566 dX2_unsell_53 ?_
  obtain ⟨hi13, h⟩ := h
  refine v_iast hC (Nat.le_of_ble_eq_true rfl) rfl rfl hi13 dX2_unsell_55 (fun σ13 e13 => ?_)
  replace h := h σ13 e13
  refine v_aload_n hC 1 dX2_unsell_56 rfl ?_
  refine v_iload_n hC 3 dX2_unsell_57 rfl ?_
  refine v_iload_n hC 2 dX2_unsell_58 rfl ?_
  refine v_callV hC (kK42_putAt _ _ _ _ h) cmK_putAt ⟨kw569, kw16⟩ kw567 ⟨Nat.le_of_ble_eq_true rfl, Nat.le_of_ble_eq_true rfl⟩ (Nat.le_of_ble_eq_true rfl) rfl (ci := 2) (T := TX2) (N := 15) rfl (As := fun G => [.int x2, .int x1]) (fun _ => rfl) (fun _ => rfl) (st := []) (Nat.le_of_ble_eq_true rfl) rfl dX2_unsell_59 (kk_v (fun σ15 h => ?_))
  exact v_vret hC hR h dX2_unsell_62
theorem cmK_unsell : CM yX2_unsell cX2_unsell 4 none rmK_unsell 2 := ⟨kw77, kw668, rfl, rfl, by decide, by decide, by decide +kernel⟩
def rmK_removeNewest : Room := { frames := 2, cells := 0, slots := 0, locals := 81 }
def wK42_removeNewest (x1 : Int32) (σ : gM) (Q : gM → Prop) : Prop :=
    wK42_removeAt x1 σ (fun (σ2 : gM) => ∀ σ3 : gM, σ3 = gU σ2 42 4 ((σ2 42 4) - (nI 1)) → (Q σ3))
set_option maxHeartbeats 4000000 in
set_option maxRecDepth 100000 in
theorem kK42_removeNewest (x1 : Int32) (σ : gM) (Q : gM → Prop) (h : wK42_removeNewest x1 σ Q) : CT yX2_removeNewest cX2_removeNewest 2 none rmK_removeNewest (fun G => [.ref (gad G 42), .int x1]) σ (gPv Q) := by
  refine c_enter (by decide) (fun _ => Nat.le_of_ble_eq_true rfl) (fun X hC hR => ?_)
  show V X 2 0 [(0, .ref (xad X 42)), (1, .int x1)] [] σ
  replace h : wK42_removeAt x1 σ (fun (σ2 : gM) => ∀ σ3 : gM, σ3 = gU σ2 42 4 ((σ2 42 4) - (nI 1)) → (Q σ3)) := h
  refine v_aload_n hC 0 dX2_removeNewest_0 rfl ?_
  refine v_iload_n hC 1 dX2_removeNewest_1 rfl ?_
  refine v_callV hC (kK42_removeAt _ _ _ h) cmK_removeAt ⟨kw637, kw19⟩ kw635 ⟨Nat.le_of_ble_eq_true rfl, Nat.le_of_ble_eq_true rfl⟩ (Nat.le_of_ble_eq_true rfl) rfl (ci := 2) (T := TX2) (N := 15) rfl (As := fun G => [.int x1]) (fun _ => rfl) (fun _ => rfl) (st := []) (Nat.le_of_ble_eq_true rfl) rfl dX2_removeNewest_2 (kk_v (fun σ2 h => ?_))
  refine v_aload_n hC 0 dX2_removeNewest_5 rfl ?_
  refine v_dup hC dX2_removeNewest_6 rfl ?_
  refine gf_X2_53_42 hC dX2_removeNewest_7 ?_
  refine v_iconst hC (nI 1) dX2_removeNewest_10 rfl ?_
  refine v_isub hC dX2_removeNewest_11 ?_
  refine pf_X2_53_42 hC dX2_removeNewest_12 (fun σ3 e3 => ?_)
  replace h := h σ3 e3
  exact v_vret hC hR h dX2_removeNewest_15
theorem cmK_removeNewest : CM yX2_removeNewest cX2_removeNewest 2 none rmK_removeNewest 1 := ⟨kw77, kw672, rfl, rfl, by decide, by decide, by decide +kernel⟩
def rmH_undo : Room := { frames := 4, cells := 0, slots := 0, locals := 109 }
def wH_undo  (σ : gM) (Q : Int32 → gM → Prop) : Prop :=
    ((σ 20 3) = nI 0 → (Q (-1000002 : Int32) σ)) ∧ (¬ ((σ 20 3) = nI 0) → (wA_takeBack  σ (fun (r3 : Int32) (σ3 : gM) => vp_in r3 24 ∧ (((σ3 21 r3.toNatClampNeg) = (nI 0) → (vp_in r3 24 ∧ (vp_in r3 24 ∧ (wK42_unsell (σ3 23 r3.toNatClampNeg) (σ3 22 r3.toNatClampNeg) σ3 (fun (σ9 : gM) => Q (σ9 20 3) σ9))))) ∧ ((σ3 21 r3.toNatClampNeg) = (nI 1) → (vp_in r3 24 ∧ (wK42_removeNewest (σ3 22 r3.toNatClampNeg) σ3 (fun (σ12 : gM) => Q (σ12 20 3) σ12)))) ∧ ((¬ (σ3 21 r3.toNatClampNeg) = (nI 0) ∧ ¬ (σ3 21 r3.toNatClampNeg) = (nI 1)) → (wK42_passDays (-1 : Int32) σ3 (fun (σ14 : gM) => Q (σ14 20 3) σ14)))))))
set_option maxHeartbeats 4000000 in
set_option maxRecDepth 100000 in
theorem kH_undo  (σ : gM) (Q : Int32 → gM → Prop) (h : wH_undo  σ Q) : CT yX6_undo cX6_undo 2 (some .int) rmH_undo (fun G => [.ref (gad G 0)]) σ (gPi Q) := by
  refine c_enter (by decide) (fun _ => Nat.le_of_ble_eq_true rfl) (fun X hC hR => ?_)
  show V X 2 0 [(0, .ref (xad X 0))] [] σ
  replace h : ((σ 20 3) = nI 0 → (Q (-1000002 : Int32) σ)) ∧ (¬ ((σ 20 3) = nI 0) → (wA_takeBack  σ (fun (r3 : Int32) (σ3 : gM) => vp_in r3 24 ∧ (((σ3 21 r3.toNatClampNeg) = (nI 0) → (vp_in r3 24 ∧ (vp_in r3 24 ∧ (wK42_unsell (σ3 23 r3.toNatClampNeg) (σ3 22 r3.toNatClampNeg) σ3 (fun (σ9 : gM) => Q (σ9 20 3) σ9))))) ∧ ((σ3 21 r3.toNatClampNeg) = (nI 1) → (vp_in r3 24 ∧ (wK42_removeNewest (σ3 22 r3.toNatClampNeg) σ3 (fun (σ12 : gM) => Q (σ12 20 3) σ12)))) ∧ ((¬ (σ3 21 r3.toNatClampNeg) = (nI 0) ∧ ¬ (σ3 21 r3.toNatClampNeg) = (nI 1)) → (wK42_passDays (-1 : Int32) σ3 (fun (σ14 : gM) => Q (σ14 20 3) σ14))))))) := h
  refine v_aload_n hC 0 dX6_undo_0 rfl ?_
  refine gf_X6_39 hC dX6_undo_1 ?_
  refine gf_X6_185 hC dX6_undo_4 ?_
  refine v_if_ne hC 13 dX6_undo_7 (by decide) (fun c1 => ?_) (fun c1 => ?_)
  · replace h := h.2 c1
    refine v_aload_n hC 0 dX6_undo_13 rfl ?_
    refine gf_X6_39 hC dX6_undo_14 ?_
    refine v_callV hC (kA_takeBack  _ _ h) cmA_takeBack ⟨kw662, kw663⟩ kw661 ⟨Nat.le_of_ble_eq_true rfl, Nat.le_of_ble_eq_true rfl⟩ (Nat.le_of_ble_eq_true rfl) rfl (ci := 0) (T := TX0) (N := 5) rfl (As := fun G => []) (fun _ => rfl) (fun _ => rfl) (st := []) (Nat.le_of_ble_eq_true rfl) rfl dX6_undo_17 (kk_i (fun r3 σ3 h => ?_))
    refine v_istore_n hC dX6_undo_20 (by decide) rfl ?_
    refine v_aload_n hC 1 dX6_undo_21 rfl ?_
    refine gf_X6_39 hC dX6_undo_22 ?_
    refine gf_X6_192 hC dX6_undo_25 ?_
    refine v_iload_n hC 0 dX6_undo_28 rfl ?_
    obtain ⟨hi4, h⟩ := h
    refine v_iald hC (Nat.le_of_ble_eq_true rfl) rfl rfl hi4 dX6_undo_29 ?_
    by_cases q5_0 : (σ3 21 r3.toNatClampNeg) = (nI 0)
    · replace h := h.1 q5_0
      refine v_lookup hC 56 dX6_undo_30 (by decide) (by rw [q5_0]; try decide) (by decide) ?_
      refine v_aload_n hC 1 dX6_undo_56 rfl ?_
      refine gf_X6_25 hC dX6_undo_57 ?_
      refine v_aload_n hC 1 dX6_undo_60 rfl ?_
      refine gf_X6_39 hC dX6_undo_61 ?_
      refine gf_X6_195 hC dX6_undo_64 ?_
      refine v_iload_n hC 0 dX6_undo_67 rfl ?_
      obtain ⟨hi6, h⟩ := h
      refine v_iald hC (Nat.le_of_ble_eq_true rfl) rfl rfl hi6 dX6_undo_68 ?_
      refine v_aload_n hC 1 dX6_undo_69 rfl ?_
      refine gf_X6_39 hC dX6_undo_70 ?_
      refine gf_X6_197 hC dX6_undo_73 ?_
      refine v_iload_n hC 0 dX6_undo_76 rfl ?_
      obtain ⟨hi7, h⟩ := h
      refine v_iald hC (Nat.le_of_ble_eq_true rfl) rfl rfl hi7 dX6_undo_77 ?_
      refine v_callV hC (kK42_unsell _ _ _ _ h) cmK_unsell ⟨kw666, kw667⟩ kw665 ⟨Nat.le_of_ble_eq_true rfl, Nat.le_of_ble_eq_true rfl⟩ (Nat.le_of_ble_eq_true rfl) rfl (ci := 2) (T := TX2) (N := 15) rfl (As := fun G => [.int (σ3 23 r3.toNatClampNeg), .int (σ3 22 r3.toNatClampNeg)]) (fun _ => rfl) (fun _ => rfl) (st := []) (Nat.le_of_ble_eq_true rfl) rfl dX6_undo_78 (kk_v (fun σ9 h => ?_))
      refine v_goto hC 111 dX6_undo_81 (by decide) ?_
      refine v_aload_n hC 1 dX6_undo_111 rfl ?_
      refine gf_X6_39 hC dX6_undo_112 ?_
      refine gf_X6_185 hC dX6_undo_115 ?_
      exact v_iret hC hR h dX6_undo_118
    · by_cases q5_1 : (σ3 21 r3.toNatClampNeg) = (nI 1)
      · replace h := h.2.1 q5_1
        refine v_lookup hC 84 dX6_undo_30 (by decide) (by rw [q5_1]; try decide) (by decide) ?_
        refine v_aload_n hC 1 dX6_undo_84 rfl ?_
        refine gf_X6_25 hC dX6_undo_85 ?_
        refine v_aload_n hC 1 dX6_undo_88 rfl ?_
        refine gf_X6_39 hC dX6_undo_89 ?_
        refine gf_X6_197 hC dX6_undo_92 ?_
        refine v_iload_n hC 0 dX6_undo_95 rfl ?_
        obtain ⟨hi10, h⟩ := h
        refine v_iald hC (Nat.le_of_ble_eq_true rfl) rfl rfl hi10 dX6_undo_96 ?_
        refine v_callV hC (kK42_removeNewest _ _ _ h) cmK_removeNewest ⟨kw670, kw671⟩ kw669 ⟨Nat.le_of_ble_eq_true rfl, Nat.le_of_ble_eq_true rfl⟩ (Nat.le_of_ble_eq_true rfl) rfl (ci := 2) (T := TX2) (N := 15) rfl (As := fun G => [.int (σ3 22 r3.toNatClampNeg)]) (fun _ => rfl) (fun _ => rfl) (st := []) (Nat.le_of_ble_eq_true rfl) rfl dX6_undo_97 (kk_v (fun σ12 h => ?_))
        refine v_goto hC 111 dX6_undo_100 (by decide) ?_
        refine v_aload_n hC 1 dX6_undo_111 rfl ?_
        refine gf_X6_39 hC dX6_undo_112 ?_
        refine gf_X6_185 hC dX6_undo_115 ?_
        exact v_iret hC hR h dX6_undo_118
      · replace h := h.2.2 ⟨q5_0, q5_1⟩
        refine v_lookup hC 103 dX6_undo_30 (by decide) (lk_out2 q5_0 q5_1) (by decide) ?_
        refine v_aload_n hC 1 dX6_undo_103 rfl ?_
        refine gf_X6_25 hC dX6_undo_104 ?_
        refine v_iconst hC (-1 : Int32) dX6_undo_107 rfl ?_
        refine v_callV hC (kK42_passDays _ _ _ h) cmK_passDays ⟨kw654, kw655⟩ kw653 ⟨Nat.le_of_ble_eq_true rfl, Nat.le_of_ble_eq_true rfl⟩ (Nat.le_of_ble_eq_true rfl) rfl (ci := 2) (T := TX2) (N := 15) rfl (As := fun G => [.int (-1 : Int32)]) (fun _ => rfl) (fun _ => rfl) (st := []) (Nat.le_of_ble_eq_true rfl) rfl dX6_undo_108 (kk_v (fun σ14 h => ?_))
        refine v_aload_n hC 1 dX6_undo_111 rfl ?_
        refine gf_X6_39 hC dX6_undo_112 ?_
        refine gf_X6_185 hC dX6_undo_115 ?_
        exact v_iret hC hR h dX6_undo_118
  · replace h := h.1 c1
    refine v_ldc hC kw598 dX6_undo_10 ?_
    exact v_iret hC hR h dX6_undo_12
theorem cmH_undo : CM yX6_undo cX6_undo 2 (some .int) rmH_undo 0 := ⟨kw75, kw660, rfl, rfl, by decide, by decide, by decide +kernel⟩
def rmH_isNoWare : Room := { frames := 0, cells := 0, slots := 0, locals := 0 }
def wH_isNoWare (x1 : Int32) (σ : gM) (Q : Int32 → gM → Prop) : Prop :=
    ∀ v2 : Int32, v2 = (if x1 < nI 0 then (nI 1) else (if x1 < (σ 42 4) then (nI 0) else (nI 1))) → ((v2 = nI 0 ∨ v2 = nI 1) ∧ Q v2 σ)
set_option maxHeartbeats 4000000 in
set_option maxRecDepth 100000 in
theorem kH_isNoWare (x1 : Int32) (σ : gM) (Q : Int32 → gM → Prop) (h : wH_isNoWare x1 σ Q) : CT yX6_isNoWare cX6_isNoWare 2 (some .boolean) rmH_isNoWare (fun G => [.ref (gad G 0), .int x1]) σ (gPi Q) := by
  refine c_enter (by decide) (fun _ => Nat.le_of_ble_eq_true rfl) (fun X hC hR => ?_)
  show V X 2 0 [(0, .ref (xad X 0)), (1, .int x1)] [] σ
  replace h : ∀ v2 : Int32, v2 = (if x1 < nI 0 then (nI 1) else (if x1 < (σ 42 4) then (nI 0) else (nI 1))) → ((v2 = nI 0 ∨ v2 = nI 1) ∧ Q v2 σ) := h
  refine v_iload_n hC 1 dX6_isNoWare_0 rfl ?_
  have J1 : ∀ (v2 : Int32) (ev2 : v2 = (if x1 < nI 0 then (nI 1) else (if x1 < (σ 42 4) then (nI 0) else (nI 1)))), V X 2 20 [] [.int v2] σ := by
    intro v2 ev2
    replace h := h v2 ev2
    obtain ⟨hb, h⟩ := h
    exact v_zret hC hR (nar_bool hb) h dX6_isNoWare_20
  refine v_if_lt hC 15 dX6_isNoWare_1 (by decide) (fun c1 => ?_) (fun c1 => ?_)
  · refine v_iconst hC (nI 1) dX6_isNoWare_15 rfl ?_
    refine v_goto hC 20 dX6_isNoWare_16 (by decide) ?_
    exact V.sub [] rfl (J1 _ (by rw [if_pos c1]))
  · refine v_iload_n hC 1 dX6_isNoWare_4 rfl ?_
    refine v_aload_n hC 0 dX6_isNoWare_5 rfl ?_
    refine gf_X6_25 hC dX6_isNoWare_6 ?_
    refine gf_X6_139_42 hC dX6_isNoWare_9 ?_
    have J3 : V X 2 20 [] [.int (if x1 < (σ 42 4) then (nI 0) else (nI 1))] σ := by
      exact V.sub [] rfl (J1 _ (by rw [if_neg c1]))
    refine v_icmp_lt hC 19 dX6_isNoWare_12 (by decide) (fun c3 => ?_) (fun c3 => ?_)
    · refine v_iconst hC (nI 0) dX6_isNoWare_19 rfl ?_
      rw [if_pos c3] at J3
      exact V.sub [] rfl J3
    · refine v_iconst hC (nI 1) dX6_isNoWare_15 rfl ?_
      refine v_goto hC 20 dX6_isNoWare_16 (by decide) ?_
      rw [if_neg c3] at J3
      exact V.sub [] rfl J3
theorem cmH_isNoWare : CM yX6_isNoWare cX6_isNoWare 2 (some .boolean) rmH_isNoWare 1 := ⟨kw75, kw680, rfl, rfl, by decide, by decide, by decide +kernel⟩
def rmK_placeOf : Room := { frames := 0, cells := 0, slots := 0, locals := 0 }
def wK42_placeOf_l2 (Q : Int32 → gM → Prop)  : Nat → Int32 → Int32 → gM → Prop
  | 0, _, _, _ => False
  | n + 1, x1, x2, σ =>
    ((σ 42 5) ≤ x2 → (Q (-1000000 : Int32) σ)) ∧ (¬ ((σ 42 5) ≤ x2) → (vp_in x2 16 ∧ (((σ 51 x2.toNatClampNeg) = x1 → (Q x2 σ)) ∧ (¬ ((σ 51 x2.toNatClampNeg) = x1) → (∀ x2_4 : Int32, x2_4 = x2 + (nI 1) → (wK42_placeOf_l2 Q n x1 x2_4 σ))))))
def wK42_placeOf (x1 : Int32) (σ : gM) (Q : Int32 → gM → Prop) : Prop :=
    ∃ n5 : Nat, wK42_placeOf_l2 Q n5 x1 (nI 0) σ
set_option maxHeartbeats 4000000 in
set_option maxRecDepth 100000 in
theorem tK42_placeOf_l2 {X : gX} {Q : Int32 → gM → Prop} (hC : VC X cX2_placeOf RX2 3 rmK_placeOf) (hR : VR X (some .int) (gPi Q))  : ∀ (n : Nat) (x1 : Int32) (x2 : Int32) (σ : gM), wK42_placeOf_l2 Q  n x1 x2 σ → V X 3 2 [(0, .ref (xad X 42)), (1, .int x1), (2, .int x2)] [] σ := by
  intro n
  induction n with
  | zero => intro x1 x2 σ h; exact h.elim
  | succ n ih =>
    intro x1 x2 σ h
    replace h : ((σ 42 5) ≤ x2 → (Q (-1000000 : Int32) σ)) ∧ (¬ ((σ 42 5) ≤ x2) → (vp_in x2 16 ∧ (((σ 51 x2.toNatClampNeg) = x1 → (Q x2 σ)) ∧ (¬ ((σ 51 x2.toNatClampNeg) = x1) → (∀ x2_4 : Int32, x2_4 = x2 + (nI 1) → (wK42_placeOf_l2 Q n x1 x2_4 σ)))))) := h
    refine v_iload_n hC 2 dX2_placeOf_2 rfl ?_
    refine v_aload_n hC 0 dX2_placeOf_3 rfl ?_
    refine gf_X2_56_42 hC dX2_placeOf_4 ?_
    refine v_icmp_ge hC 28 dX2_placeOf_7 (by decide) (fun c1 => ?_) (fun c1 => ?_)
    · replace h := h.1 c1
      refine v_ldc hC kw566 dX2_placeOf_28 ?_
      exact v_iret hC hR h dX2_placeOf_30
    · replace h := h.2 c1
      refine v_aload_n hC 0 dX2_placeOf_10 rfl ?_
      refine gf_X2_36_42 hC dX2_placeOf_11 ?_
      refine v_iload_n hC 2 dX2_placeOf_14 rfl ?_
      obtain ⟨hi2, h⟩ := h
      refine v_iald hC (Nat.le_of_ble_eq_true rfl) rfl rfl hi2 dX2_placeOf_15 ?_
      refine v_iload_n hC 1 dX2_placeOf_16 rfl ?_
      refine v_icmp_ne hC 22 dX2_placeOf_17 (by decide) (fun c3 => ?_) (fun c3 => ?_)
      · replace h := h.2 c3
        refine v_iincN hC (nI 1) 2 dX2_placeOf_22 rfl rfl (by decide) (lo2 := fun x2_4 => [(2, .int x2_4), (0, .ref (xad X 42)), (1, .int x1)]) (fun _ => rfl) (fun x2_4 e4 => ?_)
        replace h := h x2_4 e4
        refine v_goto hC 2 dX2_placeOf_25 (by decide) ?_
        exact V.sub [1, 2, 0] rfl (ih _ _ _ h)
      · replace h := h.1 c3
        refine v_iload_n hC 2 dX2_placeOf_20 rfl ?_
        exact v_iret hC hR h dX2_placeOf_21
set_option maxHeartbeats 4000000 in
set_option maxRecDepth 100000 in
theorem kK42_placeOf (x1 : Int32) (σ : gM) (Q : Int32 → gM → Prop) (h : wK42_placeOf x1 σ Q) : CT yX2_placeOf cX2_placeOf 3 (some .int) rmK_placeOf (fun G => [.ref (gad G 42), .int x1]) σ (gPi Q) := by
  refine c_enter (by decide) (fun _ => Nat.le_of_ble_eq_true rfl) (fun X hC hR => ?_)
  show V X 3 0 [(0, .ref (xad X 42)), (1, .int x1)] [] σ
  replace h : ∃ n5 : Nat, wK42_placeOf_l2 Q n5 x1 (nI 0) σ := h
  refine v_iconst hC (nI 0) dX2_placeOf_0 rfl ?_
  refine v_istore_n hC dX2_placeOf_1 (by decide) rfl ?_
  obtain ⟨n5, h⟩ := h
  exact V.sub [1, 2, 0] rfl (tK42_placeOf_l2 hC hR  n5 _ _ _ h)
theorem cmK_placeOf : CM yX2_placeOf cX2_placeOf 3 (some .int) rmK_placeOf 1 := ⟨kw77, kw684, rfl, rfl, by decide, by decide, by decide +kernel⟩
def rmH_ware : Room := { frames := 2, cells := 0, slots := 0, locals := 62 }
def wH_ware (x1 : Int32) (x2 : Int32) (σ : gM) (Q : Int32 → gM → Prop) : Prop :=
    wH_isNoWare x1 σ (fun (r2 : Int32) (σ2 : gM) => (r2 = nI 0 → ((x2 = (nI 0) → (vp_in x1 16 ∧ (Q (σ2 48 x1.toNatClampNeg) σ2))) ∧ (x2 = (nI 1) → (vp_in x1 16 ∧ (Q (σ2 49 x1.toNatClampNeg) σ2))) ∧ (x2 = (nI 2) → (wK42_valueIn x1 (nI 0) σ2 (fun (r8 : Int32) (σ8 : gM) => Q r8 σ8))) ∧ (x2 = (nI 3) → (wK42_placeOf x1 σ2 (fun (r10 : Int32) (σ10 : gM) => Q r10 σ10))) ∧ (x2 = (nI 4) → (vp_in x1 16 ∧ (Q (σ2 50 x1.toNatClampNeg) σ2))) ∧ (x2 = (nI 5) → (wK42_valueIn x1 (nI 0) σ2 (fun (r13 : Int32) (σ13 : gM) => ∀ v15 : Int32, v15 = (if r13 = nI 0 then (nI 1) else (nI 0)) → (Q v15 σ13)))) ∧ ((¬ x2 = (nI 0) ∧ ¬ x2 = (nI 1) ∧ ¬ x2 = (nI 2) ∧ ¬ x2 = (nI 3) ∧ ¬ x2 = (nI 4) ∧ ¬ x2 = (nI 5)) → (Q (-1000001 : Int32) σ2)))) ∧ (¬ (r2 = nI 0) → (Q (-1000001 : Int32) σ2)))
set_option maxHeartbeats 4000000 in
set_option maxRecDepth 100000 in
theorem kH_ware (x1 : Int32) (x2 : Int32) (σ : gM) (Q : Int32 → gM → Prop) (h : wH_ware x1 x2 σ Q) : CT yX6_ware cX6_ware 3 (some .int) rmH_ware (fun G => [.ref (gad G 0), .int x1, .int x2]) σ (gPi Q) := by
  refine c_enter (by decide) (fun _ => Nat.le_of_ble_eq_true rfl) (fun X hC hR => ?_)
  show V X 3 0 [(0, .ref (xad X 0)), (1, .int x1), (2, .int x2)] [] σ
  replace h : wH_isNoWare x1 σ (fun (r2 : Int32) (σ2 : gM) => (r2 = nI 0 → ((x2 = (nI 0) → (vp_in x1 16 ∧ (Q (σ2 48 x1.toNatClampNeg) σ2))) ∧ (x2 = (nI 1) → (vp_in x1 16 ∧ (Q (σ2 49 x1.toNatClampNeg) σ2))) ∧ (x2 = (nI 2) → (wK42_valueIn x1 (nI 0) σ2 (fun (r8 : Int32) (σ8 : gM) => Q r8 σ8))) ∧ (x2 = (nI 3) → (wK42_placeOf x1 σ2 (fun (r10 : Int32) (σ10 : gM) => Q r10 σ10))) ∧ (x2 = (nI 4) → (vp_in x1 16 ∧ (Q (σ2 50 x1.toNatClampNeg) σ2))) ∧ (x2 = (nI 5) → (wK42_valueIn x1 (nI 0) σ2 (fun (r13 : Int32) (σ13 : gM) => ∀ v15 : Int32, v15 = (if r13 = nI 0 then (nI 1) else (nI 0)) → (Q v15 σ13)))) ∧ ((¬ x2 = (nI 0) ∧ ¬ x2 = (nI 1) ∧ ¬ x2 = (nI 2) ∧ ¬ x2 = (nI 3) ∧ ¬ x2 = (nI 4) ∧ ¬ x2 = (nI 5)) → (Q (-1000001 : Int32) σ2)))) ∧ (¬ (r2 = nI 0) → (Q (-1000001 : Int32) σ2))) := h
  refine v_aload_n hC 0 dX6_ware_0 rfl ?_
  refine v_iload_n hC 1 dX6_ware_1 rfl ?_
  refine v_callV hC (kH_isNoWare _ _ _ h) cmH_isNoWare ⟨kw679, kw20⟩ kw677 ⟨Nat.le_of_ble_eq_true rfl, Nat.le_of_ble_eq_true rfl⟩ (Nat.le_of_ble_eq_true rfl) rfl (ci := 6) (T := TX6) (N := 12) rfl (As := fun G => [.int x1]) (fun _ => rfl) (fun _ => rfl) (st := []) (Nat.le_of_ble_eq_true rfl) rfl dX6_ware_2 (kk_i (fun r2 σ2 h => ?_))
  refine v_if_eq hC 11 dX6_ware_5 (by decide) (fun c3 => ?_) (fun c3 => ?_)
  · replace h := h.1 c3
    refine v_iload_n hC 2 dX6_ware_11 rfl ?_
    by_cases q4_0 : x2 = (nI 0)
    · replace h := h.1 q4_0
      refine v_tableIn hC (nI 0) 52 dX6_ware_12 q4_0 (by decide) (by decide) rfl (by decide) ?_
      refine v_aload_n hC 0 dX6_ware_52 rfl ?_
      refine gf_X6_25 hC dX6_ware_53 ?_
      refine gf_X6_209_42 hC dX6_ware_56 ?_
      refine v_iload_n hC 1 dX6_ware_59 rfl ?_
      obtain ⟨hi5, h⟩ := h
      refine v_iald hC (Nat.le_of_ble_eq_true rfl) rfl rfl hi5 dX6_ware_60 ?_
      exact v_iret hC hR h dX6_ware_61
    · by_cases q4_1 : x2 = (nI 1)
      · replace h := h.2.1 q4_1
        refine v_tableIn hC (nI 1) 62 dX6_ware_12 q4_1 (by decide) (by decide) rfl (by decide) ?_
        refine v_aload_n hC 0 dX6_ware_62 rfl ?_
        refine gf_X6_25 hC dX6_ware_63 ?_
        refine gf_X6_212_42 hC dX6_ware_66 ?_
        refine v_iload_n hC 1 dX6_ware_69 rfl ?_
        obtain ⟨hi6, h⟩ := h
        refine v_iald hC (Nat.le_of_ble_eq_true rfl) rfl rfl hi6 dX6_ware_70 ?_
        exact v_iret hC hR h dX6_ware_71
      · by_cases q4_2 : x2 = (nI 2)
        · replace h := h.2.2.1 q4_2
          refine v_tableIn hC (nI 2) 72 dX6_ware_12 q4_2 (by decide) (by decide) rfl (by decide) ?_
          refine v_aload_n hC 0 dX6_ware_72 rfl ?_
          refine gf_X6_25 hC dX6_ware_73 ?_
          refine v_iload_n hC 1 dX6_ware_76 rfl ?_
          refine v_iconst hC (nI 0) dX6_ware_77 rfl ?_
          refine v_callV hC (kK42_valueIn _ _ _ _ h) cmK_valueIn ⟨kw604, kw605⟩ kw603 ⟨Nat.le_of_ble_eq_true rfl, Nat.le_of_ble_eq_true rfl⟩ (Nat.le_of_ble_eq_true rfl) rfl (ci := 2) (T := TX2) (N := 15) rfl (As := fun G => [.int x1, .int (nI 0)]) (fun _ => rfl) (fun _ => rfl) (st := []) (Nat.le_of_ble_eq_true rfl) rfl dX6_ware_78 (kk_i (fun r8 σ8 h => ?_))
          exact v_iret hC hR h dX6_ware_81
        · by_cases q4_3 : x2 = (nI 3)
          · replace h := h.2.2.2.1 q4_3
            refine v_tableIn hC (nI 3) 82 dX6_ware_12 q4_3 (by decide) (by decide) rfl (by decide) ?_
            refine v_aload_n hC 0 dX6_ware_82 rfl ?_
            refine gf_X6_25 hC dX6_ware_83 ?_
            refine v_iload_n hC 1 dX6_ware_86 rfl ?_
            refine v_callV hC (kK42_placeOf _ _ _ h) cmK_placeOf ⟨kw682, kw683⟩ kw681 ⟨Nat.le_of_ble_eq_true rfl, Nat.le_of_ble_eq_true rfl⟩ (Nat.le_of_ble_eq_true rfl) rfl (ci := 2) (T := TX2) (N := 15) rfl (As := fun G => [.int x1]) (fun _ => rfl) (fun _ => rfl) (st := []) (Nat.le_of_ble_eq_true rfl) rfl dX6_ware_87 (kk_i (fun r10 σ10 h => ?_))
            exact v_iret hC hR h dX6_ware_90
          · by_cases q4_4 : x2 = (nI 4)
            · replace h := h.2.2.2.2.1 q4_4
              refine v_tableIn hC (nI 4) 91 dX6_ware_12 q4_4 (by decide) (by decide) rfl (by decide) ?_
              refine v_aload_n hC 0 dX6_ware_91 rfl ?_
              refine gf_X6_25 hC dX6_ware_92 ?_
              refine gf_X6_218_42 hC dX6_ware_95 ?_
              refine v_iload_n hC 1 dX6_ware_98 rfl ?_
              obtain ⟨hi11, h⟩ := h
              refine v_iald hC (Nat.le_of_ble_eq_true rfl) rfl rfl hi11 dX6_ware_99 ?_
              exact v_iret hC hR h dX6_ware_100
            · by_cases q4_5 : x2 = (nI 5)
              · replace h := h.2.2.2.2.2.1 q4_5
                refine v_tableIn hC (nI 5) 101 dX6_ware_12 q4_5 (by decide) (by decide) rfl (by decide) ?_
                refine v_aload_n hC 0 dX6_ware_101 rfl ?_
                refine gf_X6_25 hC dX6_ware_102 ?_
                refine v_iload_n hC 1 dX6_ware_105 rfl ?_
                refine v_iconst hC (nI 0) dX6_ware_106 rfl ?_
                refine v_callV hC (kK42_valueIn _ _ _ _ h) cmK_valueIn ⟨kw604, kw605⟩ kw603 ⟨Nat.le_of_ble_eq_true rfl, Nat.le_of_ble_eq_true rfl⟩ (Nat.le_of_ble_eq_true rfl) rfl (ci := 2) (T := TX2) (N := 15) rfl (As := fun G => [.int x1, .int (nI 0)]) (fun _ => rfl) (fun _ => rfl) (st := []) (Nat.le_of_ble_eq_true rfl) rfl dX6_ware_107 (kk_i (fun r13 σ13 h => ?_))
                have J14 : ∀ (v15 : Int32) (ev15 : v15 = (if r13 = nI 0 then (nI 1) else (nI 0))), V X 3 118 [] [.int v15] σ13 := by
                  intro v15 ev15
                  replace h := h v15 ev15
                  exact v_iret hC hR h dX6_ware_118
                refine v_if_ne hC 117 dX6_ware_110 (by decide) (fun c14 => ?_) (fun c14 => ?_)
                · refine v_iconst hC (nI 0) dX6_ware_117 rfl ?_
                  exact V.sub [] rfl (J14 _ (by rw [if_neg c14]))
                · refine v_iconst hC (nI 1) dX6_ware_113 rfl ?_
                  refine v_goto hC 118 dX6_ware_114 (by decide) ?_
                  exact V.sub [] rfl (J14 _ (by rw [if_pos c14]))
              · replace h := h.2.2.2.2.2.2 ⟨q4_0, q4_1, q4_2, q4_3, q4_4, q4_5⟩
                refine v_tableOut hC 119 dX6_ware_12 (sw_out _ _ (fun j hj1 hj2 => by have hj : j = 0 ∨ j = 1 ∨ j = 2 ∨ j = 3 ∨ j = 4 ∨ j = 5 := (by omega); rcases hj with rfl | rfl | rfl | rfl | rfl | rfl <;> first | exact q4_0 | exact q4_1 | exact q4_2 | exact q4_3 | exact q4_4 | exact q4_5)) (by decide) ?_
                refine v_ldc hC kw377 dX6_ware_119 ?_
                exact v_iret hC hR h dX6_ware_121
  · replace h := h.2 c3
    refine v_ldc hC kw377 dX6_ware_8 ?_
    exact v_iret hC hR h dX6_ware_10
theorem cmH_ware : CM yX6_ware cX6_ware 3 (some .int) rmH_ware 2 := ⟨kw75, kw676, rfl, rfl, by decide, by decide, by decide +kernel⟩
def rmH_buyer : Room := { frames := 1, cells := 0, slots := 0, locals := 21 }
def wH_buyer (x1 : Int32) (x2 : Int32) (σ : gM) (Q : Int32 → gM → Prop) : Prop :=
    wH_isNoBuyer x1 σ (fun (r2 : Int32) (σ2 : gM) => (r2 = nI 0 → ((x2 = (nI 0) → (vp_in x1 4 ∧ (Q (σ2 43 x1.toNatClampNeg) σ2))) ∧ (x2 = (nI 1) → (vp_in x1 4 ∧ (Q (σ2 44 x1.toNatClampNeg) σ2))) ∧ (x2 = (nI 2) → (vp_in x1 4 ∧ (Q (σ2 45 x1.toNatClampNeg) σ2))) ∧ (x2 = (nI 3) → (vp_in x1 4 ∧ (Q (σ2 46 x1.toNatClampNeg) σ2))) ∧ ((¬ x2 = (nI 0) ∧ ¬ x2 = (nI 1) ∧ ¬ x2 = (nI 2) ∧ ¬ x2 = (nI 3)) → (Q (-1000001 : Int32) σ2)))) ∧ (¬ (r2 = nI 0) → (Q (-1000001 : Int32) σ2)))
set_option maxHeartbeats 4000000 in
set_option maxRecDepth 100000 in
theorem kH_buyer (x1 : Int32) (x2 : Int32) (σ : gM) (Q : Int32 → gM → Prop) (h : wH_buyer x1 x2 σ Q) : CT yX6_buyer cX6_buyer 3 (some .int) rmH_buyer (fun G => [.ref (gad G 0), .int x1, .int x2]) σ (gPi Q) := by
  refine c_enter (by decide) (fun _ => Nat.le_of_ble_eq_true rfl) (fun X hC hR => ?_)
  show V X 3 0 [(0, .ref (xad X 0)), (1, .int x1), (2, .int x2)] [] σ
  replace h : wH_isNoBuyer x1 σ (fun (r2 : Int32) (σ2 : gM) => (r2 = nI 0 → ((x2 = (nI 0) → (vp_in x1 4 ∧ (Q (σ2 43 x1.toNatClampNeg) σ2))) ∧ (x2 = (nI 1) → (vp_in x1 4 ∧ (Q (σ2 44 x1.toNatClampNeg) σ2))) ∧ (x2 = (nI 2) → (vp_in x1 4 ∧ (Q (σ2 45 x1.toNatClampNeg) σ2))) ∧ (x2 = (nI 3) → (vp_in x1 4 ∧ (Q (σ2 46 x1.toNatClampNeg) σ2))) ∧ ((¬ x2 = (nI 0) ∧ ¬ x2 = (nI 1) ∧ ¬ x2 = (nI 2) ∧ ¬ x2 = (nI 3)) → (Q (-1000001 : Int32) σ2)))) ∧ (¬ (r2 = nI 0) → (Q (-1000001 : Int32) σ2))) := h
  refine v_aload_n hC 0 dX6_buyer_0 rfl ?_
  refine v_iload_n hC 1 dX6_buyer_1 rfl ?_
  refine v_callV hC (kH_isNoBuyer _ _ _ h) cmH_isNoBuyer ⟨kw592, kw17⟩ kw590 ⟨Nat.le_of_ble_eq_true rfl, Nat.le_of_ble_eq_true rfl⟩ (Nat.le_of_ble_eq_true rfl) rfl (ci := 6) (T := TX6) (N := 12) rfl (As := fun G => [.int x1]) (fun _ => rfl) (fun _ => rfl) (st := []) (Nat.le_of_ble_eq_true rfl) rfl dX6_buyer_2 (kk_i (fun r2 σ2 h => ?_))
  refine v_if_eq hC 11 dX6_buyer_5 (by decide) (fun c3 => ?_) (fun c3 => ?_)
  · replace h := h.1 c3
    refine v_iload_n hC 2 dX6_buyer_11 rfl ?_
    by_cases q4_0 : x2 = (nI 0)
    · replace h := h.1 q4_0
      refine v_tableIn hC (nI 0) 44 dX6_buyer_12 q4_0 (by decide) (by decide) rfl (by decide) ?_
      refine v_aload_n hC 0 dX6_buyer_44 rfl ?_
      refine gf_X6_25 hC dX6_buyer_45 ?_
      refine gf_X6_221_42 hC dX6_buyer_48 ?_
      refine v_iload_n hC 1 dX6_buyer_51 rfl ?_
      obtain ⟨hi5, h⟩ := h
      refine v_iald hC (Nat.le_of_ble_eq_true rfl) rfl rfl hi5 dX6_buyer_52 ?_
      exact v_iret hC hR h dX6_buyer_53
    · by_cases q4_1 : x2 = (nI 1)
      · replace h := h.2.1 q4_1
        refine v_tableIn hC (nI 1) 54 dX6_buyer_12 q4_1 (by decide) (by decide) rfl (by decide) ?_
        refine v_aload_n hC 0 dX6_buyer_54 rfl ?_
        refine gf_X6_25 hC dX6_buyer_55 ?_
        refine gf_X6_155_42 hC dX6_buyer_58 ?_
        refine v_iload_n hC 1 dX6_buyer_61 rfl ?_
        obtain ⟨hi6, h⟩ := h
        refine v_iald hC (Nat.le_of_ble_eq_true rfl) rfl rfl hi6 dX6_buyer_62 ?_
        exact v_iret hC hR h dX6_buyer_63
      · by_cases q4_2 : x2 = (nI 2)
        · replace h := h.2.2.1 q4_2
          refine v_tableIn hC (nI 2) 64 dX6_buyer_12 q4_2 (by decide) (by decide) rfl (by decide) ?_
          refine v_aload_n hC 0 dX6_buyer_64 rfl ?_
          refine gf_X6_25 hC dX6_buyer_65 ?_
          refine gf_X6_224_42 hC dX6_buyer_68 ?_
          refine v_iload_n hC 1 dX6_buyer_71 rfl ?_
          obtain ⟨hi7, h⟩ := h
          refine v_iald hC (Nat.le_of_ble_eq_true rfl) rfl rfl hi7 dX6_buyer_72 ?_
          exact v_iret hC hR h dX6_buyer_73
        · by_cases q4_3 : x2 = (nI 3)
          · replace h := h.2.2.2.1 q4_3
            refine v_tableIn hC (nI 3) 74 dX6_buyer_12 q4_3 (by decide) (by decide) rfl (by decide) ?_
            refine v_aload_n hC 0 dX6_buyer_74 rfl ?_
            refine gf_X6_25 hC dX6_buyer_75 ?_
            refine gf_X6_227_42 hC dX6_buyer_78 ?_
            refine v_iload_n hC 1 dX6_buyer_81 rfl ?_
            obtain ⟨hi8, h⟩ := h
            refine v_iald hC (Nat.le_of_ble_eq_true rfl) rfl rfl hi8 dX6_buyer_82 ?_
            exact v_iret hC hR h dX6_buyer_83
          · replace h := h.2.2.2.2 ⟨q4_0, q4_1, q4_2, q4_3⟩
            refine v_tableOut hC 84 dX6_buyer_12 (sw_out _ _ (fun j hj1 hj2 => by have hj : j = 0 ∨ j = 1 ∨ j = 2 ∨ j = 3 := (by omega); rcases hj with rfl | rfl | rfl | rfl <;> first | exact q4_0 | exact q4_1 | exact q4_2 | exact q4_3)) (by decide) ?_
            refine v_ldc hC kw377 dX6_buyer_84 ?_
            exact v_iret hC hR h dX6_buyer_86
  · replace h := h.2 c3
    refine v_ldc hC kw377 dX6_buyer_8 ?_
    exact v_iret hC hR h dX6_buyer_10
theorem cmH_buyer : CM yX6_buyer cX6_buyer 3 (some .int) rmH_buyer 2 := ⟨kw75, kw688, rfl, rfl, by decide, by decide, by decide +kernel⟩
def rmH_worth : Room := { frames := 3, cells := 0, slots := 0, locals := 86 }
def wH_worth (x1 : Int32) (x2 : Int32) (σ : gM) (Q : Int32 → gM → Prop) : Prop :=
    wH_isNoWare x1 σ (fun (r2 : Int32) (σ2 : gM) => (r2 = nI 0 → (wH_isNoBuyer x2 σ2 (fun (r5 : Int32) (σ5 : gM) => (r5 = nI 0 → (wK42_valueTo x2 x1 (nI 0) σ5 (fun (r8 : Int32) (σ8 : gM) => Q r8 σ8))) ∧ (¬ (r5 = nI 0) → (Q (-1000001 : Int32) σ5))))) ∧ (¬ (r2 = nI 0) → (Q (-1000001 : Int32) σ2)))
set_option maxHeartbeats 4000000 in
set_option maxRecDepth 100000 in
theorem kH_worth (x1 : Int32) (x2 : Int32) (σ : gM) (Q : Int32 → gM → Prop) (h : wH_worth x1 x2 σ Q) : CT yX6_worth cX6_worth 3 (some .int) rmH_worth (fun G => [.ref (gad G 0), .int x1, .int x2]) σ (gPi Q) := by
  refine c_enter (by decide) (fun _ => Nat.le_of_ble_eq_true rfl) (fun X hC hR => ?_)
  show V X 3 0 [(0, .ref (xad X 0)), (1, .int x1), (2, .int x2)] [] σ
  replace h : wH_isNoWare x1 σ (fun (r2 : Int32) (σ2 : gM) => (r2 = nI 0 → (wH_isNoBuyer x2 σ2 (fun (r5 : Int32) (σ5 : gM) => (r5 = nI 0 → (wK42_valueTo x2 x1 (nI 0) σ5 (fun (r8 : Int32) (σ8 : gM) => Q r8 σ8))) ∧ (¬ (r5 = nI 0) → (Q (-1000001 : Int32) σ5))))) ∧ (¬ (r2 = nI 0) → (Q (-1000001 : Int32) σ2))) := h
  refine v_aload_n hC 0 dX6_worth_0 rfl ?_
  refine v_iload_n hC 1 dX6_worth_1 rfl ?_
  refine v_callV hC (kH_isNoWare _ _ _ h) cmH_isNoWare ⟨kw679, kw20⟩ kw677 ⟨Nat.le_of_ble_eq_true rfl, Nat.le_of_ble_eq_true rfl⟩ (Nat.le_of_ble_eq_true rfl) rfl (ci := 6) (T := TX6) (N := 12) rfl (As := fun G => [.int x1]) (fun _ => rfl) (fun _ => rfl) (st := []) (Nat.le_of_ble_eq_true rfl) rfl dX6_worth_2 (kk_i (fun r2 σ2 h => ?_))
  refine v_if_ne hC 16 dX6_worth_5 (by decide) (fun c3 => ?_) (fun c3 => ?_)
  · replace h := h.2 c3
    refine v_ldc hC kw377 dX6_worth_16 ?_
    exact v_iret hC hR h dX6_worth_18
  · replace h := h.1 c3
    refine v_aload_n hC 0 dX6_worth_8 rfl ?_
    refine v_iload_n hC 2 dX6_worth_9 rfl ?_
    refine v_callV hC (kH_isNoBuyer _ _ _ h) cmH_isNoBuyer ⟨kw592, kw17⟩ kw590 ⟨Nat.le_of_ble_eq_true rfl, Nat.le_of_ble_eq_true rfl⟩ (Nat.le_of_ble_eq_true rfl) rfl (ci := 6) (T := TX6) (N := 12) rfl (As := fun G => [.int x2]) (fun _ => rfl) (fun _ => rfl) (st := []) (Nat.le_of_ble_eq_true rfl) rfl dX6_worth_10 (kk_i (fun r5 σ5 h => ?_))
    refine v_if_eq hC 19 dX6_worth_13 (by decide) (fun c6 => ?_) (fun c6 => ?_)
    · replace h := h.1 c6
      refine v_aload_n hC 0 dX6_worth_19 rfl ?_
      refine gf_X6_25 hC dX6_worth_20 ?_
      refine v_iload_n hC 2 dX6_worth_23 rfl ?_
      refine v_iload_n hC 1 dX6_worth_24 rfl ?_
      refine v_iconst hC (nI 0) dX6_worth_25 rfl ?_
      refine v_callV hC (kK42_valueTo _ _ _ _ _ h) cmK_valueTo ⟨kw626, kw627⟩ kw693 ⟨Nat.le_of_ble_eq_true rfl, Nat.le_of_ble_eq_true rfl⟩ (Nat.le_of_ble_eq_true rfl) rfl (ci := 2) (T := TX2) (N := 15) rfl (As := fun G => [.int x2, .int x1, .int (nI 0)]) (fun _ => rfl) (fun _ => rfl) (st := []) (Nat.le_of_ble_eq_true rfl) rfl dX6_worth_26 (kk_i (fun r8 σ8 h => ?_))
      exact v_iret hC hR h dX6_worth_29
    · replace h := h.2 c6
      refine v_ldc hC kw377 dX6_worth_16 ?_
      exact v_iret hC hR h dX6_worth_18
theorem cmH_worth : CM yX6_worth cX6_worth 3 (some .int) rmH_worth 2 := ⟨kw75, kw692, rfl, rfl, by decide, by decide, by decide +kernel⟩
def rmH_areNoTwo : Room := { frames := 1, cells := 0, slots := 0, locals := 21 }
def wH_areNoTwo (x1 : Int32) (x2 : Int32) (σ : gM) (Q : Int32 → gM → Prop) : Prop :=
    wH_isNoBuyer x1 σ (fun (r2 : Int32) (σ2 : gM) => (r2 = nI 0 → (wH_isNoBuyer x2 σ2 (fun (r5 : Int32) (σ5 : gM) => ∀ v7 : Int32, v7 = (if r5 = nI 0 then (if x1 = x2 then (nI 1) else (nI 0)) else (nI 1)) → ((v7 = nI 0 ∨ v7 = nI 1) ∧ Q v7 σ5)))) ∧ (¬ (r2 = nI 0) → (Q (nI 1) σ2)))
set_option maxHeartbeats 4000000 in
set_option maxRecDepth 100000 in
theorem kH_areNoTwo (x1 : Int32) (x2 : Int32) (σ : gM) (Q : Int32 → gM → Prop) (h : wH_areNoTwo x1 x2 σ Q) : CT yX6_areNoTwo cX6_areNoTwo 3 (some .boolean) rmH_areNoTwo (fun G => [.ref (gad G 0), .int x1, .int x2]) σ (gPi Q) := by
  refine c_enter (by decide) (fun _ => Nat.le_of_ble_eq_true rfl) (fun X hC hR => ?_)
  show V X 3 0 [(0, .ref (xad X 0)), (1, .int x1), (2, .int x2)] [] σ
  replace h : wH_isNoBuyer x1 σ (fun (r2 : Int32) (σ2 : gM) => (r2 = nI 0 → (wH_isNoBuyer x2 σ2 (fun (r5 : Int32) (σ5 : gM) => ∀ v7 : Int32, v7 = (if r5 = nI 0 then (if x1 = x2 then (nI 1) else (nI 0)) else (nI 1)) → ((v7 = nI 0 ∨ v7 = nI 1) ∧ Q v7 σ5)))) ∧ (¬ (r2 = nI 0) → (Q (nI 1) σ2))) := h
  refine v_aload_n hC 0 dX6_areNoTwo_0 rfl ?_
  refine v_iload_n hC 1 dX6_areNoTwo_1 rfl ?_
  refine v_callV hC (kH_isNoBuyer _ _ _ h) cmH_isNoBuyer ⟨kw592, kw17⟩ kw590 ⟨Nat.le_of_ble_eq_true rfl, Nat.le_of_ble_eq_true rfl⟩ (Nat.le_of_ble_eq_true rfl) rfl (ci := 6) (T := TX6) (N := 12) rfl (As := fun G => [.int x1]) (fun _ => rfl) (fun _ => rfl) (st := []) (Nat.le_of_ble_eq_true rfl) rfl dX6_areNoTwo_2 (kk_i (fun r2 σ2 h => ?_))
  refine v_if_ne hC 21 dX6_areNoTwo_5 (by decide) (fun c3 => ?_) (fun c3 => ?_)
  · replace h := h.2 c3
    refine v_iconst hC (nI 1) dX6_areNoTwo_21 rfl ?_
    refine v_goto hC 26 dX6_areNoTwo_22 (by decide) ?_
    exact v_zret hC hR rfl h dX6_areNoTwo_26
  · replace h := h.1 c3
    refine v_aload_n hC 0 dX6_areNoTwo_8 rfl ?_
    refine v_iload_n hC 2 dX6_areNoTwo_9 rfl ?_
    refine v_callV hC (kH_isNoBuyer _ _ _ h) cmH_isNoBuyer ⟨kw592, kw17⟩ kw590 ⟨Nat.le_of_ble_eq_true rfl, Nat.le_of_ble_eq_true rfl⟩ (Nat.le_of_ble_eq_true rfl) rfl (ci := 6) (T := TX6) (N := 12) rfl (As := fun G => [.int x2]) (fun _ => rfl) (fun _ => rfl) (st := []) (Nat.le_of_ble_eq_true rfl) rfl dX6_areNoTwo_10 (kk_i (fun r5 σ5 h => ?_))
    have J6 : ∀ (v7 : Int32) (ev7 : v7 = (if r5 = nI 0 then (if x1 = x2 then (nI 1) else (nI 0)) else (nI 1))), V X 3 26 [] [.int v7] σ5 := by
      intro v7 ev7
      replace h := h v7 ev7
      obtain ⟨hb, h⟩ := h
      exact v_zret hC hR (nar_bool hb) h dX6_areNoTwo_26
    refine v_if_ne hC 21 dX6_areNoTwo_13 (by decide) (fun c6 => ?_) (fun c6 => ?_)
    · refine v_iconst hC (nI 1) dX6_areNoTwo_21 rfl ?_
      refine v_goto hC 26 dX6_areNoTwo_22 (by decide) ?_
      exact V.sub [] rfl (J6 _ (by rw [if_neg c6]))
    · refine v_iload_n hC 1 dX6_areNoTwo_16 rfl ?_
      refine v_iload_n hC 2 dX6_areNoTwo_17 rfl ?_
      have J8 : V X 3 26 [] [.int (if x1 = x2 then (nI 1) else (nI 0))] σ5 := by
        exact V.sub [] rfl (J6 _ (by rw [if_pos c6]))
      refine v_icmp_ne hC 25 dX6_areNoTwo_18 (by decide) (fun c8 => ?_) (fun c8 => ?_)
      · refine v_iconst hC (nI 0) dX6_areNoTwo_25 rfl ?_
        rw [if_neg c8] at J8
        exact V.sub [] rfl J8
      · refine v_iconst hC (nI 1) dX6_areNoTwo_21 rfl ?_
        refine v_goto hC 26 dX6_areNoTwo_22 (by decide) ?_
        rw [if_pos c8] at J8
        exact V.sub [] rfl J8
theorem cmH_areNoTwo : CM yX6_areNoTwo cX6_areNoTwo 3 (some .boolean) rmH_areNoTwo 2 := ⟨kw75, kw701, rfl, rfl, by decide, by decide, by decide +kernel⟩
def rmD_seat : Room := { frames := 3, cells := 0, slots := 0, locals := 86 }
def wD_seat_l19 (Q : gM → Prop)  : Nat → Int32 → Int32 → Int32 → gM → Prop
  | 0, _, _, _, _ => False
  | n + 1, x2, x3, x4, σ =>
    ((σ 24 4) ≤ x4 → (Q σ)) ∧ (¬ ((σ 24 4) ≤ x4) → (vp_in x4 16 ∧ (∀ x5_5 : Int32, x5_5 = (σ 51 x4.toNatClampNeg) → (vp_in x4 16 ∧ (∀ σ6 : gM, σ6 = gU σ 26 x4.toNatClampNeg x5_5 → (wK42_valueTo x2 x5_5 (nI 0) σ6 (fun (r8 : Int32) (σ8 : gM) => vp_in x5_5 16 ∧ (∀ σ9 : gM, σ9 = gU σ8 27 x5_5.toNatClampNeg r8 → (wK42_valueTo x3 x5_5 (nI 0) σ9 (fun (r11 : Int32) (σ11 : gM) => vp_in x5_5 16 ∧ (∀ σ12 : gM, σ12 = gU σ11 28 x5_5.toNatClampNeg r11 → (∀ x4_13 : Int32, x4_13 = x4 + (nI 1) → (wD_seat_l19 Q n x2 x3 x4_13 σ12)))))))))))))
def wD_seat (x2 : Int32) (x3 : Int32) (σ : gM) (Q : gM → Prop) : Prop :=
    ∀ σ1 : gM, σ1 = gU σ 24 3 (σ 42 1) → (∀ σ2 : gM, σ2 = gU σ1 24 4 (σ1 42 5) → (∃ n14 : Nat, wD_seat_l19 Q n14 x2 x3 (nI 0) σ2))
set_option maxHeartbeats 4000000 in
set_option maxRecDepth 100000 in
theorem tD_seat_l19 {X : gX} {Q : gM → Prop} (hC : VC X cX1_seat RX1 6 rmD_seat) (hR : VR X none (gPv Q))  : ∀ (n : Nat) (x2 : Int32) (x3 : Int32) (x4 : Int32) (σ : gM), wD_seat_l19 Q  n x2 x3 x4 σ → V X 6 19 [(0, .ref (xad X 24)), (1, .ref (xad X 42)), (2, .int x2), (3, .int x3), (4, .int x4)] [] σ := by
  intro n
  induction n with
  | zero => intro x2 x3 x4 σ h; exact h.elim
  | succ n ih =>
    intro x2 x3 x4 σ h
    replace h : ((σ 24 4) ≤ x4 → (Q σ)) ∧ (¬ ((σ 24 4) ≤ x4) → (vp_in x4 16 ∧ (∀ x5_5 : Int32, x5_5 = (σ 51 x4.toNatClampNeg) → (vp_in x4 16 ∧ (∀ σ6 : gM, σ6 = gU σ 26 x4.toNatClampNeg x5_5 → (wK42_valueTo x2 x5_5 (nI 0) σ6 (fun (r8 : Int32) (σ8 : gM) => vp_in x5_5 16 ∧ (∀ σ9 : gM, σ9 = gU σ8 27 x5_5.toNatClampNeg r8 → (wK42_valueTo x3 x5_5 (nI 0) σ9 (fun (r11 : Int32) (σ11 : gM) => vp_in x5_5 16 ∧ (∀ σ12 : gM, σ12 = gU σ11 28 x5_5.toNatClampNeg r11 → (∀ x4_13 : Int32, x4_13 = x4 + (nI 1) → (wD_seat_l19 Q n x2 x3 x4_13 σ12))))))))))))) := h
    refine v_iload hC 4 dX1_seat_19 rfl ?_
    refine v_aload_n hC 0 dX1_seat_21 rfl ?_
    refine gf_X1_52 hC dX1_seat_22 ?_
    refine v_icmp_ge hC 82 dX1_seat_25 (by decide) (fun c3 => ?_) (fun c3 => ?_)
    · replace h := h.1 c3
      exact v_vret hC hR h dX1_seat_82
    · replace h := h.2 c3
      refine v_aload_n hC 1 dX1_seat_28 rfl ?_
      refine gf_X1_53_42 hC dX1_seat_29 ?_
      refine v_iload hC 4 dX1_seat_32 rfl ?_
      obtain ⟨hi4, h⟩ := h
      refine v_iald hC (Nat.le_of_ble_eq_true rfl) rfl rfl hi4 dX1_seat_34 ?_
      refine v_istoreN hC dX1_seat_35 (by decide) (lo2 := fun x5_5 => [(5, .int x5_5), (0, .ref (xad X 24)), (1, .ref (xad X 42)), (2, .int x2), (3, .int x3), (4, .int x4)]) (fun _ => rfl) (fun x5_5 e5 => ?_)
      replace h := h x5_5 e5
      refine v_aload_n hC 1 dX1_seat_37 rfl ?_
      refine gf_X1_15 hC dX1_seat_38 ?_
      refine v_iload hC 5 dX1_seat_41 rfl ?_
      refine v_iload hC 0 dX1_seat_43 rfl ?_
      obtain ⟨hi6, h⟩ := h
      refine v_iast hC (Nat.le_of_ble_eq_true rfl) rfl rfl hi6 dX1_seat_45 (fun σ6 e6 => ?_)
      replace h := h σ6 e6
      refine v_aload_n hC 1 dX1_seat_46 rfl ?_
      refine gf_X1_18 hC dX1_seat_47 ?_
      refine v_iload hC 0 dX1_seat_50 rfl ?_
      refine v_aload_n hC 2 dX1_seat_52 rfl ?_
      refine v_iload_n hC 3 dX1_seat_53 rfl ?_
      refine v_iload hC 0 dX1_seat_54 rfl ?_
      refine v_iconst hC (nI 0) dX1_seat_56 rfl ?_
      refine v_callV hC (kK42_valueTo _ _ _ _ _ h) cmK_valueTo ⟨kw626, kw627⟩ kw706 ⟨Nat.le_of_ble_eq_true rfl, Nat.le_of_ble_eq_true rfl⟩ (Nat.le_of_ble_eq_true rfl) rfl (ci := 2) (T := TX2) (N := 15) rfl (As := fun G => [.int x2, .int x5_5, .int (nI 0)]) (fun _ => rfl) (fun _ => rfl) (st := [.int x5_5, .ref (xad X 27)]) (Nat.le_of_ble_eq_true rfl) rfl dX1_seat_57 (kk_i (fun r8 σ8 h => ?_))
      obtain ⟨hi9, h⟩ := h
      refine v_iast hC (Nat.le_of_ble_eq_true rfl) rfl rfl hi9 dX1_seat_60 (fun σ9 e9 => ?_)
      replace h := h σ9 e9
      refine v_aload_n hC 1 dX1_seat_61 rfl ?_
      refine gf_X1_21 hC dX1_seat_62 ?_
      refine v_iload hC 0 dX1_seat_65 rfl ?_
      refine v_aload_n hC 2 dX1_seat_67 rfl ?_
      refine v_iload_n hC 4 dX1_seat_68 rfl ?_
      refine v_iload hC 0 dX1_seat_69 rfl ?_
      refine v_iconst hC (nI 0) dX1_seat_71 rfl ?_
      refine v_callV hC (kK42_valueTo _ _ _ _ _ h) cmK_valueTo ⟨kw626, kw627⟩ kw706 ⟨Nat.le_of_ble_eq_true rfl, Nat.le_of_ble_eq_true rfl⟩ (Nat.le_of_ble_eq_true rfl) rfl (ci := 2) (T := TX2) (N := 15) rfl (As := fun G => [.int x3, .int x5_5, .int (nI 0)]) (fun _ => rfl) (fun _ => rfl) (st := [.int x5_5, .ref (xad X 28)]) (Nat.le_of_ble_eq_true rfl) rfl dX1_seat_72 (kk_i (fun r11 σ11 h => ?_))
      obtain ⟨hi12, h⟩ := h
      refine v_iast hC (Nat.le_of_ble_eq_true rfl) rfl rfl hi12 dX1_seat_75 (fun σ12 e12 => ?_)
      replace h := h σ12 e12
      refine v_iincN hC (nI 1) 5 dX1_seat_76 rfl rfl (by decide) (lo2 := fun x4_13 => [(4, .int x4_13), (5, .int x5_5), (0, .ref (xad X 24)), (1, .ref (xad X 42)), (2, .int x2), (3, .int x3)]) (fun _ => rfl) (fun x4_13 e13 => ?_)
      replace h := h x4_13 e13
      refine v_goto hC 19 dX1_seat_79 (by decide) ?_
      exact V.sub [2, 3, 4, 5, 0] rfl (ih _ _ _ _ h)
set_option maxHeartbeats 4000000 in
set_option maxRecDepth 100000 in
theorem kD_seat (x2 : Int32) (x3 : Int32) (σ : gM) (Q : gM → Prop) (h : wD_seat x2 x3 σ Q) : CT yX1_seat cX1_seat 6 none rmD_seat (fun G => [.ref (gad G 24), .ref (gad G 42), .int x2, .int x3]) σ (gPv Q) := by
  refine c_enter (by decide) (fun _ => Nat.le_of_ble_eq_true rfl) (fun X hC hR => ?_)
  show V X 6 0 [(0, .ref (xad X 24)), (1, .ref (xad X 42)), (2, .int x2), (3, .int x3)] [] σ
  replace h : ∀ σ1 : gM, σ1 = gU σ 24 3 (σ 42 1) → (∀ σ2 : gM, σ2 = gU σ1 24 4 (σ1 42 5) → (∃ n14 : Nat, wD_seat_l19 Q n14 x2 x3 (nI 0) σ2)) := h
  refine v_aload_n hC 0 dX1_seat_0 rfl ?_
  refine v_aload_n hC 1 dX1_seat_1 rfl ?_
  refine gf_X1_42_42 hC dX1_seat_2 ?_
  refine pf_X1_48 hC dX1_seat_5 (fun σ1 e1 => ?_)
  replace h := h σ1 e1
  refine v_aload_n hC 0 dX1_seat_8 rfl ?_
  refine v_aload_n hC 1 dX1_seat_9 rfl ?_
  refine gf_X1_49_42 hC dX1_seat_10 ?_
  refine pf_X1_52 hC dX1_seat_13 (fun σ2 e2 => ?_)
  replace h := h σ2 e2
  refine v_iconst hC (nI 0) dX1_seat_16 rfl ?_
  refine v_istore hC dX1_seat_17 (by decide) rfl ?_
  obtain ⟨n14, h⟩ := h
  exact V.sub [1, 2, 3, 4, 0] rfl (tD_seat_l19 hC hR  n14 _ _ _ _ h)
theorem cmD_seat : CM yX1_seat cX1_seat 6 none rmD_seat 3 := ⟨kw79, kw705, rfl, rfl, by decide, by decide, by decide +kernel⟩
def rmD_lineUpFrom : Room := { frames := 0, cells := 0, slots := 0, locals := 0 }
def wD_lineUpFrom_l2 (Q : gM → Prop)  : Nat → Int32 → Int32 → gM → Prop
  | 0, _, _, _ => False
  | n + 1, x1, x2, σ =>
    ((σ 24 4) ≤ x2 → (Q σ)) ∧ (¬ ((σ 24 4) ≤ x2) → (∀ v3 : Int32, v3 = (if (σ 24 4) ≤ (x1 + x2) then ((x1 + x2) - (σ 24 4)) else (x1 + x2)) → (vp_in v3 16 ∧ (vp_in (σ 26 v3.toNatClampNeg) 16 ∧ (vp_in x2 16 ∧ (∀ σ6 : gM, σ6 = gU σ 29 x2.toNatClampNeg (σ 27 (σ 26 v3.toNatClampNeg).toNatClampNeg) → (vp_in v3 16 ∧ (vp_in (σ6 26 v3.toNatClampNeg) 16 ∧ (vp_in x2 16 ∧ (∀ σ9 : gM, σ9 = gU σ6 30 x2.toNatClampNeg (σ6 28 (σ6 26 v3.toNatClampNeg).toNatClampNeg) → (∀ x2_10 : Int32, x2_10 = x2 + (nI 1) → (wD_lineUpFrom_l2 Q n x1 x2_10 σ9))))))))))))
def wD_lineUpFrom (x1 : Int32) (σ : gM) (Q : gM → Prop) : Prop :=
    ∃ n11 : Nat, wD_lineUpFrom_l2 Q n11 x1 (nI 0) σ
set_option maxHeartbeats 4000000 in
set_option maxRecDepth 100000 in
theorem tD_lineUpFrom_l2 {X : gX} {Q : gM → Prop} (hC : VC X cX1_lineUpFrom RX1 4 rmD_lineUpFrom) (hR : VR X none (gPv Q))  : ∀ (n : Nat) (x1 : Int32) (x2 : Int32) (σ : gM), wD_lineUpFrom_l2 Q  n x1 x2 σ → V X 4 2 [(0, .ref (xad X 24)), (1, .int x1), (2, .int x2)] [] σ := by
  intro n
  induction n with
  | zero => intro x1 x2 σ h; exact h.elim
  | succ n ih =>
    intro x1 x2 σ h
    replace h : ((σ 24 4) ≤ x2 → (Q σ)) ∧ (¬ ((σ 24 4) ≤ x2) → (∀ v3 : Int32, v3 = (if (σ 24 4) ≤ (x1 + x2) then ((x1 + x2) - (σ 24 4)) else (x1 + x2)) → (vp_in v3 16 ∧ (vp_in (σ 26 v3.toNatClampNeg) 16 ∧ (vp_in x2 16 ∧ (∀ σ6 : gM, σ6 = gU σ 29 x2.toNatClampNeg (σ 27 (σ 26 v3.toNatClampNeg).toNatClampNeg) → (vp_in v3 16 ∧ (vp_in (σ6 26 v3.toNatClampNeg) 16 ∧ (vp_in x2 16 ∧ (∀ σ9 : gM, σ9 = gU σ6 30 x2.toNatClampNeg (σ6 28 (σ6 26 v3.toNatClampNeg).toNatClampNeg) → (∀ x2_10 : Int32, x2_10 = x2 + (nI 1) → (wD_lineUpFrom_l2 Q n x1 x2_10 σ9)))))))))))) := h
    refine v_iload_n hC 2 dX1_lineUpFrom_2 rfl ?_
    refine v_aload_n hC 0 dX1_lineUpFrom_3 rfl ?_
    refine gf_X1_52 hC dX1_lineUpFrom_4 ?_
    refine v_icmp_ge hC 75 dX1_lineUpFrom_7 (by decide) (fun c1 => ?_) (fun c1 => ?_)
    · replace h := h.1 c1
      exact v_vret hC hR h dX1_lineUpFrom_75
    · replace h := h.2 c1
      refine v_iload_n hC 1 dX1_lineUpFrom_10 rfl ?_
      refine v_iload_n hC 2 dX1_lineUpFrom_11 rfl ?_
      refine v_iadd hC dX1_lineUpFrom_12 ?_
      refine v_aload_n hC 0 dX1_lineUpFrom_13 rfl ?_
      refine gf_X1_52 hC dX1_lineUpFrom_14 ?_
      have J2 : ∀ (v3 : Int32) (ev3 : v3 = (if (σ 24 4) ≤ (x1 + x2) then ((x1 + x2) - (σ 24 4)) else (x1 + x2))), V X 4 34 [(0, .ref (xad X 24)), (1, .int x1), (2, .int x2)] [.int v3] σ := by
        intro v3 ev3
        replace h := h v3 ev3
        refine v_istore_n hC dX1_lineUpFrom_34 (by decide) rfl ?_
        refine v_aload_n hC 1 dX1_lineUpFrom_35 rfl ?_
        refine gf_X1_24 hC dX1_lineUpFrom_36 ?_
        refine v_iload_n hC 3 dX1_lineUpFrom_39 rfl ?_
        refine v_aload_n hC 1 dX1_lineUpFrom_40 rfl ?_
        refine gf_X1_18 hC dX1_lineUpFrom_41 ?_
        refine v_aload_n hC 1 dX1_lineUpFrom_44 rfl ?_
        refine gf_X1_15 hC dX1_lineUpFrom_45 ?_
        refine v_iload_n hC 0 dX1_lineUpFrom_48 rfl ?_
        obtain ⟨hi4, h⟩ := h
        refine v_iald hC (Nat.le_of_ble_eq_true rfl) rfl rfl hi4 dX1_lineUpFrom_49 ?_
        obtain ⟨hi5, h⟩ := h
        refine v_iald hC (Nat.le_of_ble_eq_true rfl) rfl rfl hi5 dX1_lineUpFrom_50 ?_
        obtain ⟨hi6, h⟩ := h
        refine v_iast hC (Nat.le_of_ble_eq_true rfl) rfl rfl hi6 dX1_lineUpFrom_51 (fun σ6 e6 => ?_)
        replace h := h σ6 e6
        refine v_aload_n hC 1 dX1_lineUpFrom_52 rfl ?_
        refine gf_X1_27 hC dX1_lineUpFrom_53 ?_
        refine v_iload_n hC 3 dX1_lineUpFrom_56 rfl ?_
        refine v_aload_n hC 1 dX1_lineUpFrom_57 rfl ?_
        refine gf_X1_21 hC dX1_lineUpFrom_58 ?_
        refine v_aload_n hC 1 dX1_lineUpFrom_61 rfl ?_
        refine gf_X1_15 hC dX1_lineUpFrom_62 ?_
        refine v_iload_n hC 0 dX1_lineUpFrom_65 rfl ?_
        obtain ⟨hi7, h⟩ := h
        refine v_iald hC (Nat.le_of_ble_eq_true rfl) rfl rfl hi7 dX1_lineUpFrom_66 ?_
        obtain ⟨hi8, h⟩ := h
        refine v_iald hC (Nat.le_of_ble_eq_true rfl) rfl rfl hi8 dX1_lineUpFrom_67 ?_
        obtain ⟨hi9, h⟩ := h
        refine v_iast hC (Nat.le_of_ble_eq_true rfl) rfl rfl hi9 dX1_lineUpFrom_68 (fun σ9 e9 => ?_)
        replace h := h σ9 e9
        refine v_iincN hC (nI 1) 3 dX1_lineUpFrom_69 rfl rfl (by decide) (lo2 := fun x2_10 => [(2, .int x2_10), (3, .int v3), (0, .ref (xad X 24)), (1, .int x1)]) (fun _ => rfl) (fun x2_10 e10 => ?_)
        replace h := h x2_10 e10
        refine v_goto hC 2 dX1_lineUpFrom_72 (by decide) ?_
        exact V.sub [2, 3, 0] rfl (ih _ _ _ h)
      refine v_icmp_ge hC 26 dX1_lineUpFrom_17 (by decide) (fun c2 => ?_) (fun c2 => ?_)
      · refine v_iload_n hC 1 dX1_lineUpFrom_26 rfl ?_
        refine v_iload_n hC 2 dX1_lineUpFrom_27 rfl ?_
        refine v_iadd hC dX1_lineUpFrom_28 ?_
        refine v_aload_n hC 0 dX1_lineUpFrom_29 rfl ?_
        refine gf_X1_52 hC dX1_lineUpFrom_30 ?_
        refine v_isub hC dX1_lineUpFrom_33 ?_
        exact V.sub [0, 1, 2] rfl (J2 _ (by rw [if_pos c2]))
      · refine v_iload_n hC 1 dX1_lineUpFrom_20 rfl ?_
        refine v_iload_n hC 2 dX1_lineUpFrom_21 rfl ?_
        refine v_iadd hC dX1_lineUpFrom_22 ?_
        refine v_goto hC 34 dX1_lineUpFrom_23 (by decide) ?_
        exact V.sub [0, 1, 2] rfl (J2 _ (by rw [if_neg c2]))
set_option maxHeartbeats 4000000 in
set_option maxRecDepth 100000 in
theorem kD_lineUpFrom (x1 : Int32) (σ : gM) (Q : gM → Prop) (h : wD_lineUpFrom x1 σ Q) : CT yX1_lineUpFrom cX1_lineUpFrom 4 none rmD_lineUpFrom (fun G => [.ref (gad G 24), .int x1]) σ (gPv Q) := by
  refine c_enter (by decide) (fun _ => Nat.le_of_ble_eq_true rfl) (fun X hC hR => ?_)
  show V X 4 0 [(0, .ref (xad X 24)), (1, .int x1)] [] σ
  replace h : ∃ n11 : Nat, wD_lineUpFrom_l2 Q n11 x1 (nI 0) σ := h
  refine v_iconst hC (nI 0) dX1_lineUpFrom_0 rfl ?_
  refine v_istore_n hC dX1_lineUpFrom_1 (by decide) rfl ?_
  obtain ⟨n11, h⟩ := h
  exact V.sub [1, 2, 0] rfl (tD_lineUpFrom_l2 hC hR  n11 _ _ _ h)
theorem cmD_lineUpFrom : CM yX1_lineUpFrom cX1_lineUpFrom 4 none rmD_lineUpFrom 1 := ⟨kw79, kw710, rfl, rfl, by decide, by decide, by decide +kernel⟩
def rmD_clearGains : Room := { frames := 0, cells := 0, slots := 0, locals := 0 }
def wD_clearGains_31_32_l2 (Q : gM → Prop)  : Nat → Int32 → gM → Prop
  | 0, _, _ => False
  | n + 1, x3, σ =>
    ((σ 24 4) < x3 → (Q σ)) ∧ (¬ ((σ 24 4) < x3) → (vp_in x3 17 ∧ (∀ σ2 : gM, σ2 = gU σ 31 x3.toNatClampNeg (nI 0) → (vp_in x3 17 ∧ (∀ σ3 : gM, σ3 = gU σ2 32 x3.toNatClampNeg (nI 0) → (∀ x3_4 : Int32, x3_4 = x3 + (nI 1) → (wD_clearGains_31_32_l2 Q n x3_4 σ3)))))))
def wD_clearGains_31_32  (σ : gM) (Q : gM → Prop) : Prop :=
    ∃ n5 : Nat, wD_clearGains_31_32_l2 Q n5 (nI 0) σ
set_option maxHeartbeats 4000000 in
set_option maxRecDepth 100000 in
theorem tD_clearGains_31_32_l2 {X : gX} {Q : gM → Prop} (hC : VC X cX1_clearGains RX1 4 rmD_clearGains) (hR : VR X none (gPv Q))  : ∀ (n : Nat) (x3 : Int32) (σ : gM), wD_clearGains_31_32_l2 Q  n x3 σ → V X 4 2 [(0, .ref (xad X 24)), (1, .ref (xad X 31)), (2, .ref (xad X 32)), (3, .int x3)] [] σ := by
  intro n
  induction n with
  | zero => intro x3 σ h; exact h.elim
  | succ n ih =>
    intro x3 σ h
    replace h : ((σ 24 4) < x3 → (Q σ)) ∧ (¬ ((σ 24 4) < x3) → (vp_in x3 17 ∧ (∀ σ2 : gM, σ2 = gU σ 31 x3.toNatClampNeg (nI 0) → (vp_in x3 17 ∧ (∀ σ3 : gM, σ3 = gU σ2 32 x3.toNatClampNeg (nI 0) → (∀ x3_4 : Int32, x3_4 = x3 + (nI 1) → (wD_clearGains_31_32_l2 Q n x3_4 σ3))))))) := h
    refine v_iload_n hC 3 dX1_clearGains_2 rfl ?_
    refine v_aload_n hC 0 dX1_clearGains_3 rfl ?_
    refine gf_X1_52 hC dX1_clearGains_4 ?_
    refine v_icmp_gt hC 24 dX1_clearGains_7 (by decide) (fun c1 => ?_) (fun c1 => ?_)
    · replace h := h.1 c1
      exact v_vret hC hR h dX1_clearGains_24
    · replace h := h.2 c1
      refine v_aload_n hC 1 dX1_clearGains_10 rfl ?_
      refine v_iload_n hC 3 dX1_clearGains_11 rfl ?_
      refine v_iconst hC (nI 0) dX1_clearGains_12 rfl ?_
      obtain ⟨hi2, h⟩ := h
      refine v_iast hC (Nat.le_of_ble_eq_true rfl) rfl rfl hi2 dX1_clearGains_13 (fun σ2 e2 => ?_)
      replace h := h σ2 e2
      refine v_aload_n hC 2 dX1_clearGains_14 rfl ?_
      refine v_iload_n hC 3 dX1_clearGains_15 rfl ?_
      refine v_iconst hC (nI 0) dX1_clearGains_16 rfl ?_
      obtain ⟨hi3, h⟩ := h
      refine v_iast hC (Nat.le_of_ble_eq_true rfl) rfl rfl hi3 dX1_clearGains_17 (fun σ3 e3 => ?_)
      replace h := h σ3 e3
      refine v_iincN hC (nI 1) 3 dX1_clearGains_18 rfl rfl (by decide) (lo2 := fun x3_4 => [(3, .int x3_4), (0, .ref (xad X 24)), (1, .ref (xad X 31)), (2, .ref (xad X 32))]) (fun _ => rfl) (fun x3_4 e4 => ?_)
      replace h := h x3_4 e4
      refine v_goto hC 2 dX1_clearGains_21 (by decide) ?_
      exact V.sub [1, 2, 3, 0] rfl (ih _ _ h)
set_option maxHeartbeats 4000000 in
set_option maxRecDepth 100000 in
theorem kD_clearGains_31_32  (σ : gM) (Q : gM → Prop) (h : wD_clearGains_31_32  σ Q) : CT yX1_clearGains cX1_clearGains 4 none rmD_clearGains (fun G => [.ref (gad G 24), .ref (gad G 31), .ref (gad G 32)]) σ (gPv Q) := by
  refine c_enter (by decide) (fun _ => Nat.le_of_ble_eq_true rfl) (fun X hC hR => ?_)
  show V X 4 0 [(0, .ref (xad X 24)), (1, .ref (xad X 31)), (2, .ref (xad X 32))] [] σ
  replace h : ∃ n5 : Nat, wD_clearGains_31_32_l2 Q n5 (nI 0) σ := h
  refine v_iconst hC (nI 0) dX1_clearGains_0 rfl ?_
  refine v_istore_n hC dX1_clearGains_1 (by decide) rfl ?_
  obtain ⟨n5, h⟩ := h
  exact V.sub [1, 2, 3, 0] rfl (tD_clearGains_31_32_l2 hC hR  n5 _ _ h)
theorem cmD_clearGains : CM yX1_clearGains cX1_clearGains 4 none rmD_clearGains 2 := ⟨kw79, kw719, rfl, rfl, by decide, by decide, by decide +kernel⟩
def rmD_isTurnOfA : Room := { frames := 0, cells := 0, slots := 0, locals := 0 }
def wD_isTurnOfA (x1 : Int32) (σ : gM) (Q : Int32 → gM → Prop) : Prop :=
    ∀ v2 : Int32, v2 = (if (σ 24 3) = nI 0 then x1 else ((x1 + (nI 1)) / (nI 2))) → (∀ v4 : Int32, v4 = (if (v2 - v2 / (nI 2) * (nI 2)) = nI 0 then (nI 1) else (nI 0)) → ((v4 = nI 0 ∨ v4 = nI 1) ∧ Q v4 σ))
set_option maxHeartbeats 4000000 in
set_option maxRecDepth 100000 in
theorem kD_isTurnOfA (x1 : Int32) (σ : gM) (Q : Int32 → gM → Prop) (h : wD_isTurnOfA x1 σ Q) : CT yX1_isTurnOfA cX1_isTurnOfA 3 (some .boolean) rmD_isTurnOfA (fun G => [.ref (gad G 24), .int x1]) σ (gPi Q) := by
  refine c_enter (by decide) (fun _ => Nat.le_of_ble_eq_true rfl) (fun X hC hR => ?_)
  show V X 3 0 [(0, .ref (xad X 24)), (1, .int x1)] [] σ
  replace h : ∀ v2 : Int32, v2 = (if (σ 24 3) = nI 0 then x1 else ((x1 + (nI 1)) / (nI 2))) → (∀ v4 : Int32, v4 = (if (v2 - v2 / (nI 2) * (nI 2)) = nI 0 then (nI 1) else (nI 0)) → ((v4 = nI 0 ∨ v4 = nI 1) ∧ Q v4 σ)) := h
  refine v_aload_n hC 0 dX1_isTurnOfA_0 rfl ?_
  refine gf_X1_48 hC dX1_isTurnOfA_1 ?_
  have J1 : ∀ (v2 : Int32) (ev2 : v2 = (if (σ 24 3) = nI 0 then x1 else ((x1 + (nI 1)) / (nI 2)))), V X 3 16 [] [.int v2] σ := by
    intro v2 ev2
    replace h := h v2 ev2
    refine v_istore_n hC dX1_isTurnOfA_16 (by decide) rfl ?_
    refine v_iload_n hC 0 dX1_isTurnOfA_17 rfl ?_
    refine v_iconst hC (nI 2) dX1_isTurnOfA_18 rfl ?_
    refine v_irem hC dX1_isTurnOfA_19 (by decide) ?_
    have J3 : ∀ (v4 : Int32) (ev4 : v4 = (if (v2 - v2 / (nI 2) * (nI 2)) = nI 0 then (nI 1) else (nI 0))), V X 3 28 [] [.int v4] σ := by
      intro v4 ev4
      replace h := h v4 ev4
      obtain ⟨hb, h⟩ := h
      exact v_zret hC hR (nar_bool hb) h dX1_isTurnOfA_28
    refine v_if_ne hC 27 dX1_isTurnOfA_20 (by decide) (fun c3 => ?_) (fun c3 => ?_)
    · refine v_iconst hC (nI 0) dX1_isTurnOfA_27 rfl ?_
      exact V.sub [] rfl (J3 _ (by rw [if_neg c3]))
    · refine v_iconst hC (nI 1) dX1_isTurnOfA_23 rfl ?_
      refine v_goto hC 28 dX1_isTurnOfA_24 (by decide) ?_
      exact V.sub [] rfl (J3 _ (by rw [if_pos c3]))
  refine v_if_ne hC 11 dX1_isTurnOfA_4 (by decide) (fun c1 => ?_) (fun c1 => ?_)
  · refine v_iload_n hC 1 dX1_isTurnOfA_11 rfl ?_
    refine v_iconst hC (nI 1) dX1_isTurnOfA_12 rfl ?_
    refine v_iadd hC dX1_isTurnOfA_13 ?_
    refine v_iconst hC (nI 2) dX1_isTurnOfA_14 rfl ?_
    refine v_idiv hC dX1_isTurnOfA_15 (by decide) ?_
    exact V.sub [] rfl (J1 _ (by rw [if_neg c1]))
  · refine v_iload_n hC 1 dX1_isTurnOfA_7 rfl ?_
    refine v_goto hC 16 dX1_isTurnOfA_8 (by decide) ?_
    exact V.sub [] rfl (J1 _ (by rw [if_pos c1]))
theorem cmD_isTurnOfA : CM yX1_isTurnOfA cX1_isTurnOfA 3 (some .boolean) rmD_isTurnOfA 1 := ⟨kw79, kw723, rfl, rfl, by decide, by decide, by decide +kernel⟩
