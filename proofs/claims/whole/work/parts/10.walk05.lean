def rmD_takeEnd : Room := { frames := 0, cells := 0, slots := 0, locals := 0 }
def wD_takeEnd_31_32 (x3 : Int32) (x4 : Int32) (x5 : Int32) (σ : gM) (Q : Int32 → gM → Prop) : Prop :=
    (x5 = nI 0 → (vp_in x3 16 ∧ (vp_in (x3 + (nI 1)) 17 ∧ (∀ x9_6 : Int32, x9_6 = ((σ 30 x3.toNatClampNeg) + (σ 32 (x3 + (nI 1)).toNatClampNeg)) → (vp_in ((x3 + x4) - (nI 1)) 16 ∧ (vp_in x3 17 ∧ (∀ x10_9 : Int32, x10_9 = ((σ 30 ((x3 + x4) - (nI 1)).toNatClampNeg) + (σ 32 x3.toNatClampNeg)) → ((x10_9 ≤ x9_6 → (vp_in x3 17 ∧ (∀ σ11 : gM, σ11 = gU σ 32 x3.toNatClampNeg x9_6 → (vp_in (x3 + (nI 1)) 17 ∧ (vp_in x3 17 ∧ (∀ σ13 : gM, σ13 = gU σ11 31 x3.toNatClampNeg (σ11 31 (x3 + (nI 1)).toNatClampNeg) → (Q (nI 0) σ13))))))) ∧ (¬ (x10_9 ≤ x9_6) → (vp_in x3 17 ∧ (∀ σ14 : gM, σ14 = gU σ 32 x3.toNatClampNeg x10_9 → (Q (nI 1) σ14)))))))))))) ∧ (¬ (x5 = nI 0) → (vp_in x3 16 ∧ (vp_in (x3 + (nI 1)) 17 ∧ (∀ x9_19 : Int32, x9_19 = ((σ 29 x3.toNatClampNeg) + (σ 31 (x3 + (nI 1)).toNatClampNeg)) → (vp_in ((x3 + x4) - (nI 1)) 16 ∧ (vp_in x3 17 ∧ (∀ x10_22 : Int32, x10_22 = ((σ 29 ((x3 + x4) - (nI 1)).toNatClampNeg) + (σ 31 x3.toNatClampNeg)) → ((x10_22 ≤ x9_19 → (vp_in x3 17 ∧ (∀ σ24 : gM, σ24 = gU σ 31 x3.toNatClampNeg x9_19 → (vp_in (x3 + (nI 1)) 17 ∧ (vp_in x3 17 ∧ (∀ σ26 : gM, σ26 = gU σ24 32 x3.toNatClampNeg (σ24 32 (x3 + (nI 1)).toNatClampNeg) → (Q (nI 0) σ26))))))) ∧ (¬ (x10_22 ≤ x9_19) → (vp_in x3 17 ∧ (∀ σ27 : gM, σ27 = gU σ 31 x3.toNatClampNeg x10_22 → (Q (nI 1) σ27))))))))))))
set_option maxHeartbeats 4000000 in
set_option maxRecDepth 100000 in
theorem kD_takeEnd_31_32 (x3 : Int32) (x4 : Int32) (x5 : Int32) (σ : gM) (Q : Int32 → gM → Prop) (h : wD_takeEnd_31_32 x3 x4 x5 σ Q) : CT yX1_takeEnd cX1_takeEnd 11 (some .int) rmD_takeEnd (fun G => [.ref (gad G 24), .ref (gad G 31), .ref (gad G 32), .int x3, .int x4, .int x5]) σ (gPi Q) := by
  refine c_enter (by decide) (fun _ => Nat.le_of_ble_eq_true rfl) (fun X hC hR => ?_)
  show V X 11 0 [(0, .ref (xad X 24)), (1, .ref (xad X 31)), (2, .ref (xad X 32)), (3, .int x3), (4, .int x4), (5, .int x5)] [] σ
  replace h : (x5 = nI 0 → (vp_in x3 16 ∧ (vp_in (x3 + (nI 1)) 17 ∧ (∀ x9_6 : Int32, x9_6 = ((σ 30 x3.toNatClampNeg) + (σ 32 (x3 + (nI 1)).toNatClampNeg)) → (vp_in ((x3 + x4) - (nI 1)) 16 ∧ (vp_in x3 17 ∧ (∀ x10_9 : Int32, x10_9 = ((σ 30 ((x3 + x4) - (nI 1)).toNatClampNeg) + (σ 32 x3.toNatClampNeg)) → ((x10_9 ≤ x9_6 → (vp_in x3 17 ∧ (∀ σ11 : gM, σ11 = gU σ 32 x3.toNatClampNeg x9_6 → (vp_in (x3 + (nI 1)) 17 ∧ (vp_in x3 17 ∧ (∀ σ13 : gM, σ13 = gU σ11 31 x3.toNatClampNeg (σ11 31 (x3 + (nI 1)).toNatClampNeg) → (Q (nI 0) σ13))))))) ∧ (¬ (x10_9 ≤ x9_6) → (vp_in x3 17 ∧ (∀ σ14 : gM, σ14 = gU σ 32 x3.toNatClampNeg x10_9 → (Q (nI 1) σ14)))))))))))) ∧ (¬ (x5 = nI 0) → (vp_in x3 16 ∧ (vp_in (x3 + (nI 1)) 17 ∧ (∀ x9_19 : Int32, x9_19 = ((σ 29 x3.toNatClampNeg) + (σ 31 (x3 + (nI 1)).toNatClampNeg)) → (vp_in ((x3 + x4) - (nI 1)) 16 ∧ (vp_in x3 17 ∧ (∀ x10_22 : Int32, x10_22 = ((σ 29 ((x3 + x4) - (nI 1)).toNatClampNeg) + (σ 31 x3.toNatClampNeg)) → ((x10_22 ≤ x9_19 → (vp_in x3 17 ∧ (∀ σ24 : gM, σ24 = gU σ 31 x3.toNatClampNeg x9_19 → (vp_in (x3 + (nI 1)) 17 ∧ (vp_in x3 17 ∧ (∀ σ26 : gM, σ26 = gU σ24 32 x3.toNatClampNeg (σ24 32 (x3 + (nI 1)).toNatClampNeg) → (Q (nI 0) σ26))))))) ∧ (¬ (x10_22 ≤ x9_19) → (vp_in x3 17 ∧ (∀ σ27 : gM, σ27 = gU σ 31 x3.toNatClampNeg x10_22 → (Q (nI 1) σ27)))))))))))) := h
  refine v_iload hC 5 dX1_takeEnd_0 rfl ?_
  refine v_if_eq hC 9 dX1_takeEnd_2 (by decide) (fun c1 => ?_) (fun c1 => ?_)
  · replace h := h.1 c1
    refine v_aload_n hC 2 dX1_takeEnd_9 rfl ?_
    refine v_astore hC dX1_takeEnd_10 (by decide) rfl ?_
    refine v_iload hC 6 dX1_takeEnd_12 rfl ?_
    refine v_if_eq hC 21 dX1_takeEnd_14 (by decide) (fun _ => ?_) (fun q => absurd c1 q)
    refine v_aload_n hC 2 dX1_takeEnd_21 rfl ?_
    refine v_astore hC dX1_takeEnd_22 (by decide) rfl ?_
    refine v_iload hC 7 dX1_takeEnd_24 rfl ?_
    refine v_if_eq hC 36 dX1_takeEnd_26 (by decide) (fun _ => ?_) (fun q => absurd c1 q)
    refine v_aload_n hC 2 dX1_takeEnd_36 rfl ?_
    refine gf_X1_27 hC dX1_takeEnd_37 ?_
    refine v_astore hC dX1_takeEnd_40 (by decide) rfl ?_
    refine v_aload hC 0 dX1_takeEnd_42 rfl ?_
    refine v_iload_n hC 6 dX1_takeEnd_44 rfl ?_
    obtain ⟨hi4, h⟩ := h
    refine v_iald hC (Nat.le_of_ble_eq_true rfl) rfl rfl hi4 dX1_takeEnd_45 ?_
    refine v_aload hC 2 dX1_takeEnd_46 rfl ?_
    refine v_iload_n hC 6 dX1_takeEnd_48 rfl ?_
    refine v_iconst hC (nI 1) dX1_takeEnd_49 rfl ?_
    refine v_iadd hC dX1_takeEnd_50 ?_
    obtain ⟨hi5, h⟩ := h
    refine v_iald hC (Nat.le_of_ble_eq_true rfl) rfl rfl hi5 dX1_takeEnd_51 ?_
    refine v_iadd hC dX1_takeEnd_52 ?_
    refine v_istoreN hC dX1_takeEnd_53 (by decide) (lo2 := fun x9_6 => [(9, .int x9_6), (8, .ref (xad X 30)), (7, .ref (xad X 31)), (6, .ref (xad X 32)), (0, .ref (xad X 24)), (1, .ref (xad X 31)), (2, .ref (xad X 32)), (3, .int x3), (4, .int x4), (5, .int x5)]) (fun _ => rfl) (fun x9_6 e6 => ?_)
    replace h := h x9_6 e6
    refine v_aload hC 1 dX1_takeEnd_55 rfl ?_
    refine v_iload_n hC 7 dX1_takeEnd_57 rfl ?_
    refine v_iload hC 8 dX1_takeEnd_58 rfl ?_
    refine v_iadd hC dX1_takeEnd_60 ?_
    refine v_iconst hC (nI 1) dX1_takeEnd_61 rfl ?_
    refine v_isub hC dX1_takeEnd_62 ?_
    obtain ⟨hi7, h⟩ := h
    refine v_iald hC (Nat.le_of_ble_eq_true rfl) rfl rfl hi7 dX1_takeEnd_63 ?_
    refine v_aload hC 3 dX1_takeEnd_64 rfl ?_
    refine v_iload_n hC 7 dX1_takeEnd_66 rfl ?_
    obtain ⟨hi8, h⟩ := h
    refine v_iald hC (Nat.le_of_ble_eq_true rfl) rfl rfl hi8 dX1_takeEnd_67 ?_
    refine v_iadd hC dX1_takeEnd_68 ?_
    refine v_istoreN hC dX1_takeEnd_69 (by decide) (lo2 := fun x10_9 => [(10, .int x10_9), (9, .int x9_6), (8, .ref (xad X 30)), (7, .ref (xad X 31)), (6, .ref (xad X 32)), (0, .ref (xad X 24)), (1, .ref (xad X 31)), (2, .ref (xad X 32)), (3, .int x3), (4, .int x4), (5, .int x5)]) (fun _ => rfl) (fun x10_9 e9 => ?_)
    replace h := h x10_9 e9
    refine v_iload hC 0 dX1_takeEnd_71 rfl ?_
    refine v_iload hC 1 dX1_takeEnd_73 rfl ?_
    refine v_icmp_le hC 86 dX1_takeEnd_75 (by decide) (fun c10 => ?_) (fun c10 => ?_)
    · replace h := h.1 c10
      refine v_aload hC 4 dX1_takeEnd_86 rfl ?_
      refine v_iload_n hC 8 dX1_takeEnd_88 rfl ?_
      refine v_iload hC 1 dX1_takeEnd_89 rfl ?_
      obtain ⟨hi11, h⟩ := h
      refine v_iast hC (Nat.le_of_ble_eq_true rfl) rfl rfl hi11 dX1_takeEnd_91 (fun σ11 e11 => ?_)
      replace h := h σ11 e11
      refine v_aload hC 3 dX1_takeEnd_92 rfl ?_
      refine v_iload_n hC 8 dX1_takeEnd_94 rfl ?_
      refine v_aload hC 3 dX1_takeEnd_95 rfl ?_
      refine v_iload_n hC 8 dX1_takeEnd_97 rfl ?_
      refine v_iconst hC (nI 1) dX1_takeEnd_98 rfl ?_
      refine v_iadd hC dX1_takeEnd_99 ?_
      obtain ⟨hi12, h⟩ := h
      refine v_iald hC (Nat.le_of_ble_eq_true rfl) rfl rfl hi12 dX1_takeEnd_100 ?_
      obtain ⟨hi13, h⟩ := h
      refine v_iast hC (Nat.le_of_ble_eq_true rfl) rfl rfl hi13 dX1_takeEnd_101 (fun σ13 e13 => ?_)
      replace h := h σ13 e13
      refine v_iconst hC (nI 0) dX1_takeEnd_102 rfl ?_
      exact v_iret hC hR h dX1_takeEnd_103
    · replace h := h.2 c10
      refine v_aload hC 4 dX1_takeEnd_78 rfl ?_
      refine v_iload_n hC 8 dX1_takeEnd_80 rfl ?_
      refine v_iload hC 0 dX1_takeEnd_81 rfl ?_
      obtain ⟨hi14, h⟩ := h
      refine v_iast hC (Nat.le_of_ble_eq_true rfl) rfl rfl hi14 dX1_takeEnd_83 (fun σ14 e14 => ?_)
      replace h := h σ14 e14
      refine v_iconst hC (nI 1) dX1_takeEnd_84 rfl ?_
      exact v_iret hC hR h dX1_takeEnd_85
  · replace h := h.2 c1
    refine v_aload_n hC 1 dX1_takeEnd_5 rfl ?_
    refine v_goto hC 10 dX1_takeEnd_6 (by decide) ?_
    refine v_astore hC dX1_takeEnd_10 (by decide) rfl ?_
    refine v_iload hC 6 dX1_takeEnd_12 rfl ?_
    refine v_if_eq hC 21 dX1_takeEnd_14 (by decide) (fun q => absurd q c1) (fun _ => ?_)
    refine v_aload_n hC 3 dX1_takeEnd_17 rfl ?_
    refine v_goto hC 22 dX1_takeEnd_18 (by decide) ?_
    refine v_astore hC dX1_takeEnd_22 (by decide) rfl ?_
    refine v_iload hC 7 dX1_takeEnd_24 rfl ?_
    refine v_if_eq hC 36 dX1_takeEnd_26 (by decide) (fun q => absurd q c1) (fun _ => ?_)
    refine v_aload_n hC 2 dX1_takeEnd_29 rfl ?_
    refine gf_X1_24 hC dX1_takeEnd_30 ?_
    refine v_goto hC 40 dX1_takeEnd_33 (by decide) ?_
    refine v_astore hC dX1_takeEnd_40 (by decide) rfl ?_
    refine v_aload hC 0 dX1_takeEnd_42 rfl ?_
    refine v_iload_n hC 6 dX1_takeEnd_44 rfl ?_
    obtain ⟨hi17, h⟩ := h
    refine v_iald hC (Nat.le_of_ble_eq_true rfl) rfl rfl hi17 dX1_takeEnd_45 ?_
    refine v_aload hC 2 dX1_takeEnd_46 rfl ?_
    refine v_iload_n hC 6 dX1_takeEnd_48 rfl ?_
    refine v_iconst hC (nI 1) dX1_takeEnd_49 rfl ?_
    refine v_iadd hC dX1_takeEnd_50 ?_
    obtain ⟨hi18, h⟩ := h
    refine v_iald hC (Nat.le_of_ble_eq_true rfl) rfl rfl hi18 dX1_takeEnd_51 ?_
    refine v_iadd hC dX1_takeEnd_52 ?_
    refine v_istoreN hC dX1_takeEnd_53 (by decide) (lo2 := fun x9_19 => [(9, .int x9_19), (8, .ref (xad X 29)), (7, .ref (xad X 32)), (6, .ref (xad X 31)), (0, .ref (xad X 24)), (1, .ref (xad X 31)), (2, .ref (xad X 32)), (3, .int x3), (4, .int x4), (5, .int x5)]) (fun _ => rfl) (fun x9_19 e19 => ?_)
    replace h := h x9_19 e19
    refine v_aload hC 1 dX1_takeEnd_55 rfl ?_
    refine v_iload_n hC 7 dX1_takeEnd_57 rfl ?_
    refine v_iload hC 8 dX1_takeEnd_58 rfl ?_
    refine v_iadd hC dX1_takeEnd_60 ?_
    refine v_iconst hC (nI 1) dX1_takeEnd_61 rfl ?_
    refine v_isub hC dX1_takeEnd_62 ?_
    obtain ⟨hi20, h⟩ := h
    refine v_iald hC (Nat.le_of_ble_eq_true rfl) rfl rfl hi20 dX1_takeEnd_63 ?_
    refine v_aload hC 3 dX1_takeEnd_64 rfl ?_
    refine v_iload_n hC 7 dX1_takeEnd_66 rfl ?_
    obtain ⟨hi21, h⟩ := h
    refine v_iald hC (Nat.le_of_ble_eq_true rfl) rfl rfl hi21 dX1_takeEnd_67 ?_
    refine v_iadd hC dX1_takeEnd_68 ?_
    refine v_istoreN hC dX1_takeEnd_69 (by decide) (lo2 := fun x10_22 => [(10, .int x10_22), (9, .int x9_19), (8, .ref (xad X 29)), (7, .ref (xad X 32)), (6, .ref (xad X 31)), (0, .ref (xad X 24)), (1, .ref (xad X 31)), (2, .ref (xad X 32)), (3, .int x3), (4, .int x4), (5, .int x5)]) (fun _ => rfl) (fun x10_22 e22 => ?_)
    replace h := h x10_22 e22
    refine v_iload hC 0 dX1_takeEnd_71 rfl ?_
    refine v_iload hC 1 dX1_takeEnd_73 rfl ?_
    refine v_icmp_le hC 86 dX1_takeEnd_75 (by decide) (fun c23 => ?_) (fun c23 => ?_)
    · replace h := h.1 c23
      refine v_aload hC 4 dX1_takeEnd_86 rfl ?_
      refine v_iload_n hC 8 dX1_takeEnd_88 rfl ?_
      refine v_iload hC 1 dX1_takeEnd_89 rfl ?_
      obtain ⟨hi24, h⟩ := h
      refine v_iast hC (Nat.le_of_ble_eq_true rfl) rfl rfl hi24 dX1_takeEnd_91 (fun σ24 e24 => ?_)
      replace h := h σ24 e24
      refine v_aload hC 3 dX1_takeEnd_92 rfl ?_
      refine v_iload_n hC 8 dX1_takeEnd_94 rfl ?_
      refine v_aload hC 3 dX1_takeEnd_95 rfl ?_
      refine v_iload_n hC 8 dX1_takeEnd_97 rfl ?_
      refine v_iconst hC (nI 1) dX1_takeEnd_98 rfl ?_
      refine v_iadd hC dX1_takeEnd_99 ?_
      obtain ⟨hi25, h⟩ := h
      refine v_iald hC (Nat.le_of_ble_eq_true rfl) rfl rfl hi25 dX1_takeEnd_100 ?_
      obtain ⟨hi26, h⟩ := h
      refine v_iast hC (Nat.le_of_ble_eq_true rfl) rfl rfl hi26 dX1_takeEnd_101 (fun σ26 e26 => ?_)
      replace h := h σ26 e26
      refine v_iconst hC (nI 0) dX1_takeEnd_102 rfl ?_
      exact v_iret hC hR h dX1_takeEnd_103
    · replace h := h.2 c23
      refine v_aload hC 4 dX1_takeEnd_78 rfl ?_
      refine v_iload_n hC 8 dX1_takeEnd_80 rfl ?_
      refine v_iload hC 0 dX1_takeEnd_81 rfl ?_
      obtain ⟨hi27, h⟩ := h
      refine v_iast hC (Nat.le_of_ble_eq_true rfl) rfl rfl hi27 dX1_takeEnd_83 (fun σ27 e27 => ?_)
      replace h := h σ27 e27
      refine v_iconst hC (nI 1) dX1_takeEnd_84 rfl ?_
      exact v_iret hC hR h dX1_takeEnd_85
theorem cmD_takeEnd : CM yX1_takeEnd cX1_takeEnd 11 (some .int) rmD_takeEnd 5 := ⟨kw79, kw727, rfl, rfl, by decide, by decide, by decide +kernel⟩
def rmD_play : Room := { frames := 1, cells := 0, slots := 0, locals := 30 }
def wD_play_l41 (Q : gM → Prop) (K20 : Int32 → gM → Prop) : Nat → Int32 → Int32 → Int32 → gM → Prop
  | 0, _, _, _, _ => False
  | n + 1, x1, x2, x3, σ =>
    ((σ 24 4) < (x3 + x1) → (∀ x1_8 : Int32, x1_8 = x1 + (nI 1) → (K20 x1_8 σ))) ∧ (¬ ((σ 24 4) < (x3 + x1)) → (wD_takeEnd_31_32 x3 x1 x2 σ (fun (r10 : Int32) (σ10 : gM) => ∀ σ11 : gM, σ11 = gU σ10 24 2 r10 → (∀ x3_12 : Int32, x3_12 = x3 + (nI 1) → (wD_play_l41 Q K20 n x1 x2 x3_12 σ11)))))
def wD_play_l20 (Q : gM → Prop)  : Nat → Int32 → gM → Prop
  | 0, _, _ => False
  | n + 1, x1, σ =>
    ((σ 24 4) < x1 → (Q σ)) ∧ (¬ ((σ 24 4) < x1) → (wD_isTurnOfA ((σ 24 4) - x1) σ (fun (r6 : Int32) (σ6 : gM) => ∃ n13 : Nat, wD_play_l41 Q (wD_play_l20 Q n) n13 x1 r6 (nI 0) σ6)))
def wD_play  (σ : gM) (Q : gM → Prop) : Prop :=
    ∀ σ1 : gM, σ1 = gU σ 24 2 (-1000000 : Int32) → (wD_clearGains_31_32  σ1 (fun (σ3 : gM) => ∃ n14 : Nat, wD_play_l20 Q n14 (nI 1) σ3))
set_option maxHeartbeats 4000000 in
set_option maxRecDepth 100000 in
theorem tD_play_l41 {X : gX} {Q : gM → Prop} (hC : VC X cX1_play RX1 4 rmD_play) (hR : VR X none (gPv Q)) {K20 : Int32 → gM → Prop} (hK20 : ∀ (x1 : Int32) (σ : gM), K20 x1 σ → V X 4 20 [(0, .ref (xad X 24)), (1, .int x1)] [] σ) : ∀ (n : Nat) (x1 : Int32) (x2 : Int32) (x3 : Int32) (σ : gM), wD_play_l41 Q K20 n x1 x2 x3 σ → V X 4 41 [(0, .ref (xad X 24)), (1, .int x1), (2, .int x2), (3, .int x3)] [] σ := by
  intro n
  induction n with
  | zero => intro x1 x2 x3 σ h; exact h.elim
  | succ n ih =>
    intro x1 x2 x3 σ h
    replace h : ((σ 24 4) < (x3 + x1) → (∀ x1_8 : Int32, x1_8 = x1 + (nI 1) → (K20 x1_8 σ))) ∧ (¬ ((σ 24 4) < (x3 + x1)) → (wD_takeEnd_31_32 x3 x1 x2 σ (fun (r10 : Int32) (σ10 : gM) => ∀ σ11 : gM, σ11 = gU σ10 24 2 r10 → (∀ x3_12 : Int32, x3_12 = x3 + (nI 1) → (wD_play_l41 Q K20 n x1 x2 x3_12 σ11))))) := h
    refine v_iload_n hC 3 dX1_play_41 rfl ?_
    refine v_iload_n hC 1 dX1_play_42 rfl ?_
    refine v_iadd hC dX1_play_43 ?_
    refine v_aload_n hC 0 dX1_play_44 rfl ?_
    refine gf_X1_52 hC dX1_play_45 ?_
    refine v_icmp_gt hC 76 dX1_play_48 (by decide) (fun c7 => ?_) (fun c7 => ?_)
    · replace h := h.1 c7
      refine v_iincN hC (nI 1) 1 dX1_play_76 rfl rfl (by decide) (lo2 := fun x1_8 => [(1, .int x1_8), (0, .ref (xad X 24)), (2, .int x2), (3, .int x3)]) (fun _ => rfl) (fun x1_8 e8 => ?_)
      replace h := h x1_8 e8
      refine v_goto hC 20 dX1_play_79 (by decide) ?_
      exact V.sub [1, 0] rfl (hK20 _ _ h)
    · replace h := h.2 c7
      refine v_aload_n hC 0 dX1_play_51 rfl ?_
      refine v_aload_n hC 0 dX1_play_52 rfl ?_
      refine v_aload_n hC 0 dX1_play_53 rfl ?_
      refine gf_X1_30 hC dX1_play_54 ?_
      refine v_aload_n hC 0 dX1_play_57 rfl ?_
      refine gf_X1_33 hC dX1_play_58 ?_
      refine v_iload_n hC 3 dX1_play_61 rfl ?_
      refine v_iload_n hC 1 dX1_play_62 rfl ?_
      refine v_iload_n hC 2 dX1_play_63 rfl ?_
      refine v_callV hC (kD_takeEnd_31_32 _ _ _ _ _ h) cmD_takeEnd ⟨kw726, kw24⟩ kw724 ⟨Nat.le_of_ble_eq_true rfl, Nat.le_of_ble_eq_true rfl⟩ (Nat.le_of_ble_eq_true rfl) rfl (ci := 1) (T := TX1) (N := 14) rfl (As := fun G => [.ref (gad G 31), .ref (gad G 32), .int x3, .int x1, .int x2]) (fun _ => rfl) (fun _ => rfl) (st := [.ref (xad X 24)]) (Nat.le_of_ble_eq_true rfl) rfl dX1_play_64 (kk_i (fun r10 σ10 h => ?_))
      refine pf_X1_59 hC dX1_play_67 (fun σ11 e11 => ?_)
      replace h := h σ11 e11
      refine v_iincN hC (nI 1) 3 dX1_play_70 rfl rfl (by decide) (lo2 := fun x3_12 => [(3, .int x3_12), (0, .ref (xad X 24)), (1, .int x1), (2, .int x2)]) (fun _ => rfl) (fun x3_12 e12 => ?_)
      replace h := h x3_12 e12
      refine v_goto hC 41 dX1_play_73 (by decide) ?_
      exact V.sub [1, 2, 3, 0] rfl (ih _ _ _ _ h)
set_option maxHeartbeats 4000000 in
set_option maxRecDepth 100000 in
theorem tD_play_l20 {X : gX} {Q : gM → Prop} (hC : VC X cX1_play RX1 4 rmD_play) (hR : VR X none (gPv Q))  : ∀ (n : Nat) (x1 : Int32) (σ : gM), wD_play_l20 Q  n x1 σ → V X 4 20 [(0, .ref (xad X 24)), (1, .int x1)] [] σ := by
  intro n
  induction n with
  | zero => intro x1 σ h; exact h.elim
  | succ n ih =>
    intro x1 σ h
    replace h : ((σ 24 4) < x1 → (Q σ)) ∧ (¬ ((σ 24 4) < x1) → (wD_isTurnOfA ((σ 24 4) - x1) σ (fun (r6 : Int32) (σ6 : gM) => ∃ n13 : Nat, wD_play_l41 Q (wD_play_l20 Q n) n13 x1 r6 (nI 0) σ6))) := h
    refine v_iload_n hC 1 dX1_play_20 rfl ?_
    refine v_aload_n hC 0 dX1_play_21 rfl ?_
    refine gf_X1_52 hC dX1_play_22 ?_
    refine v_icmp_gt hC 82 dX1_play_25 (by decide) (fun c4 => ?_) (fun c4 => ?_)
    · replace h := h.1 c4
      exact v_vret hC hR h dX1_play_82
    · replace h := h.2 c4
      refine v_aload_n hC 0 dX1_play_28 rfl ?_
      refine v_aload_n hC 0 dX1_play_29 rfl ?_
      refine gf_X1_52 hC dX1_play_30 ?_
      refine v_iload_n hC 1 dX1_play_33 rfl ?_
      refine v_isub hC dX1_play_34 ?_
      refine v_callV hC (kD_isTurnOfA _ _ _ h) cmD_isTurnOfA ⟨kw722, kw23⟩ kw720 ⟨Nat.le_of_ble_eq_true rfl, Nat.le_of_ble_eq_true rfl⟩ (Nat.le_of_ble_eq_true rfl) rfl (ci := 1) (T := TX1) (N := 14) rfl (As := fun G => [.int ((σ 24 4) - x1)]) (fun _ => rfl) (fun _ => rfl) (st := []) (Nat.le_of_ble_eq_true rfl) rfl dX1_play_35 (kk_i (fun r6 σ6 h => ?_))
      refine v_istore_n hC dX1_play_38 (by decide) rfl ?_
      refine v_iconst hC (nI 0) dX1_play_39 rfl ?_
      refine v_istore_n hC dX1_play_40 (by decide) rfl ?_
      obtain ⟨n13, h⟩ := h
      exact V.sub [2, 3, 1, 0] rfl (tD_play_l41 hC hR ih n13 _ _ _ _ h)
set_option maxHeartbeats 4000000 in
set_option maxRecDepth 100000 in
theorem kD_play  (σ : gM) (Q : gM → Prop) (h : wD_play  σ Q) : CT yX1_play cX1_play 4 none rmD_play (fun G => [.ref (gad G 24)]) σ (gPv Q) := by
  refine c_enter (by decide) (fun _ => Nat.le_of_ble_eq_true rfl) (fun X hC hR => ?_)
  show V X 4 0 [(0, .ref (xad X 24))] [] σ
  replace h : ∀ σ1 : gM, σ1 = gU σ 24 2 (-1000000 : Int32) → (wD_clearGains_31_32  σ1 (fun (σ3 : gM) => ∃ n14 : Nat, wD_play_l20 Q n14 (nI 1) σ3)) := h
  refine v_aload_n hC 0 dX1_play_0 rfl ?_
  refine v_ldc hC kw715 dX1_play_1 ?_
  refine pf_X1_59 hC dX1_play_3 (fun σ1 e1 => ?_)
  replace h := h σ1 e1
  refine v_aload_n hC 0 dX1_play_6 rfl ?_
  refine v_aload_n hC 0 dX1_play_7 rfl ?_
  refine gf_X1_30 hC dX1_play_8 ?_
  refine v_aload_n hC 0 dX1_play_11 rfl ?_
  refine gf_X1_33 hC dX1_play_12 ?_
  refine v_callV hC (kD_clearGains_31_32  _ _ h) cmD_clearGains ⟨kw718, kw22⟩ kw716 ⟨Nat.le_of_ble_eq_true rfl, Nat.le_of_ble_eq_true rfl⟩ (Nat.le_of_ble_eq_true rfl) rfl (ci := 1) (T := TX1) (N := 14) rfl (As := fun G => [.ref (gad G 31), .ref (gad G 32)]) (fun _ => rfl) (fun _ => rfl) (st := []) (Nat.le_of_ble_eq_true rfl) rfl dX1_play_15 (kk_v (fun σ3 h => ?_))
  refine v_iconst hC (nI 1) dX1_play_18 rfl ?_
  refine v_istore_n hC dX1_play_19 (by decide) rfl ?_
  obtain ⟨n14, h⟩ := h
  exact V.sub [1, 0] rfl (tD_play_l20 hC hR  n14 _ _ h)
theorem cmD_play : CM yX1_play cX1_play 4 none rmD_play 0 := ⟨kw79, kw714, rfl, rfl, by decide, by decide, by decide +kernel⟩
def rmD_gainOfA : Room := { frames := 0, cells := 0, slots := 0, locals := 0 }
def wD_gainOfA  (σ : gM) (Q : Int32 → gM → Prop) : Prop :=
    Q (σ 31 0) σ
set_option maxHeartbeats 4000000 in
set_option maxRecDepth 100000 in
theorem kD_gainOfA  (σ : gM) (Q : Int32 → gM → Prop) (h : wD_gainOfA  σ Q) : CT yX1_gainOfA cX1_gainOfA 1 (some .int) rmD_gainOfA (fun G => [.ref (gad G 24)]) σ (gPi Q) := by
  refine c_enter (by decide) (fun _ => Nat.le_of_ble_eq_true rfl) (fun X hC hR => ?_)
  show V X 1 0 [(0, .ref (xad X 24))] [] σ
  replace h : Q (σ 31 0) σ := h
  refine v_aload_n hC 0 dX1_gainOfA_0 rfl ?_
  refine gf_X1_30 hC dX1_gainOfA_1 ?_
  refine v_iconst hC (nI 0) dX1_gainOfA_4 rfl ?_
  refine v_iald hC (Nat.le_of_ble_eq_true rfl) rfl (j := 0) (by decide) (by unfold vp_in; decide) dX1_gainOfA_5 ?_
  exact v_iret hC hR h dX1_gainOfA_6
theorem cmD_gainOfA : CM yX1_gainOfA cX1_gainOfA 1 (some .int) rmD_gainOfA 0 := ⟨kw79, kw731, rfl, rfl, by decide, by decide, by decide +kernel⟩
def rmD_gainOfB : Room := { frames := 0, cells := 0, slots := 0, locals := 0 }
def wD_gainOfB  (σ : gM) (Q : Int32 → gM → Prop) : Prop :=
    Q (σ 32 0) σ
set_option maxHeartbeats 4000000 in
set_option maxRecDepth 100000 in
theorem kD_gainOfB  (σ : gM) (Q : Int32 → gM → Prop) (h : wD_gainOfB  σ Q) : CT yX1_gainOfB cX1_gainOfB 1 (some .int) rmD_gainOfB (fun G => [.ref (gad G 24)]) σ (gPi Q) := by
  refine c_enter (by decide) (fun _ => Nat.le_of_ble_eq_true rfl) (fun X hC hR => ?_)
  show V X 1 0 [(0, .ref (xad X 24))] [] σ
  replace h : Q (σ 32 0) σ := h
  refine v_aload_n hC 0 dX1_gainOfB_0 rfl ?_
  refine gf_X1_33 hC dX1_gainOfB_1 ?_
  refine v_iconst hC (nI 0) dX1_gainOfB_4 rfl ?_
  refine v_iald hC (Nat.le_of_ble_eq_true rfl) rfl (j := 0) (by decide) (by unfold vp_in; decide) dX1_gainOfB_5 ?_
  exact v_iret hC hR h dX1_gainOfB_6
theorem cmD_gainOfB : CM yX1_gainOfB cX1_gainOfB 1 (some .int) rmD_gainOfB 0 := ⟨kw79, kw735, rfl, rfl, by decide, by decide, by decide +kernel⟩
def rmH_best : Room := { frames := 4, cells := 0, slots := 0, locals := 111 }
def wH_best (x1 : Int32) (x2 : Int32) (x3 : Int32) (σ : gM) (Q : Int32 → gM → Prop) : Prop :=
    wH_areNoTwo x1 x2 σ (fun (r2 : Int32) (σ2 : gM) => (r2 = nI 0 → ((x3 < nI 0 → (Q (-1000001 : Int32) σ2)) ∧ (¬ (x3 < nI 0) → ((x3 ≤ (nI 2) → (wD_seat x1 x2 σ2 (fun (σ7 : gM) => wD_lineUpFrom (nI 0) σ7 (fun (σ9 : gM) => wD_play  σ9 (fun (σ11 : gM) => (x3 = (nI 0) → (wD_gainOfA  σ11 (fun (r14 : Int32) (σ14 : gM) => Q r14 σ14))) ∧ (x3 = (nI 1) → (wD_gainOfB  σ11 (fun (r16 : Int32) (σ16 : gM) => Q r16 σ16))) ∧ ((¬ x3 = (nI 0) ∧ ¬ x3 = (nI 1)) → (Q (σ11 24 2) σ11))))))) ∧ (¬ (x3 ≤ (nI 2)) → (Q (-1000001 : Int32) σ2)))))) ∧ (¬ (r2 = nI 0) → (Q (-1000001 : Int32) σ2)))
set_option maxHeartbeats 4000000 in
set_option maxRecDepth 100000 in
theorem kH_best (x1 : Int32) (x2 : Int32) (x3 : Int32) (σ : gM) (Q : Int32 → gM → Prop) (h : wH_best x1 x2 x3 σ Q) : CT yX6_best cX6_best 4 (some .int) rmH_best (fun G => [.ref (gad G 0), .int x1, .int x2, .int x3]) σ (gPi Q) := by
  refine c_enter (by decide) (fun _ => Nat.le_of_ble_eq_true rfl) (fun X hC hR => ?_)
  show V X 4 0 [(0, .ref (xad X 0)), (1, .int x1), (2, .int x2), (3, .int x3)] [] σ
  replace h : wH_areNoTwo x1 x2 σ (fun (r2 : Int32) (σ2 : gM) => (r2 = nI 0 → ((x3 < nI 0 → (Q (-1000001 : Int32) σ2)) ∧ (¬ (x3 < nI 0) → ((x3 ≤ (nI 2) → (wD_seat x1 x2 σ2 (fun (σ7 : gM) => wD_lineUpFrom (nI 0) σ7 (fun (σ9 : gM) => wD_play  σ9 (fun (σ11 : gM) => (x3 = (nI 0) → (wD_gainOfA  σ11 (fun (r14 : Int32) (σ14 : gM) => Q r14 σ14))) ∧ (x3 = (nI 1) → (wD_gainOfB  σ11 (fun (r16 : Int32) (σ16 : gM) => Q r16 σ16))) ∧ ((¬ x3 = (nI 0) ∧ ¬ x3 = (nI 1)) → (Q (σ11 24 2) σ11))))))) ∧ (¬ (x3 ≤ (nI 2)) → (Q (-1000001 : Int32) σ2)))))) ∧ (¬ (r2 = nI 0) → (Q (-1000001 : Int32) σ2))) := h
  refine v_aload_n hC 0 dX6_best_0 rfl ?_
  refine v_iload_n hC 1 dX6_best_1 rfl ?_
  refine v_iload_n hC 2 dX6_best_2 rfl ?_
  refine v_callV hC (kH_areNoTwo _ _ _ _ h) cmH_areNoTwo ⟨kw700, kw21⟩ kw698 ⟨Nat.le_of_ble_eq_true rfl, Nat.le_of_ble_eq_true rfl⟩ (Nat.le_of_ble_eq_true rfl) rfl (ci := 6) (T := TX6) (N := 12) rfl (As := fun G => [.int x1, .int x2]) (fun _ => rfl) (fun _ => rfl) (st := []) (Nat.le_of_ble_eq_true rfl) rfl dX6_best_3 (kk_i (fun r2 σ2 h => ?_))
  refine v_if_ne hC 18 dX6_best_6 (by decide) (fun c3 => ?_) (fun c3 => ?_)
  · replace h := h.2 c3
    refine v_ldc hC kw377 dX6_best_18 ?_
    exact v_iret hC hR h dX6_best_20
  · replace h := h.1 c3
    refine v_iload_n hC 3 dX6_best_9 rfl ?_
    refine v_if_lt hC 18 dX6_best_10 (by decide) (fun c4 => ?_) (fun c4 => ?_)
    · replace h := h.1 c4
      refine v_ldc hC kw377 dX6_best_18 ?_
      exact v_iret hC hR h dX6_best_20
    · replace h := h.2 c4
      refine v_iload_n hC 3 dX6_best_13 rfl ?_
      refine v_iconst hC (nI 2) dX6_best_14 rfl ?_
      refine v_icmp_le hC 21 dX6_best_15 (by decide) (fun c5 => ?_) (fun c5 => ?_)
      · replace h := h.1 c5
        refine v_aload_n hC 0 dX6_best_21 rfl ?_
        refine gf_X6_46 hC dX6_best_22 ?_
        refine v_aload_n hC 0 dX6_best_25 rfl ?_
        refine gf_X6_25 hC dX6_best_26 ?_
        refine v_iload_n hC 1 dX6_best_29 rfl ?_
        refine v_iload_n hC 2 dX6_best_30 rfl ?_
        refine v_callV hC (kD_seat _ _ _ _ h) cmD_seat ⟨kw703, kw704⟩ kw702 ⟨Nat.le_of_ble_eq_true rfl, Nat.le_of_ble_eq_true rfl⟩ (Nat.le_of_ble_eq_true rfl) rfl (ci := 1) (T := TX1) (N := 14) rfl (As := fun G => [.ref (gad G 42), .int x1, .int x2]) (fun _ => rfl) (fun _ => rfl) (st := []) (Nat.le_of_ble_eq_true rfl) rfl dX6_best_31 (kk_v (fun σ7 h => ?_))
        refine v_aload_n hC 0 dX6_best_34 rfl ?_
        refine gf_X6_46 hC dX6_best_35 ?_
        refine v_iconst hC (nI 0) dX6_best_38 rfl ?_
        refine v_callV hC (kD_lineUpFrom _ _ _ h) cmD_lineUpFrom ⟨kw708, kw709⟩ kw707 ⟨Nat.le_of_ble_eq_true rfl, Nat.le_of_ble_eq_true rfl⟩ (Nat.le_of_ble_eq_true rfl) rfl (ci := 1) (T := TX1) (N := 14) rfl (As := fun G => [.int (nI 0)]) (fun _ => rfl) (fun _ => rfl) (st := []) (Nat.le_of_ble_eq_true rfl) rfl dX6_best_39 (kk_v (fun σ9 h => ?_))
        refine v_aload_n hC 0 dX6_best_42 rfl ?_
        refine gf_X6_46 hC dX6_best_43 ?_
        refine v_callV hC (kD_play  _ _ h) cmD_play ⟨kw712, kw713⟩ kw711 ⟨Nat.le_of_ble_eq_true rfl, Nat.le_of_ble_eq_true rfl⟩ (Nat.le_of_ble_eq_true rfl) rfl (ci := 1) (T := TX1) (N := 14) rfl (As := fun G => []) (fun _ => rfl) (fun _ => rfl) (st := []) (Nat.le_of_ble_eq_true rfl) rfl dX6_best_46 (kk_v (fun σ11 h => ?_))
        refine v_iload_n hC 3 dX6_best_49 rfl ?_
        by_cases q12_0 : x3 = (nI 0)
        · replace h := h.1 q12_0
          refine v_lookup hC 76 dX6_best_50 (by decide) (by rw [q12_0]; try decide) (by decide) ?_
          refine v_aload_n hC 0 dX6_best_76 rfl ?_
          refine gf_X6_46 hC dX6_best_77 ?_
          refine v_callV hC (kD_gainOfA  _ _ h) cmD_gainOfA ⟨kw729, kw730⟩ kw728 ⟨Nat.le_of_ble_eq_true rfl, Nat.le_of_ble_eq_true rfl⟩ (Nat.le_of_ble_eq_true rfl) rfl (ci := 1) (T := TX1) (N := 14) rfl (As := fun G => []) (fun _ => rfl) (fun _ => rfl) (st := []) (Nat.le_of_ble_eq_true rfl) rfl dX6_best_80 (kk_i (fun r14 σ14 h => ?_))
          exact v_iret hC hR h dX6_best_83
        · by_cases q12_1 : x3 = (nI 1)
          · replace h := h.2.1 q12_1
            refine v_lookup hC 84 dX6_best_50 (by decide) (by rw [q12_1]; try decide) (by decide) ?_
            refine v_aload_n hC 0 dX6_best_84 rfl ?_
            refine gf_X6_46 hC dX6_best_85 ?_
            refine v_callV hC (kD_gainOfB  _ _ h) cmD_gainOfB ⟨kw733, kw734⟩ kw732 ⟨Nat.le_of_ble_eq_true rfl, Nat.le_of_ble_eq_true rfl⟩ (Nat.le_of_ble_eq_true rfl) rfl (ci := 1) (T := TX1) (N := 14) rfl (As := fun G => []) (fun _ => rfl) (fun _ => rfl) (st := []) (Nat.le_of_ble_eq_true rfl) rfl dX6_best_88 (kk_i (fun r16 σ16 h => ?_))
            exact v_iret hC hR h dX6_best_91
          · replace h := h.2.2 ⟨q12_0, q12_1⟩
            refine v_lookup hC 92 dX6_best_50 (by decide) (lk_out2 q12_0 q12_1) (by decide) ?_
            refine v_aload_n hC 0 dX6_best_92 rfl ?_
            refine gf_X6_46 hC dX6_best_93 ?_
            refine gf_X6_252 hC dX6_best_96 ?_
            exact v_iret hC hR h dX6_best_99
      · replace h := h.2 c5
        refine v_ldc hC kw377 dX6_best_18 ?_
        exact v_iret hC hR h dX6_best_20
theorem cmH_best : CM yX6_best cX6_best 4 (some .int) rmH_best 3 := ⟨kw75, kw697, rfl, rfl, by decide, by decide, by decide +kernel⟩
def wD_clearGains_33_34_l2 (Q : gM → Prop)  : Nat → Int32 → gM → Prop
  | 0, _, _ => False
  | n + 1, x3, σ =>
    ((σ 24 4) < x3 → (Q σ)) ∧ (¬ ((σ 24 4) < x3) → (vp_in x3 17 ∧ (∀ σ2 : gM, σ2 = gU σ 33 x3.toNatClampNeg (nI 0) → (vp_in x3 17 ∧ (∀ σ3 : gM, σ3 = gU σ2 34 x3.toNatClampNeg (nI 0) → (∀ x3_4 : Int32, x3_4 = x3 + (nI 1) → (wD_clearGains_33_34_l2 Q n x3_4 σ3)))))))
def wD_clearGains_33_34  (σ : gM) (Q : gM → Prop) : Prop :=
    ∃ n5 : Nat, wD_clearGains_33_34_l2 Q n5 (nI 0) σ
set_option maxHeartbeats 4000000 in
set_option maxRecDepth 100000 in
theorem tD_clearGains_33_34_l2 {X : gX} {Q : gM → Prop} (hC : VC X cX1_clearGains RX1 4 rmD_clearGains) (hR : VR X none (gPv Q))  : ∀ (n : Nat) (x3 : Int32) (σ : gM), wD_clearGains_33_34_l2 Q  n x3 σ → V X 4 2 [(0, .ref (xad X 24)), (1, .ref (xad X 33)), (2, .ref (xad X 34)), (3, .int x3)] [] σ := by
  intro n
  induction n with
  | zero => intro x3 σ h; exact h.elim
  | succ n ih =>
    intro x3 σ h
    replace h : ((σ 24 4) < x3 → (Q σ)) ∧ (¬ ((σ 24 4) < x3) → (vp_in x3 17 ∧ (∀ σ2 : gM, σ2 = gU σ 33 x3.toNatClampNeg (nI 0) → (vp_in x3 17 ∧ (∀ σ3 : gM, σ3 = gU σ2 34 x3.toNatClampNeg (nI 0) → (∀ x3_4 : Int32, x3_4 = x3 + (nI 1) → (wD_clearGains_33_34_l2 Q n x3_4 σ3))))))) := h
    refine v_iload_n hC 3 dX1_clearGains_2 rfl ?_
    refine v_aload_n hC 0 dX1_clearGains_3 rfl ?_
    refine gf_X1_52 hC dX1_clearGains_4 ?_
    refine v_icmp_gt hC 24 dX1_clearGains_7 (by decide) (fun c1 => ?_) (fun c1 => ?_)
    · replace h := h.1 c1
      exact v_vret hC hR h dX1_clearGains_24
    · replace h := h.2 c1
      refine v_aload_n hC 1 dX1_clearGains_10 rfl ?_
      refine v_iload_n hC 3 dX1_clearGains_11 rfl ?_
      refine v_iconst hC (nI 0) dX1_clearGains_12 rfl ?_
      obtain ⟨hi2, h⟩ := h
      refine v_iast hC (Nat.le_of_ble_eq_true rfl) rfl rfl hi2 dX1_clearGains_13 (fun σ2 e2 => ?_)
      replace h := h σ2 e2
      refine v_aload_n hC 2 dX1_clearGains_14 rfl ?_
      refine v_iload_n hC 3 dX1_clearGains_15 rfl ?_
      refine v_iconst hC (nI 0) dX1_clearGains_16 rfl ?_
      obtain ⟨hi3, h⟩ := h
      refine v_iast hC (Nat.le_of_ble_eq_true rfl) rfl rfl hi3 dX1_clearGains_17 (fun σ3 e3 => ?_)
      replace h := h σ3 e3
      refine v_iincN hC (nI 1) 3 dX1_clearGains_18 rfl rfl (by decide) (lo2 := fun x3_4 => [(3, .int x3_4), (0, .ref (xad X 24)), (1, .ref (xad X 33)), (2, .ref (xad X 34))]) (fun _ => rfl) (fun x3_4 e4 => ?_)
      replace h := h x3_4 e4
      refine v_goto hC 2 dX1_clearGains_21 (by decide) ?_
      exact V.sub [1, 2, 3, 0] rfl (ih _ _ h)
set_option maxHeartbeats 4000000 in
set_option maxRecDepth 100000 in
theorem kD_clearGains_33_34  (σ : gM) (Q : gM → Prop) (h : wD_clearGains_33_34  σ Q) : CT yX1_clearGains cX1_clearGains 4 none rmD_clearGains (fun G => [.ref (gad G 24), .ref (gad G 33), .ref (gad G 34)]) σ (gPv Q) := by
  refine c_enter (by decide) (fun _ => Nat.le_of_ble_eq_true rfl) (fun X hC hR => ?_)
  show V X 4 0 [(0, .ref (xad X 24)), (1, .ref (xad X 33)), (2, .ref (xad X 34))] [] σ
  replace h : ∃ n5 : Nat, wD_clearGains_33_34_l2 Q n5 (nI 0) σ := h
  refine v_iconst hC (nI 0) dX1_clearGains_0 rfl ?_
  refine v_istore_n hC dX1_clearGains_1 (by decide) rfl ?_
  obtain ⟨n5, h⟩ := h
  exact V.sub [1, 2, 3, 0] rfl (tD_clearGains_33_34_l2 hC hR  n5 _ _ h)
def wD_takeEnd_33_34 (x3 : Int32) (x4 : Int32) (x5 : Int32) (σ : gM) (Q : Int32 → gM → Prop) : Prop :=
    (x5 = nI 0 → (vp_in x3 16 ∧ (vp_in (x3 + (nI 1)) 17 ∧ (∀ x9_6 : Int32, x9_6 = ((σ 30 x3.toNatClampNeg) + (σ 34 (x3 + (nI 1)).toNatClampNeg)) → (vp_in ((x3 + x4) - (nI 1)) 16 ∧ (vp_in x3 17 ∧ (∀ x10_9 : Int32, x10_9 = ((σ 30 ((x3 + x4) - (nI 1)).toNatClampNeg) + (σ 34 x3.toNatClampNeg)) → ((x10_9 ≤ x9_6 → (vp_in x3 17 ∧ (∀ σ11 : gM, σ11 = gU σ 34 x3.toNatClampNeg x9_6 → (vp_in (x3 + (nI 1)) 17 ∧ (vp_in x3 17 ∧ (∀ σ13 : gM, σ13 = gU σ11 33 x3.toNatClampNeg (σ11 33 (x3 + (nI 1)).toNatClampNeg) → (Q (nI 0) σ13))))))) ∧ (¬ (x10_9 ≤ x9_6) → (vp_in x3 17 ∧ (∀ σ14 : gM, σ14 = gU σ 34 x3.toNatClampNeg x10_9 → (Q (nI 1) σ14)))))))))))) ∧ (¬ (x5 = nI 0) → (vp_in x3 16 ∧ (vp_in (x3 + (nI 1)) 17 ∧ (∀ x9_19 : Int32, x9_19 = ((σ 29 x3.toNatClampNeg) + (σ 33 (x3 + (nI 1)).toNatClampNeg)) → (vp_in ((x3 + x4) - (nI 1)) 16 ∧ (vp_in x3 17 ∧ (∀ x10_22 : Int32, x10_22 = ((σ 29 ((x3 + x4) - (nI 1)).toNatClampNeg) + (σ 33 x3.toNatClampNeg)) → ((x10_22 ≤ x9_19 → (vp_in x3 17 ∧ (∀ σ24 : gM, σ24 = gU σ 33 x3.toNatClampNeg x9_19 → (vp_in (x3 + (nI 1)) 17 ∧ (vp_in x3 17 ∧ (∀ σ26 : gM, σ26 = gU σ24 34 x3.toNatClampNeg (σ24 34 (x3 + (nI 1)).toNatClampNeg) → (Q (nI 0) σ26))))))) ∧ (¬ (x10_22 ≤ x9_19) → (vp_in x3 17 ∧ (∀ σ27 : gM, σ27 = gU σ 33 x3.toNatClampNeg x10_22 → (Q (nI 1) σ27))))))))))))
set_option maxHeartbeats 4000000 in
set_option maxRecDepth 100000 in
theorem kD_takeEnd_33_34 (x3 : Int32) (x4 : Int32) (x5 : Int32) (σ : gM) (Q : Int32 → gM → Prop) (h : wD_takeEnd_33_34 x3 x4 x5 σ Q) : CT yX1_takeEnd cX1_takeEnd 11 (some .int) rmD_takeEnd (fun G => [.ref (gad G 24), .ref (gad G 33), .ref (gad G 34), .int x3, .int x4, .int x5]) σ (gPi Q) := by
  refine c_enter (by decide) (fun _ => Nat.le_of_ble_eq_true rfl) (fun X hC hR => ?_)
  show V X 11 0 [(0, .ref (xad X 24)), (1, .ref (xad X 33)), (2, .ref (xad X 34)), (3, .int x3), (4, .int x4), (5, .int x5)] [] σ
  replace h : (x5 = nI 0 → (vp_in x3 16 ∧ (vp_in (x3 + (nI 1)) 17 ∧ (∀ x9_6 : Int32, x9_6 = ((σ 30 x3.toNatClampNeg) + (σ 34 (x3 + (nI 1)).toNatClampNeg)) → (vp_in ((x3 + x4) - (nI 1)) 16 ∧ (vp_in x3 17 ∧ (∀ x10_9 : Int32, x10_9 = ((σ 30 ((x3 + x4) - (nI 1)).toNatClampNeg) + (σ 34 x3.toNatClampNeg)) → ((x10_9 ≤ x9_6 → (vp_in x3 17 ∧ (∀ σ11 : gM, σ11 = gU σ 34 x3.toNatClampNeg x9_6 → (vp_in (x3 + (nI 1)) 17 ∧ (vp_in x3 17 ∧ (∀ σ13 : gM, σ13 = gU σ11 33 x3.toNatClampNeg (σ11 33 (x3 + (nI 1)).toNatClampNeg) → (Q (nI 0) σ13))))))) ∧ (¬ (x10_9 ≤ x9_6) → (vp_in x3 17 ∧ (∀ σ14 : gM, σ14 = gU σ 34 x3.toNatClampNeg x10_9 → (Q (nI 1) σ14)))))))))))) ∧ (¬ (x5 = nI 0) → (vp_in x3 16 ∧ (vp_in (x3 + (nI 1)) 17 ∧ (∀ x9_19 : Int32, x9_19 = ((σ 29 x3.toNatClampNeg) + (σ 33 (x3 + (nI 1)).toNatClampNeg)) → (vp_in ((x3 + x4) - (nI 1)) 16 ∧ (vp_in x3 17 ∧ (∀ x10_22 : Int32, x10_22 = ((σ 29 ((x3 + x4) - (nI 1)).toNatClampNeg) + (σ 33 x3.toNatClampNeg)) → ((x10_22 ≤ x9_19 → (vp_in x3 17 ∧ (∀ σ24 : gM, σ24 = gU σ 33 x3.toNatClampNeg x9_19 → (vp_in (x3 + (nI 1)) 17 ∧ (vp_in x3 17 ∧ (∀ σ26 : gM, σ26 = gU σ24 34 x3.toNatClampNeg (σ24 34 (x3 + (nI 1)).toNatClampNeg) → (Q (nI 0) σ26))))))) ∧ (¬ (x10_22 ≤ x9_19) → (vp_in x3 17 ∧ (∀ σ27 : gM, σ27 = gU σ 33 x3.toNatClampNeg x10_22 → (Q (nI 1) σ27)))))))))))) := h
  refine v_iload hC 5 dX1_takeEnd_0 rfl ?_
  refine v_if_eq hC 9 dX1_takeEnd_2 (by decide) (fun c1 => ?_) (fun c1 => ?_)
  · replace h := h.1 c1
    refine v_aload_n hC 2 dX1_takeEnd_9 rfl ?_
    refine v_astore hC dX1_takeEnd_10 (by decide) rfl ?_
    refine v_iload hC 6 dX1_takeEnd_12 rfl ?_
    refine v_if_eq hC 21 dX1_takeEnd_14 (by decide) (fun _ => ?_) (fun q => absurd c1 q)
    refine v_aload_n hC 2 dX1_takeEnd_21 rfl ?_
    refine v_astore hC dX1_takeEnd_22 (by decide) rfl ?_
    refine v_iload hC 7 dX1_takeEnd_24 rfl ?_
    refine v_if_eq hC 36 dX1_takeEnd_26 (by decide) (fun _ => ?_) (fun q => absurd c1 q)
    refine v_aload_n hC 2 dX1_takeEnd_36 rfl ?_
    refine gf_X1_27 hC dX1_takeEnd_37 ?_
    refine v_astore hC dX1_takeEnd_40 (by decide) rfl ?_
    refine v_aload hC 0 dX1_takeEnd_42 rfl ?_
    refine v_iload_n hC 6 dX1_takeEnd_44 rfl ?_
    obtain ⟨hi4, h⟩ := h
    refine v_iald hC (Nat.le_of_ble_eq_true rfl) rfl rfl hi4 dX1_takeEnd_45 ?_
    refine v_aload hC 2 dX1_takeEnd_46 rfl ?_
    refine v_iload_n hC 6 dX1_takeEnd_48 rfl ?_
    refine v_iconst hC (nI 1) dX1_takeEnd_49 rfl ?_
    refine v_iadd hC dX1_takeEnd_50 ?_
    obtain ⟨hi5, h⟩ := h
    refine v_iald hC (Nat.le_of_ble_eq_true rfl) rfl rfl hi5 dX1_takeEnd_51 ?_
    refine v_iadd hC dX1_takeEnd_52 ?_
    refine v_istoreN hC dX1_takeEnd_53 (by decide) (lo2 := fun x9_6 => [(9, .int x9_6), (8, .ref (xad X 30)), (7, .ref (xad X 33)), (6, .ref (xad X 34)), (0, .ref (xad X 24)), (1, .ref (xad X 33)), (2, .ref (xad X 34)), (3, .int x3), (4, .int x4), (5, .int x5)]) (fun _ => rfl) (fun x9_6 e6 => ?_)
    replace h := h x9_6 e6
    refine v_aload hC 1 dX1_takeEnd_55 rfl ?_
    refine v_iload_n hC 7 dX1_takeEnd_57 rfl ?_
    refine v_iload hC 8 dX1_takeEnd_58 rfl ?_
    refine v_iadd hC dX1_takeEnd_60 ?_
    refine v_iconst hC (nI 1) dX1_takeEnd_61 rfl ?_
    refine v_isub hC dX1_takeEnd_62 ?_
    obtain ⟨hi7, h⟩ := h
    refine v_iald hC (Nat.le_of_ble_eq_true rfl) rfl rfl hi7 dX1_takeEnd_63 ?_
    refine v_aload hC 3 dX1_takeEnd_64 rfl ?_
    refine v_iload_n hC 7 dX1_takeEnd_66 rfl ?_
    obtain ⟨hi8, h⟩ := h
    refine v_iald hC (Nat.le_of_ble_eq_true rfl) rfl rfl hi8 dX1_takeEnd_67 ?_
    refine v_iadd hC dX1_takeEnd_68 ?_
    refine v_istoreN hC dX1_takeEnd_69 (by decide) (lo2 := fun x10_9 => [(10, .int x10_9), (9, .int x9_6), (8, .ref (xad X 30)), (7, .ref (xad X 33)), (6, .ref (xad X 34)), (0, .ref (xad X 24)), (1, .ref (xad X 33)), (2, .ref (xad X 34)), (3, .int x3), (4, .int x4), (5, .int x5)]) (fun _ => rfl) (fun x10_9 e9 => ?_)
    replace h := h x10_9 e9
    refine v_iload hC 0 dX1_takeEnd_71 rfl ?_
    refine v_iload hC 1 dX1_takeEnd_73 rfl ?_
    refine v_icmp_le hC 86 dX1_takeEnd_75 (by decide) (fun c10 => ?_) (fun c10 => ?_)
    · replace h := h.1 c10
      refine v_aload hC 4 dX1_takeEnd_86 rfl ?_
      refine v_iload_n hC 8 dX1_takeEnd_88 rfl ?_
      refine v_iload hC 1 dX1_takeEnd_89 rfl ?_
      obtain ⟨hi11, h⟩ := h
      refine v_iast hC (Nat.le_of_ble_eq_true rfl) rfl rfl hi11 dX1_takeEnd_91 (fun σ11 e11 => ?_)
      replace h := h σ11 e11
      refine v_aload hC 3 dX1_takeEnd_92 rfl ?_
      refine v_iload_n hC 8 dX1_takeEnd_94 rfl ?_
      refine v_aload hC 3 dX1_takeEnd_95 rfl ?_
      refine v_iload_n hC 8 dX1_takeEnd_97 rfl ?_
      refine v_iconst hC (nI 1) dX1_takeEnd_98 rfl ?_
      refine v_iadd hC dX1_takeEnd_99 ?_
      obtain ⟨hi12, h⟩ := h
      refine v_iald hC (Nat.le_of_ble_eq_true rfl) rfl rfl hi12 dX1_takeEnd_100 ?_
      obtain ⟨hi13, h⟩ := h
      refine v_iast hC (Nat.le_of_ble_eq_true rfl) rfl rfl hi13 dX1_takeEnd_101 (fun σ13 e13 => ?_)
      replace h := h σ13 e13
      refine v_iconst hC (nI 0) dX1_takeEnd_102 rfl ?_
      exact v_iret hC hR h dX1_takeEnd_103
    · replace h := h.2 c10
      refine v_aload hC 4 dX1_takeEnd_78 rfl ?_
      refine v_iload_n hC 8 dX1_takeEnd_80 rfl ?_
      refine v_iload hC 0 dX1_takeEnd_81 rfl ?_
      obtain ⟨hi14, h⟩ := h
      refine v_iast hC (Nat.le_of_ble_eq_true rfl) rfl rfl hi14 dX1_takeEnd_83 (fun σ14 e14 => ?_)
      replace h := h σ14 e14
      refine v_iconst hC (nI 1) dX1_takeEnd_84 rfl ?_
      exact v_iret hC hR h dX1_takeEnd_85
  · replace h := h.2 c1
    refine v_aload_n hC 1 dX1_takeEnd_5 rfl ?_
    refine v_goto hC 10 dX1_takeEnd_6 (by decide) ?_
    refine v_astore hC dX1_takeEnd_10 (by decide) rfl ?_
    refine v_iload hC 6 dX1_takeEnd_12 rfl ?_
    refine v_if_eq hC 21 dX1_takeEnd_14 (by decide) (fun q => absurd q c1) (fun _ => ?_)
    refine v_aload_n hC 3 dX1_takeEnd_17 rfl ?_
    refine v_goto hC 22 dX1_takeEnd_18 (by decide) ?_
    refine v_astore hC dX1_takeEnd_22 (by decide) rfl ?_
    refine v_iload hC 7 dX1_takeEnd_24 rfl ?_
    refine v_if_eq hC 36 dX1_takeEnd_26 (by decide) (fun q => absurd q c1) (fun _ => ?_)
    refine v_aload_n hC 2 dX1_takeEnd_29 rfl ?_
    refine gf_X1_24 hC dX1_takeEnd_30 ?_
    refine v_goto hC 40 dX1_takeEnd_33 (by decide) ?_
    refine v_astore hC dX1_takeEnd_40 (by decide) rfl ?_
    refine v_aload hC 0 dX1_takeEnd_42 rfl ?_
    refine v_iload_n hC 6 dX1_takeEnd_44 rfl ?_
    obtain ⟨hi17, h⟩ := h
    refine v_iald hC (Nat.le_of_ble_eq_true rfl) rfl rfl hi17 dX1_takeEnd_45 ?_
    refine v_aload hC 2 dX1_takeEnd_46 rfl ?_
    refine v_iload_n hC 6 dX1_takeEnd_48 rfl ?_
    refine v_iconst hC (nI 1) dX1_takeEnd_49 rfl ?_
    refine v_iadd hC dX1_takeEnd_50 ?_
    obtain ⟨hi18, h⟩ := h
    refine v_iald hC (Nat.le_of_ble_eq_true rfl) rfl rfl hi18 dX1_takeEnd_51 ?_
    refine v_iadd hC dX1_takeEnd_52 ?_
    refine v_istoreN hC dX1_takeEnd_53 (by decide) (lo2 := fun x9_19 => [(9, .int x9_19), (8, .ref (xad X 29)), (7, .ref (xad X 34)), (6, .ref (xad X 33)), (0, .ref (xad X 24)), (1, .ref (xad X 33)), (2, .ref (xad X 34)), (3, .int x3), (4, .int x4), (5, .int x5)]) (fun _ => rfl) (fun x9_19 e19 => ?_)
    replace h := h x9_19 e19
    refine v_aload hC 1 dX1_takeEnd_55 rfl ?_
    refine v_iload_n hC 7 dX1_takeEnd_57 rfl ?_
    refine v_iload hC 8 dX1_takeEnd_58 rfl ?_
    refine v_iadd hC dX1_takeEnd_60 ?_
    refine v_iconst hC (nI 1) dX1_takeEnd_61 rfl ?_
    refine v_isub hC dX1_takeEnd_62 ?_
    obtain ⟨hi20, h⟩ := h
    refine v_iald hC (Nat.le_of_ble_eq_true rfl) rfl rfl hi20 dX1_takeEnd_63 ?_
    refine v_aload hC 3 dX1_takeEnd_64 rfl ?_
    refine v_iload_n hC 7 dX1_takeEnd_66 rfl ?_
    obtain ⟨hi21, h⟩ := h
    refine v_iald hC (Nat.le_of_ble_eq_true rfl) rfl rfl hi21 dX1_takeEnd_67 ?_
    refine v_iadd hC dX1_takeEnd_68 ?_
    refine v_istoreN hC dX1_takeEnd_69 (by decide) (lo2 := fun x10_22 => [(10, .int x10_22), (9, .int x9_19), (8, .ref (xad X 29)), (7, .ref (xad X 34)), (6, .ref (xad X 33)), (0, .ref (xad X 24)), (1, .ref (xad X 33)), (2, .ref (xad X 34)), (3, .int x3), (4, .int x4), (5, .int x5)]) (fun _ => rfl) (fun x10_22 e22 => ?_)
    replace h := h x10_22 e22
    refine v_iload hC 0 dX1_takeEnd_71 rfl ?_
    refine v_iload hC 1 dX1_takeEnd_73 rfl ?_
    refine v_icmp_le hC 86 dX1_takeEnd_75 (by decide) (fun c23 => ?_) (fun c23 => ?_)
    · replace h := h.1 c23
      refine v_aload hC 4 dX1_takeEnd_86 rfl ?_
      refine v_iload_n hC 8 dX1_takeEnd_88 rfl ?_
      refine v_iload hC 1 dX1_takeEnd_89 rfl ?_
      obtain ⟨hi24, h⟩ := h
      refine v_iast hC (Nat.le_of_ble_eq_true rfl) rfl rfl hi24 dX1_takeEnd_91 (fun σ24 e24 => ?_)
      replace h := h σ24 e24
      refine v_aload hC 3 dX1_takeEnd_92 rfl ?_
      refine v_iload_n hC 8 dX1_takeEnd_94 rfl ?_
      refine v_aload hC 3 dX1_takeEnd_95 rfl ?_
      refine v_iload_n hC 8 dX1_takeEnd_97 rfl ?_
      refine v_iconst hC (nI 1) dX1_takeEnd_98 rfl ?_
      refine v_iadd hC dX1_takeEnd_99 ?_
      obtain ⟨hi25, h⟩ := h
      refine v_iald hC (Nat.le_of_ble_eq_true rfl) rfl rfl hi25 dX1_takeEnd_100 ?_
      obtain ⟨hi26, h⟩ := h
      refine v_iast hC (Nat.le_of_ble_eq_true rfl) rfl rfl hi26 dX1_takeEnd_101 (fun σ26 e26 => ?_)
      replace h := h σ26 e26
      refine v_iconst hC (nI 0) dX1_takeEnd_102 rfl ?_
      exact v_iret hC hR h dX1_takeEnd_103
    · replace h := h.2 c23
      refine v_aload hC 4 dX1_takeEnd_78 rfl ?_
      refine v_iload_n hC 8 dX1_takeEnd_80 rfl ?_
      refine v_iload hC 0 dX1_takeEnd_81 rfl ?_
      obtain ⟨hi27, h⟩ := h
      refine v_iast hC (Nat.le_of_ble_eq_true rfl) rfl rfl hi27 dX1_takeEnd_83 (fun σ27 e27 => ?_)
      replace h := h σ27 e27
      refine v_iconst hC (nI 1) dX1_takeEnd_84 rfl ?_
      exact v_iret hC hR h dX1_takeEnd_85
def rmD_playWithPass : Room := { frames := 1, cells := 0, slots := 0, locals := 30 }
def wD_playWithPass_l61 (Q : gM → Prop) (K26 : Int32 → gM → Prop) : Nat → Int32 → Int32 → Int32 → Int32 → gM → Prop
  | 0, _, _, _, _, _ => False
  | n + 1, x1, x2, x3, x4, σ =>
    ((σ 24 4) < (x4 + x1) → (∀ x1_11 : Int32, x1_11 = x1 + (nI 1) → (K26 x1_11 σ))) ∧ (¬ ((σ 24 4) < (x4 + x1)) → (wD_takeEnd_33_34 x4 x1 x3 σ (fun (r13 : Int32) (σ13 : gM) => wD_takeEnd_31_32 x4 x1 x2 σ13 (fun (r15 : Int32) (σ15 : gM) => (x2 = nI 0 → (∀ x4_17 : Int32, x4_17 = x4 + (nI 1) → (wD_playWithPass_l61 Q K26 n x1 x2 x3 x4_17 σ15))) ∧ (¬ (x2 = nI 0) → (vp_in x4 17 ∧ (vp_in x4 17 ∧ (((σ15 33 x4.toNatClampNeg) ≤ (σ15 31 x4.toNatClampNeg) → (∀ x4_21 : Int32, x4_21 = x4 + (nI 1) → (wD_playWithPass_l61 Q K26 n x1 x2 x3 x4_21 σ15))) ∧ (¬ ((σ15 33 x4.toNatClampNeg) ≤ (σ15 31 x4.toNatClampNeg)) → (vp_in x4 17 ∧ (vp_in x4 17 ∧ (∀ σ23 : gM, σ23 = gU σ15 31 x4.toNatClampNeg (σ15 33 x4.toNatClampNeg) → (vp_in x4 17 ∧ (vp_in x4 17 ∧ (∀ σ25 : gM, σ25 = gU σ23 32 x4.toNatClampNeg (σ23 34 x4.toNatClampNeg) → (∀ x4_26 : Int32, x4_26 = x4 + (nI 1) → (wD_playWithPass_l61 Q K26 n x1 x2 x3 x4_26 σ25)))))))))))))))))
def wD_playWithPass_l26 (Q : gM → Prop)  : Nat → Int32 → gM → Prop
  | 0, _, _ => False
  | n + 1, x1, σ =>
    ((σ 24 4) < x1 → (Q σ)) ∧ (¬ ((σ 24 4) < x1) → (wD_isTurnOfA ((σ 24 4) - x1) σ (fun (r7 : Int32) (σ7 : gM) => wD_isTurnOfA (((σ7 24 4) - x1) + (nI 1)) σ7 (fun (r9 : Int32) (σ9 : gM) => ∃ n27 : Nat, wD_playWithPass_l61 Q (wD_playWithPass_l26 Q n) n27 x1 r7 r9 (nI 0) σ9))))
def wD_playWithPass  (σ : gM) (Q : gM → Prop) : Prop :=
    wD_clearGains_31_32  σ (fun (σ2 : gM) => wD_clearGains_33_34  σ2 (fun (σ4 : gM) => ∃ n28 : Nat, wD_playWithPass_l26 Q n28 (nI 1) σ4))
set_option maxHeartbeats 4000000 in
set_option maxRecDepth 100000 in
theorem tD_playWithPass_l61 {X : gX} {Q : gM → Prop} (hC : VC X cX1_playWithPass RX1 5 rmD_playWithPass) (hR : VR X none (gPv Q)) {K26 : Int32 → gM → Prop} (hK26 : ∀ (x1 : Int32) (σ : gM), K26 x1 σ → V X 5 26 [(0, .ref (xad X 24)), (1, .int x1)] [] σ) : ∀ (n : Nat) (x1 : Int32) (x2 : Int32) (x3 : Int32) (x4 : Int32) (σ : gM), wD_playWithPass_l61 Q K26 n x1 x2 x3 x4 σ → V X 5 61 [(0, .ref (xad X 24)), (1, .int x1), (2, .int x2), (3, .int x3), (4, .int x4)] [] σ := by
  intro n
  induction n with
  | zero => intro x1 x2 x3 x4 σ h; exact h.elim
  | succ n ih =>
    intro x1 x2 x3 x4 σ h
    replace h : ((σ 24 4) < (x4 + x1) → (∀ x1_11 : Int32, x1_11 = x1 + (nI 1) → (K26 x1_11 σ))) ∧ (¬ ((σ 24 4) < (x4 + x1)) → (wD_takeEnd_33_34 x4 x1 x3 σ (fun (r13 : Int32) (σ13 : gM) => wD_takeEnd_31_32 x4 x1 x2 σ13 (fun (r15 : Int32) (σ15 : gM) => (x2 = nI 0 → (∀ x4_17 : Int32, x4_17 = x4 + (nI 1) → (wD_playWithPass_l61 Q K26 n x1 x2 x3 x4_17 σ15))) ∧ (¬ (x2 = nI 0) → (vp_in x4 17 ∧ (vp_in x4 17 ∧ (((σ15 33 x4.toNatClampNeg) ≤ (σ15 31 x4.toNatClampNeg) → (∀ x4_21 : Int32, x4_21 = x4 + (nI 1) → (wD_playWithPass_l61 Q K26 n x1 x2 x3 x4_21 σ15))) ∧ (¬ ((σ15 33 x4.toNatClampNeg) ≤ (σ15 31 x4.toNatClampNeg)) → (vp_in x4 17 ∧ (vp_in x4 17 ∧ (∀ σ23 : gM, σ23 = gU σ15 31 x4.toNatClampNeg (σ15 33 x4.toNatClampNeg) → (vp_in x4 17 ∧ (vp_in x4 17 ∧ (∀ σ25 : gM, σ25 = gU σ23 32 x4.toNatClampNeg (σ23 34 x4.toNatClampNeg) → (∀ x4_26 : Int32, x4_26 = x4 + (nI 1) → (wD_playWithPass_l61 Q K26 n x1 x2 x3 x4_26 σ25))))))))))))))))) := h
    refine v_iload hC 4 dX1_playWithPass_61 rfl ?_
    refine v_iload_n hC 1 dX1_playWithPass_63 rfl ?_
    refine v_iadd hC dX1_playWithPass_64 ?_
    refine v_aload_n hC 0 dX1_playWithPass_65 rfl ?_
    refine gf_X1_52 hC dX1_playWithPass_66 ?_
    refine v_icmp_gt hC 161 dX1_playWithPass_69 (by decide) (fun c10 => ?_) (fun c10 => ?_)
    · replace h := h.1 c10
      refine v_iincN hC (nI 1) 1 dX1_playWithPass_161 rfl rfl (by decide) (lo2 := fun x1_11 => [(1, .int x1_11), (0, .ref (xad X 24)), (2, .int x2), (3, .int x3), (4, .int x4)]) (fun _ => rfl) (fun x1_11 e11 => ?_)
      replace h := h x1_11 e11
      refine v_goto hC 26 dX1_playWithPass_164 (by decide) ?_
      exact V.sub [1, 0] rfl (hK26 _ _ h)
    · replace h := h.2 c10
      refine v_aload_n hC 0 dX1_playWithPass_72 rfl ?_
      refine v_aload_n hC 0 dX1_playWithPass_73 rfl ?_
      refine gf_X1_36 hC dX1_playWithPass_74 ?_
      refine v_aload_n hC 0 dX1_playWithPass_77 rfl ?_
      refine gf_X1_39 hC dX1_playWithPass_78 ?_
      refine v_iload hC 4 dX1_playWithPass_81 rfl ?_
      refine v_iload_n hC 1 dX1_playWithPass_83 rfl ?_
      refine v_iload_n hC 3 dX1_playWithPass_84 rfl ?_
      refine v_callV hC (kD_takeEnd_33_34 _ _ _ _ _ h) cmD_takeEnd ⟨kw726, kw24⟩ kw724 ⟨Nat.le_of_ble_eq_true rfl, Nat.le_of_ble_eq_true rfl⟩ (Nat.le_of_ble_eq_true rfl) rfl (ci := 1) (T := TX1) (N := 14) rfl (As := fun G => [.ref (gad G 33), .ref (gad G 34), .int x4, .int x1, .int x3]) (fun _ => rfl) (fun _ => rfl) (st := []) (Nat.le_of_ble_eq_true rfl) rfl dX1_playWithPass_85 (kk_i (fun r13 σ13 h => ?_))
      refine v_pop hC dX1_playWithPass_88 rfl ?_
      refine v_aload_n hC 0 dX1_playWithPass_89 rfl ?_
      refine v_aload_n hC 0 dX1_playWithPass_90 rfl ?_
      refine gf_X1_30 hC dX1_playWithPass_91 ?_
      refine v_aload_n hC 0 dX1_playWithPass_94 rfl ?_
      refine gf_X1_33 hC dX1_playWithPass_95 ?_
      refine v_iload hC 4 dX1_playWithPass_98 rfl ?_
      refine v_iload_n hC 1 dX1_playWithPass_100 rfl ?_
      refine v_iload_n hC 2 dX1_playWithPass_101 rfl ?_
      refine v_callV hC (kD_takeEnd_31_32 _ _ _ _ _ h) cmD_takeEnd ⟨kw726, kw24⟩ kw724 ⟨Nat.le_of_ble_eq_true rfl, Nat.le_of_ble_eq_true rfl⟩ (Nat.le_of_ble_eq_true rfl) rfl (ci := 1) (T := TX1) (N := 14) rfl (As := fun G => [.ref (gad G 31), .ref (gad G 32), .int x4, .int x1, .int x2]) (fun _ => rfl) (fun _ => rfl) (st := []) (Nat.le_of_ble_eq_true rfl) rfl dX1_playWithPass_102 (kk_i (fun r15 σ15 h => ?_))
      refine v_pop hC dX1_playWithPass_105 rfl ?_
      refine v_iload_n hC 2 dX1_playWithPass_106 rfl ?_
      refine v_if_eq hC 155 dX1_playWithPass_107 (by decide) (fun c16 => ?_) (fun c16 => ?_)
      · replace h := h.1 c16
        refine v_iincN hC (nI 1) 4 dX1_playWithPass_155 rfl rfl (by decide) (lo2 := fun x4_17 => [(4, .int x4_17), (0, .ref (xad X 24)), (1, .int x1), (2, .int x2), (3, .int x3)]) (fun _ => rfl) (fun x4_17 e17 => ?_)
        replace h := h x4_17 e17
        refine v_goto hC 61 dX1_playWithPass_158 (by decide) ?_
        exact V.sub [1, 2, 3, 4, 0] rfl (ih _ _ _ _ _ h)
      · replace h := h.2 c16
        refine v_aload_n hC 0 dX1_playWithPass_110 rfl ?_
        refine gf_X1_36 hC dX1_playWithPass_111 ?_
        refine v_iload hC 4 dX1_playWithPass_114 rfl ?_
        obtain ⟨hi18, h⟩ := h
        refine v_iald hC (Nat.le_of_ble_eq_true rfl) rfl rfl hi18 dX1_playWithPass_116 ?_
        refine v_aload_n hC 0 dX1_playWithPass_117 rfl ?_
        refine gf_X1_30 hC dX1_playWithPass_118 ?_
        refine v_iload hC 4 dX1_playWithPass_121 rfl ?_
        obtain ⟨hi19, h⟩ := h
        refine v_iald hC (Nat.le_of_ble_eq_true rfl) rfl rfl hi19 dX1_playWithPass_123 ?_
        refine v_icmp_le hC 155 dX1_playWithPass_124 (by decide) (fun c20 => ?_) (fun c20 => ?_)
        · replace h := h.1 c20
          refine v_iincN hC (nI 1) 4 dX1_playWithPass_155 rfl rfl (by decide) (lo2 := fun x4_21 => [(4, .int x4_21), (0, .ref (xad X 24)), (1, .int x1), (2, .int x2), (3, .int x3)]) (fun _ => rfl) (fun x4_21 e21 => ?_)
          replace h := h x4_21 e21
          refine v_goto hC 61 dX1_playWithPass_158 (by decide) ?_
          exact V.sub [1, 2, 3, 4, 0] rfl (ih _ _ _ _ _ h)
        · replace h := h.2 c20
          refine v_aload_n hC 0 dX1_playWithPass_127 rfl ?_
          refine gf_X1_30 hC dX1_playWithPass_128 ?_
          refine v_iload hC 4 dX1_playWithPass_131 rfl ?_
          refine v_aload_n hC 0 dX1_playWithPass_133 rfl ?_
          refine gf_X1_36 hC dX1_playWithPass_134 ?_
          refine v_iload hC 4 dX1_playWithPass_137 rfl ?_
          obtain ⟨hi22, h⟩ := h
          refine v_iald hC (Nat.le_of_ble_eq_true rfl) rfl rfl hi22 dX1_playWithPass_139 ?_
          obtain ⟨hi23, h⟩ := h
          refine v_iast hC (Nat.le_of_ble_eq_true rfl) rfl rfl hi23 dX1_playWithPass_140 (fun σ23 e23 => ?_)
          replace h := h σ23 e23
          refine v_aload_n hC 0 dX1_playWithPass_141 rfl ?_
          refine gf_X1_33 hC dX1_playWithPass_142 ?_
          refine v_iload hC 4 dX1_playWithPass_145 rfl ?_
          refine v_aload_n hC 0 dX1_playWithPass_147 rfl ?_
          refine gf_X1_39 hC dX1_playWithPass_148 ?_
          refine v_iload hC 4 dX1_playWithPass_151 rfl ?_
          obtain ⟨hi24, h⟩ := h
          refine v_iald hC (Nat.le_of_ble_eq_true rfl) rfl rfl hi24 dX1_playWithPass_153 ?_
          obtain ⟨hi25, h⟩ := h
          refine v_iast hC (Nat.le_of_ble_eq_true rfl) rfl rfl hi25 dX1_playWithPass_154 (fun σ25 e25 => ?_)
          replace h := h σ25 e25
          refine v_iincN hC (nI 1) 4 dX1_playWithPass_155 rfl rfl (by decide) (lo2 := fun x4_26 => [(4, .int x4_26), (0, .ref (xad X 24)), (1, .int x1), (2, .int x2), (3, .int x3)]) (fun _ => rfl) (fun x4_26 e26 => ?_)
          replace h := h x4_26 e26
          refine v_goto hC 61 dX1_playWithPass_158 (by decide) ?_
          exact V.sub [1, 2, 3, 4, 0] rfl (ih _ _ _ _ _ h)
set_option maxHeartbeats 4000000 in
set_option maxRecDepth 100000 in
theorem tD_playWithPass_l26 {X : gX} {Q : gM → Prop} (hC : VC X cX1_playWithPass RX1 5 rmD_playWithPass) (hR : VR X none (gPv Q))  : ∀ (n : Nat) (x1 : Int32) (σ : gM), wD_playWithPass_l26 Q  n x1 σ → V X 5 26 [(0, .ref (xad X 24)), (1, .int x1)] [] σ := by
  intro n
  induction n with
  | zero => intro x1 σ h; exact h.elim
  | succ n ih =>
    intro x1 σ h
    replace h : ((σ 24 4) < x1 → (Q σ)) ∧ (¬ ((σ 24 4) < x1) → (wD_isTurnOfA ((σ 24 4) - x1) σ (fun (r7 : Int32) (σ7 : gM) => wD_isTurnOfA (((σ7 24 4) - x1) + (nI 1)) σ7 (fun (r9 : Int32) (σ9 : gM) => ∃ n27 : Nat, wD_playWithPass_l61 Q (wD_playWithPass_l26 Q n) n27 x1 r7 r9 (nI 0) σ9)))) := h
    refine v_iload_n hC 1 dX1_playWithPass_26 rfl ?_
    refine v_aload_n hC 0 dX1_playWithPass_27 rfl ?_
    refine gf_X1_52 hC dX1_playWithPass_28 ?_
    refine v_icmp_gt hC 167 dX1_playWithPass_31 (by decide) (fun c5 => ?_) (fun c5 => ?_)
    · replace h := h.1 c5
      exact v_vret hC hR h dX1_playWithPass_167
    · replace h := h.2 c5
      refine v_aload_n hC 0 dX1_playWithPass_34 rfl ?_
      refine v_aload_n hC 0 dX1_playWithPass_35 rfl ?_
      refine gf_X1_52 hC dX1_playWithPass_36 ?_
      refine v_iload_n hC 1 dX1_playWithPass_39 rfl ?_
      refine v_isub hC dX1_playWithPass_40 ?_
      refine v_callV hC (kD_isTurnOfA _ _ _ h) cmD_isTurnOfA ⟨kw722, kw23⟩ kw720 ⟨Nat.le_of_ble_eq_true rfl, Nat.le_of_ble_eq_true rfl⟩ (Nat.le_of_ble_eq_true rfl) rfl (ci := 1) (T := TX1) (N := 14) rfl (As := fun G => [.int ((σ 24 4) - x1)]) (fun _ => rfl) (fun _ => rfl) (st := []) (Nat.le_of_ble_eq_true rfl) rfl dX1_playWithPass_41 (kk_i (fun r7 σ7 h => ?_))
      refine v_istore_n hC dX1_playWithPass_44 (by decide) rfl ?_
      refine v_aload_n hC 1 dX1_playWithPass_45 rfl ?_
      refine v_aload_n hC 1 dX1_playWithPass_46 rfl ?_
      refine gf_X1_52 hC dX1_playWithPass_47 ?_
      refine v_iload_n hC 2 dX1_playWithPass_50 rfl ?_
      refine v_isub hC dX1_playWithPass_51 ?_
      refine v_iconst hC (nI 1) dX1_playWithPass_52 rfl ?_
      refine v_iadd hC dX1_playWithPass_53 ?_
      refine v_callV hC (kD_isTurnOfA _ _ _ h) cmD_isTurnOfA ⟨kw722, kw23⟩ kw720 ⟨Nat.le_of_ble_eq_true rfl, Nat.le_of_ble_eq_true rfl⟩ (Nat.le_of_ble_eq_true rfl) rfl (ci := 1) (T := TX1) (N := 14) rfl (As := fun G => [.int (((σ7 24 4) - x1) + (nI 1))]) (fun _ => rfl) (fun _ => rfl) (st := []) (Nat.le_of_ble_eq_true rfl) rfl dX1_playWithPass_54 (kk_i (fun r9 σ9 h => ?_))
      refine v_istore_n hC dX1_playWithPass_57 (by decide) rfl ?_
      refine v_iconst hC (nI 0) dX1_playWithPass_58 rfl ?_
      refine v_istore hC dX1_playWithPass_59 (by decide) rfl ?_
      obtain ⟨n27, h⟩ := h
      exact V.sub [3, 4, 2, 1, 0] rfl (tD_playWithPass_l61 hC hR ih n27 _ _ _ _ _ h)
set_option maxHeartbeats 4000000 in
set_option maxRecDepth 100000 in
theorem kD_playWithPass  (σ : gM) (Q : gM → Prop) (h : wD_playWithPass  σ Q) : CT yX1_playWithPass cX1_playWithPass 5 none rmD_playWithPass (fun G => [.ref (gad G 24)]) σ (gPv Q) := by
  refine c_enter (by decide) (fun _ => Nat.le_of_ble_eq_true rfl) (fun X hC hR => ?_)
  show V X 5 0 [(0, .ref (xad X 24))] [] σ
  replace h : wD_clearGains_31_32  σ (fun (σ2 : gM) => wD_clearGains_33_34  σ2 (fun (σ4 : gM) => ∃ n28 : Nat, wD_playWithPass_l26 Q n28 (nI 1) σ4)) := h
  refine v_aload_n hC 0 dX1_playWithPass_0 rfl ?_
  refine v_aload_n hC 0 dX1_playWithPass_1 rfl ?_
  refine gf_X1_30 hC dX1_playWithPass_2 ?_
  refine v_aload_n hC 0 dX1_playWithPass_5 rfl ?_
  refine gf_X1_33 hC dX1_playWithPass_6 ?_
  refine v_callV hC (kD_clearGains_31_32  _ _ h) cmD_clearGains ⟨kw718, kw22⟩ kw716 ⟨Nat.le_of_ble_eq_true rfl, Nat.le_of_ble_eq_true rfl⟩ (Nat.le_of_ble_eq_true rfl) rfl (ci := 1) (T := TX1) (N := 14) rfl (As := fun G => [.ref (gad G 31), .ref (gad G 32)]) (fun _ => rfl) (fun _ => rfl) (st := []) (Nat.le_of_ble_eq_true rfl) rfl dX1_playWithPass_9 (kk_v (fun σ2 h => ?_))
  refine v_aload_n hC 0 dX1_playWithPass_12 rfl ?_
  refine v_aload_n hC 0 dX1_playWithPass_13 rfl ?_
  refine gf_X1_36 hC dX1_playWithPass_14 ?_
  refine v_aload_n hC 0 dX1_playWithPass_17 rfl ?_
  refine gf_X1_39 hC dX1_playWithPass_18 ?_
  refine v_callV hC (kD_clearGains_33_34  _ _ h) cmD_clearGains ⟨kw718, kw22⟩ kw716 ⟨Nat.le_of_ble_eq_true rfl, Nat.le_of_ble_eq_true rfl⟩ (Nat.le_of_ble_eq_true rfl) rfl (ci := 1) (T := TX1) (N := 14) rfl (As := fun G => [.ref (gad G 33), .ref (gad G 34)]) (fun _ => rfl) (fun _ => rfl) (st := []) (Nat.le_of_ble_eq_true rfl) rfl dX1_playWithPass_21 (kk_v (fun σ4 h => ?_))
  refine v_iconst hC (nI 1) dX1_playWithPass_24 rfl ?_
  refine v_istore_n hC dX1_playWithPass_25 (by decide) rfl ?_
  obtain ⟨n28, h⟩ := h
  exact V.sub [1, 0] rfl (tD_playWithPass_l26 hC hR  n28 _ _ h)
theorem cmD_playWithPass : CM yX1_playWithPass cX1_playWithPass 5 none rmD_playWithPass 0 := ⟨kw79, kw743, rfl, rfl, by decide, by decide, by decide +kernel⟩
def rmH_passBy : Room := { frames := 4, cells := 0, slots := 0, locals := 111 }
def wH_passBy (x1 : Int32) (x2 : Int32) (σ : gM) (Q : Int32 → gM → Prop) : Prop :=
    wH_areNoTwo x1 x2 σ (fun (r2 : Int32) (σ2 : gM) => (r2 = nI 0 → (wD_seat x1 x2 σ2 (fun (σ5 : gM) => wD_lineUpFrom (nI 0) σ5 (fun (σ7 : gM) => wD_play  σ7 (fun (σ9 : gM) => wD_gainOfA  σ9 (fun (r11 : Int32) (σ11 : gM) => wD_playWithPass  σ11 (fun (σ13 : gM) => wD_gainOfA  σ13 (fun (r15 : Int32) (σ15 : gM) => Q (if (nI 0) < (r15 - r11) then (r15 - r11) else (nI 0)) σ15)))))))) ∧ (¬ (r2 = nI 0) → (Q (-1000001 : Int32) σ2)))
set_option maxHeartbeats 4000000 in
set_option maxRecDepth 100000 in
theorem kH_passBy (x1 : Int32) (x2 : Int32) (σ : gM) (Q : Int32 → gM → Prop) (h : wH_passBy x1 x2 σ Q) : CT yX6_passBy cX6_passBy 4 (some .int) rmH_passBy (fun G => [.ref (gad G 0), .int x1, .int x2]) σ (gPi Q) := by
  refine c_enter (by decide) (fun _ => Nat.le_of_ble_eq_true rfl) (fun X hC hR => ?_)
  show V X 4 0 [(0, .ref (xad X 0)), (1, .int x1), (2, .int x2)] [] σ
  replace h : wH_areNoTwo x1 x2 σ (fun (r2 : Int32) (σ2 : gM) => (r2 = nI 0 → (wD_seat x1 x2 σ2 (fun (σ5 : gM) => wD_lineUpFrom (nI 0) σ5 (fun (σ7 : gM) => wD_play  σ7 (fun (σ9 : gM) => wD_gainOfA  σ9 (fun (r11 : Int32) (σ11 : gM) => wD_playWithPass  σ11 (fun (σ13 : gM) => wD_gainOfA  σ13 (fun (r15 : Int32) (σ15 : gM) => Q (if (nI 0) < (r15 - r11) then (r15 - r11) else (nI 0)) σ15)))))))) ∧ (¬ (r2 = nI 0) → (Q (-1000001 : Int32) σ2))) := h
  refine v_aload_n hC 0 dX6_passBy_0 rfl ?_
  refine v_iload_n hC 1 dX6_passBy_1 rfl ?_
  refine v_iload_n hC 2 dX6_passBy_2 rfl ?_
  refine v_callV hC (kH_areNoTwo _ _ _ _ h) cmH_areNoTwo ⟨kw700, kw21⟩ kw698 ⟨Nat.le_of_ble_eq_true rfl, Nat.le_of_ble_eq_true rfl⟩ (Nat.le_of_ble_eq_true rfl) rfl (ci := 6) (T := TX6) (N := 12) rfl (As := fun G => [.int x1, .int x2]) (fun _ => rfl) (fun _ => rfl) (st := []) (Nat.le_of_ble_eq_true rfl) rfl dX6_passBy_3 (kk_i (fun r2 σ2 h => ?_))
  refine v_if_eq hC 12 dX6_passBy_6 (by decide) (fun c3 => ?_) (fun c3 => ?_)
  · replace h := h.1 c3
    refine v_aload_n hC 0 dX6_passBy_12 rfl ?_
    refine gf_X6_46 hC dX6_passBy_13 ?_
    refine v_aload_n hC 0 dX6_passBy_16 rfl ?_
    refine gf_X6_25 hC dX6_passBy_17 ?_
    refine v_iload_n hC 1 dX6_passBy_20 rfl ?_
    refine v_iload_n hC 2 dX6_passBy_21 rfl ?_
    refine v_callV hC (kD_seat _ _ _ _ h) cmD_seat ⟨kw703, kw704⟩ kw702 ⟨Nat.le_of_ble_eq_true rfl, Nat.le_of_ble_eq_true rfl⟩ (Nat.le_of_ble_eq_true rfl) rfl (ci := 1) (T := TX1) (N := 14) rfl (As := fun G => [.ref (gad G 42), .int x1, .int x2]) (fun _ => rfl) (fun _ => rfl) (st := []) (Nat.le_of_ble_eq_true rfl) rfl dX6_passBy_22 (kk_v (fun σ5 h => ?_))
    refine v_aload_n hC 0 dX6_passBy_25 rfl ?_
    refine gf_X6_46 hC dX6_passBy_26 ?_
    refine v_iconst hC (nI 0) dX6_passBy_29 rfl ?_
    refine v_callV hC (kD_lineUpFrom _ _ _ h) cmD_lineUpFrom ⟨kw708, kw709⟩ kw707 ⟨Nat.le_of_ble_eq_true rfl, Nat.le_of_ble_eq_true rfl⟩ (Nat.le_of_ble_eq_true rfl) rfl (ci := 1) (T := TX1) (N := 14) rfl (As := fun G => [.int (nI 0)]) (fun _ => rfl) (fun _ => rfl) (st := []) (Nat.le_of_ble_eq_true rfl) rfl dX6_passBy_30 (kk_v (fun σ7 h => ?_))
    refine v_aload_n hC 0 dX6_passBy_33 rfl ?_
    refine gf_X6_46 hC dX6_passBy_34 ?_
    refine v_callV hC (kD_play  _ _ h) cmD_play ⟨kw712, kw713⟩ kw711 ⟨Nat.le_of_ble_eq_true rfl, Nat.le_of_ble_eq_true rfl⟩ (Nat.le_of_ble_eq_true rfl) rfl (ci := 1) (T := TX1) (N := 14) rfl (As := fun G => []) (fun _ => rfl) (fun _ => rfl) (st := []) (Nat.le_of_ble_eq_true rfl) rfl dX6_passBy_37 (kk_v (fun σ9 h => ?_))
    refine v_aload_n hC 0 dX6_passBy_40 rfl ?_
    refine gf_X6_46 hC dX6_passBy_41 ?_
    refine v_callV hC (kD_gainOfA  _ _ h) cmD_gainOfA ⟨kw729, kw730⟩ kw728 ⟨Nat.le_of_ble_eq_true rfl, Nat.le_of_ble_eq_true rfl⟩ (Nat.le_of_ble_eq_true rfl) rfl (ci := 1) (T := TX1) (N := 14) rfl (As := fun G => []) (fun _ => rfl) (fun _ => rfl) (st := []) (Nat.le_of_ble_eq_true rfl) rfl dX6_passBy_44 (kk_i (fun r11 σ11 h => ?_))
    refine v_istore_n hC dX6_passBy_47 (by decide) rfl ?_
    refine v_aload_n hC 1 dX6_passBy_48 rfl ?_
    refine gf_X6_46 hC dX6_passBy_49 ?_
    refine v_callV hC (kD_playWithPass  _ _ h) cmD_playWithPass ⟨kw741, kw742⟩ kw740 ⟨Nat.le_of_ble_eq_true rfl, Nat.le_of_ble_eq_true rfl⟩ (Nat.le_of_ble_eq_true rfl) rfl (ci := 1) (T := TX1) (N := 14) rfl (As := fun G => []) (fun _ => rfl) (fun _ => rfl) (st := []) (Nat.le_of_ble_eq_true rfl) rfl dX6_passBy_52 (kk_v (fun σ13 h => ?_))
    refine v_iconst hC (nI 0) dX6_passBy_55 rfl ?_
    refine v_aload_n hC 1 dX6_passBy_56 rfl ?_
    refine gf_X6_46 hC dX6_passBy_57 ?_
    refine v_callV hC (kD_gainOfA  _ _ h) cmD_gainOfA ⟨kw729, kw730⟩ kw728 ⟨Nat.le_of_ble_eq_true rfl, Nat.le_of_ble_eq_true rfl⟩ (Nat.le_of_ble_eq_true rfl) rfl (ci := 1) (T := TX1) (N := 14) rfl (As := fun G => []) (fun _ => rfl) (fun _ => rfl) (st := [.int (nI 0)]) (Nat.le_of_ble_eq_true rfl) rfl dX6_passBy_60 (kk_i (fun r15 σ15 h => ?_))
    refine v_iload_n hC 0 dX6_passBy_63 rfl ?_
    refine v_isub hC dX6_passBy_64 ?_
    refine v_mmax hC kw744 kw611 kw89 kw612 (Nat.le_of_ble_eq_true rfl) (Nat.le_of_ble_eq_true rfl) dX6_passBy_65 ?_
    exact v_iret hC hR h dX6_passBy_68
  · replace h := h.2 c3
    refine v_ldc hC kw377 dX6_passBy_9 ?_
    exact v_iret hC hR h dX6_passBy_11
theorem cmH_passBy : CM yX6_passBy cX6_passBy 4 (some .int) rmH_passBy 2 := ⟨kw75, kw739, rfl, rfl, by decide, by decide, by decide +kernel⟩
def rmD_swap : Room := { frames := 0, cells := 0, slots := 0, locals := 0 }
def wD_swap (x1 : Int32) (x2 : Int32) (σ : gM) (Q : gM → Prop) : Prop :=
    vp_in x1 16 ∧ (∀ x3_2 : Int32, x3_2 = (σ 26 x1.toNatClampNeg) → (vp_in x2 16 ∧ (vp_in x1 16 ∧ (∀ σ4 : gM, σ4 = gU σ 26 x1.toNatClampNeg (σ 26 x2.toNatClampNeg) → (vp_in x2 16 ∧ (∀ σ5 : gM, σ5 = gU σ4 26 x2.toNatClampNeg x3_2 → (Q σ5)))))))
set_option maxHeartbeats 4000000 in
set_option maxRecDepth 100000 in
theorem kD_swap (x1 : Int32) (x2 : Int32) (σ : gM) (Q : gM → Prop) (h : wD_swap x1 x2 σ Q) : CT yX1_swap cX1_swap 4 none rmD_swap (fun G => [.ref (gad G 24), .int x1, .int x2]) σ (gPv Q) := by
  refine c_enter (by decide) (fun _ => Nat.le_of_ble_eq_true rfl) (fun X hC hR => ?_)
  show V X 4 0 [(0, .ref (xad X 24)), (1, .int x1), (2, .int x2)] [] σ
  replace h : vp_in x1 16 ∧ (∀ x3_2 : Int32, x3_2 = (σ 26 x1.toNatClampNeg) → (vp_in x2 16 ∧ (vp_in x1 16 ∧ (∀ σ4 : gM, σ4 = gU σ 26 x1.toNatClampNeg (σ 26 x2.toNatClampNeg) → (vp_in x2 16 ∧ (∀ σ5 : gM, σ5 = gU σ4 26 x2.toNatClampNeg x3_2 → (Q σ5))))))) := h
  refine v_aload_n hC 0 dX1_swap_0 rfl ?_
  refine gf_X1_15 hC dX1_swap_1 ?_
  refine v_iload_n hC 1 dX1_swap_4 rfl ?_
  obtain ⟨hi1, h⟩ := h
  refine v_iald hC (Nat.le_of_ble_eq_true rfl) rfl rfl hi1 dX1_swap_5 ?_
  refine v_istore_nN hC dX1_swap_6 (by decide) (lo2 := fun x3_2 => [(3, .int x3_2), (0, .ref (xad X 24)), (1, .int x1), (2, .int x2)]) (fun _ => rfl) (fun x3_2 e2 => ?_)
  replace h := h x3_2 e2
  refine v_aload_n hC 1 dX1_swap_7 rfl ?_
  refine gf_X1_15 hC dX1_swap_8 ?_
  refine v_iload_n hC 2 dX1_swap_11 rfl ?_
  refine v_aload_n hC 1 dX1_swap_12 rfl ?_
  refine gf_X1_15 hC dX1_swap_13 ?_
  refine v_iload_n hC 3 dX1_swap_16 rfl ?_
  obtain ⟨hi3, h⟩ := h
  refine v_iald hC (Nat.le_of_ble_eq_true rfl) rfl rfl hi3 dX1_swap_17 ?_
  obtain ⟨hi4, h⟩ := h
  refine v_iast hC (Nat.le_of_ble_eq_true rfl) rfl rfl hi4 dX1_swap_18 (fun σ4 e4 => ?_)
  replace h := h σ4 e4
  refine v_aload_n hC 1 dX1_swap_19 rfl ?_
  refine gf_X1_15 hC dX1_swap_20 ?_
  refine v_iload_n hC 3 dX1_swap_23 rfl ?_
  refine v_iload_n hC 0 dX1_swap_24 rfl ?_
  obtain ⟨hi5, h⟩ := h
  refine v_iast hC (Nat.le_of_ble_eq_true rfl) rfl rfl hi5 dX1_swap_25 (fun σ5 e5 => ?_)
  replace h := h σ5 e5
  exact v_vret hC hR h dX1_swap_26
theorem cmD_swap : CM yX1_swap cX1_swap 4 none rmD_swap 2 := ⟨kw79, kw760, rfl, rfl, by decide, by decide, by decide +kernel⟩
