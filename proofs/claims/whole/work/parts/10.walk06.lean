def rmD_sortHeap : Room := { frames := 1, cells := 0, slots := 0, locals := 23 }
def wD_sortHeap_l12 (Q : gM → Prop) (K2 : Int32 → gM → Prop) : Nat → Int32 → Int32 → gM → Prop
  | 0, _, _, _ => False
  | n + 1, x1, x2, σ =>
    (x2 ≤ nI 0 → (∀ x1_3 : Int32, x1_3 = x1 + (nI 1) → (K2 x1_3 σ))) ∧ (¬ (x2 ≤ nI 0) → (vp_in (x2 - (nI 1)) 16 ∧ (vp_in x2 16 ∧ (((σ 26 (x2 - (nI 1)).toNatClampNeg) ≤ (σ 26 x2.toNatClampNeg) → (∀ x1_7 : Int32, x1_7 = x1 + (nI 1) → (K2 x1_7 σ))) ∧ (¬ ((σ 26 (x2 - (nI 1)).toNatClampNeg) ≤ (σ 26 x2.toNatClampNeg)) → (wD_swap (x2 - (nI 1)) x2 σ (fun (σ9 : gM) => ∀ x2_10 : Int32, x2_10 = x2 + (-1 : Int32) → (wD_sortHeap_l12 Q K2 n x1 x2_10 σ9))))))))
def wD_sortHeap_l2 (Q : gM → Prop)  : Nat → Int32 → gM → Prop
  | 0, _, _ => False
  | n + 1, x1, σ =>
    ((σ 24 4) ≤ x1 → (Q σ)) ∧ (¬ ((σ 24 4) ≤ x1) → (∃ n11 : Nat, wD_sortHeap_l12 Q (wD_sortHeap_l2 Q n) n11 x1 x1 σ))
def wD_sortHeap  (σ : gM) (Q : gM → Prop) : Prop :=
    ∃ n12 : Nat, wD_sortHeap_l2 Q n12 (nI 1) σ
set_option maxHeartbeats 4000000 in
set_option maxRecDepth 100000 in
theorem tD_sortHeap_l12 {X : gX} {Q : gM → Prop} (hC : VC X cX1_sortHeap RX1 3 rmD_sortHeap) (hR : VR X none (gPv Q)) {K2 : Int32 → gM → Prop} (hK2 : ∀ (x1 : Int32) (σ : gM), K2 x1 σ → V X 3 2 [(0, .ref (xad X 24)), (1, .int x1)] [] σ) : ∀ (n : Nat) (x1 : Int32) (x2 : Int32) (σ : gM), wD_sortHeap_l12 Q K2 n x1 x2 σ → V X 3 12 [(0, .ref (xad X 24)), (1, .int x1), (2, .int x2)] [] σ := by
  intro n
  induction n with
  | zero => intro x1 x2 σ h; exact h.elim
  | succ n ih =>
    intro x1 x2 σ h
    replace h : (x2 ≤ nI 0 → (∀ x1_3 : Int32, x1_3 = x1 + (nI 1) → (K2 x1_3 σ))) ∧ (¬ (x2 ≤ nI 0) → (vp_in (x2 - (nI 1)) 16 ∧ (vp_in x2 16 ∧ (((σ 26 (x2 - (nI 1)).toNatClampNeg) ≤ (σ 26 x2.toNatClampNeg) → (∀ x1_7 : Int32, x1_7 = x1 + (nI 1) → (K2 x1_7 σ))) ∧ (¬ ((σ 26 (x2 - (nI 1)).toNatClampNeg) ≤ (σ 26 x2.toNatClampNeg)) → (wD_swap (x2 - (nI 1)) x2 σ (fun (σ9 : gM) => ∀ x2_10 : Int32, x2_10 = x2 + (-1 : Int32) → (wD_sortHeap_l12 Q K2 n x1 x2_10 σ9)))))))) := h
    refine v_iload_n hC 2 dX1_sortHeap_12 rfl ?_
    refine v_if_le hC 47 dX1_sortHeap_13 (by decide) (fun c2 => ?_) (fun c2 => ?_)
    · replace h := h.1 c2
      refine v_iincN hC (nI 1) 1 dX1_sortHeap_47 rfl rfl (by decide) (lo2 := fun x1_3 => [(1, .int x1_3), (0, .ref (xad X 24)), (2, .int x2)]) (fun _ => rfl) (fun x1_3 e3 => ?_)
      replace h := h x1_3 e3
      refine v_goto hC 2 dX1_sortHeap_50 (by decide) ?_
      exact V.sub [1, 0] rfl (hK2 _ _ h)
    · replace h := h.2 c2
      refine v_aload_n hC 0 dX1_sortHeap_16 rfl ?_
      refine gf_X1_15 hC dX1_sortHeap_17 ?_
      refine v_iload_n hC 2 dX1_sortHeap_20 rfl ?_
      refine v_iconst hC (nI 1) dX1_sortHeap_21 rfl ?_
      refine v_isub hC dX1_sortHeap_22 ?_
      obtain ⟨hi4, h⟩ := h
      refine v_iald hC (Nat.le_of_ble_eq_true rfl) rfl rfl hi4 dX1_sortHeap_23 ?_
      refine v_aload_n hC 0 dX1_sortHeap_24 rfl ?_
      refine gf_X1_15 hC dX1_sortHeap_25 ?_
      refine v_iload_n hC 2 dX1_sortHeap_28 rfl ?_
      obtain ⟨hi5, h⟩ := h
      refine v_iald hC (Nat.le_of_ble_eq_true rfl) rfl rfl hi5 dX1_sortHeap_29 ?_
      refine v_icmp_le hC 47 dX1_sortHeap_30 (by decide) (fun c6 => ?_) (fun c6 => ?_)
      · replace h := h.1 c6
        refine v_iincN hC (nI 1) 1 dX1_sortHeap_47 rfl rfl (by decide) (lo2 := fun x1_7 => [(1, .int x1_7), (0, .ref (xad X 24)), (2, .int x2)]) (fun _ => rfl) (fun x1_7 e7 => ?_)
        replace h := h x1_7 e7
        refine v_goto hC 2 dX1_sortHeap_50 (by decide) ?_
        exact V.sub [1, 0] rfl (hK2 _ _ h)
      · replace h := h.2 c6
        refine v_aload_n hC 0 dX1_sortHeap_33 rfl ?_
        refine v_iload_n hC 2 dX1_sortHeap_34 rfl ?_
        refine v_iconst hC (nI 1) dX1_sortHeap_35 rfl ?_
        refine v_isub hC dX1_sortHeap_36 ?_
        refine v_iload_n hC 2 dX1_sortHeap_37 rfl ?_
        refine v_callV hC (kD_swap _ _ _ _ h) cmD_swap ⟨kw759, kw26⟩ kw757 ⟨Nat.le_of_ble_eq_true rfl, Nat.le_of_ble_eq_true rfl⟩ (Nat.le_of_ble_eq_true rfl) rfl (ci := 1) (T := TX1) (N := 14) rfl (As := fun G => [.int (x2 - (nI 1)), .int x2]) (fun _ => rfl) (fun _ => rfl) (st := []) (Nat.le_of_ble_eq_true rfl) rfl dX1_sortHeap_38 (kk_v (fun σ9 h => ?_))
        refine v_iincN hC (-1 : Int32) 2 dX1_sortHeap_41 rfl rfl (by decide) (lo2 := fun x2_10 => [(2, .int x2_10), (0, .ref (xad X 24)), (1, .int x1)]) (fun _ => rfl) (fun x2_10 e10 => ?_)
        replace h := h x2_10 e10
        refine v_goto hC 12 dX1_sortHeap_44 (by decide) ?_
        exact V.sub [1, 2, 0] rfl (ih _ _ _ h)
set_option maxHeartbeats 4000000 in
set_option maxRecDepth 100000 in
theorem tD_sortHeap_l2 {X : gX} {Q : gM → Prop} (hC : VC X cX1_sortHeap RX1 3 rmD_sortHeap) (hR : VR X none (gPv Q))  : ∀ (n : Nat) (x1 : Int32) (σ : gM), wD_sortHeap_l2 Q  n x1 σ → V X 3 2 [(0, .ref (xad X 24)), (1, .int x1)] [] σ := by
  intro n
  induction n with
  | zero => intro x1 σ h; exact h.elim
  | succ n ih =>
    intro x1 σ h
    replace h : ((σ 24 4) ≤ x1 → (Q σ)) ∧ (¬ ((σ 24 4) ≤ x1) → (∃ n11 : Nat, wD_sortHeap_l12 Q (wD_sortHeap_l2 Q n) n11 x1 x1 σ)) := h
    refine v_iload_n hC 1 dX1_sortHeap_2 rfl ?_
    refine v_aload_n hC 0 dX1_sortHeap_3 rfl ?_
    refine gf_X1_52 hC dX1_sortHeap_4 ?_
    refine v_icmp_ge hC 53 dX1_sortHeap_7 (by decide) (fun c1 => ?_) (fun c1 => ?_)
    · replace h := h.1 c1
      exact v_vret hC hR h dX1_sortHeap_53
    · replace h := h.2 c1
      refine v_iload_n hC 1 dX1_sortHeap_10 rfl ?_
      refine v_istore_n hC dX1_sortHeap_11 (by decide) rfl ?_
      obtain ⟨n11, h⟩ := h
      exact V.sub [1, 2, 0] rfl (tD_sortHeap_l12 hC hR ih n11 _ _ _ h)
set_option maxHeartbeats 4000000 in
set_option maxRecDepth 100000 in
theorem kD_sortHeap  (σ : gM) (Q : gM → Prop) (h : wD_sortHeap  σ Q) : CT yX1_sortHeap cX1_sortHeap 3 none rmD_sortHeap (fun G => [.ref (gad G 24)]) σ (gPv Q) := by
  refine c_enter (by decide) (fun _ => Nat.le_of_ble_eq_true rfl) (fun X hC hR => ?_)
  show V X 3 0 [(0, .ref (xad X 24))] [] σ
  replace h : ∃ n12 : Nat, wD_sortHeap_l2 Q n12 (nI 1) σ := h
  refine v_iconst hC (nI 1) dX1_sortHeap_0 rfl ?_
  refine v_istore_n hC dX1_sortHeap_1 (by decide) rfl ?_
  obtain ⟨n12, h⟩ := h
  exact V.sub [1, 0] rfl (tD_sortHeap_l2 hC hR  n12 _ _ h)
theorem cmD_sortHeap : CM yX1_sortHeap cX1_sortHeap 3 none rmD_sortHeap 0 := ⟨kw79, kw756, rfl, rfl, by decide, by decide, by decide +kernel⟩
def rmD_goToNextOrder : Room := { frames := 1, cells := 0, slots := 0, locals := 23 }
def wD_goToNextOrder_l91 (Q : Int32 → gM → Prop)  : Nat → Int32 → Int32 → gM → Prop
  | 0, _, _, _ => False
  | n + 1, x3, x4, σ =>
    (x4 ≤ x3 → (Q (nI 1) σ)) ∧ (¬ (x4 ≤ x3) → (wD_swap x3 x4 σ (fun (σ12 : gM) => ∀ x3_13 : Int32, x3_13 = x3 + (nI 1) → (∀ x4_14 : Int32, x4_14 = x4 + (-1 : Int32) → (wD_goToNextOrder_l91 Q n x3_13 x4_14 σ12)))))
def wD_goToNextOrder_b73 (Q : Int32 → gM → Prop)  (x1 : Int32) (x2 : Int32) (σ : gM) : Prop :=
    wD_swap x1 x2 σ (fun (σ7 : gM) => ∀ x3_8 : Int32, x3_8 = (x1 + (nI 1)) → (∀ x4_9 : Int32, x4_9 = ((σ7 24 4) - (nI 1)) → (∃ n15 : Nat, wD_goToNextOrder_l91 Q n15 x3_8 x4_9 σ7)))
def wD_goToNextOrder_l47 (Q : Int32 → gM → Prop)  : Nat → Int32 → Int32 → gM → Prop
  | 0, _, _, _ => False
  | n + 1, x1, x2, σ =>
    (x2 ≤ x1 → (wD_goToNextOrder_b73 Q x1 x2 σ)) ∧ (¬ (x2 ≤ x1) → (vp_in x2 16 ∧ (vp_in x1 16 ∧ (((σ 26 x1.toNatClampNeg) ≤ (σ 26 x2.toNatClampNeg) → (wD_goToNextOrder_b73 Q x1 x2 σ)) ∧ (¬ ((σ 26 x1.toNatClampNeg) ≤ (σ 26 x2.toNatClampNeg)) → (∀ x2_19 : Int32, x2_19 = x2 + (-1 : Int32) → (wD_goToNextOrder_l47 Q n x1 x2_19 σ)))))))
def wD_goToNextOrder_b34 (Q : Int32 → gM → Prop)  (x1 : Int32) (σ : gM) : Prop :=
    (nI 0 ≤ x1 → (∀ x2_4 : Int32, x2_4 = ((σ 24 4) - (nI 1)) → (∃ n20 : Nat, wD_goToNextOrder_l47 Q n20 x1 x2_4 σ))) ∧ (¬ (nI 0 ≤ x1) → (Q (nI 0) σ))
def wD_goToNextOrder_l7 (Q : Int32 → gM → Prop)  : Nat → Int32 → gM → Prop
  | 0, _, _ => False
  | n + 1, x1, σ =>
    (x1 < nI 0 → (wD_goToNextOrder_b34 Q x1 σ)) ∧ (¬ (x1 < nI 0) → (vp_in x1 16 ∧ (vp_in (x1 + (nI 1)) 16 ∧ (((σ 26 x1.toNatClampNeg) ≤ (σ 26 (x1 + (nI 1)).toNatClampNeg) → (wD_goToNextOrder_b34 Q x1 σ)) ∧ (¬ ((σ 26 x1.toNatClampNeg) ≤ (σ 26 (x1 + (nI 1)).toNatClampNeg)) → (∀ x1_24 : Int32, x1_24 = x1 + (-1 : Int32) → (wD_goToNextOrder_l7 Q n x1_24 σ)))))))
def wD_goToNextOrder  (σ : gM) (Q : Int32 → gM → Prop) : Prop :=
    ∀ x1_1 : Int32, x1_1 = ((σ 24 4) - (nI 2)) → (∃ n25 : Nat, wD_goToNextOrder_l7 Q n25 x1_1 σ)
set_option maxHeartbeats 4000000 in
set_option maxRecDepth 100000 in
theorem tD_goToNextOrder_l91 {X : gX} {Q : Int32 → gM → Prop} (hC : VC X cX1_goToNextOrder RX1 5 rmD_goToNextOrder) (hR : VR X (some .boolean) (gPi Q))  : ∀ (n : Nat) (x3 : Int32) (x4 : Int32) (σ : gM), wD_goToNextOrder_l91 Q  n x3 x4 σ → V X 5 91 [(0, .ref (xad X 24)), (3, .int x3), (4, .int x4)] [] σ := by
  intro n
  induction n with
  | zero => intro x3 x4 σ h; exact h.elim
  | succ n ih =>
    intro x3 x4 σ h
    replace h : (x4 ≤ x3 → (Q (nI 1) σ)) ∧ (¬ (x4 ≤ x3) → (wD_swap x3 x4 σ (fun (σ12 : gM) => ∀ x3_13 : Int32, x3_13 = x3 + (nI 1) → (∀ x4_14 : Int32, x4_14 = x4 + (-1 : Int32) → (wD_goToNextOrder_l91 Q n x3_13 x4_14 σ12))))) := h
    refine v_iload_n hC 1 dX1_goToNextOrder_91 rfl ?_
    refine v_iload hC 2 dX1_goToNextOrder_92 rfl ?_
    refine v_icmp_ge hC 113 dX1_goToNextOrder_94 (by decide) (fun c10 => ?_) (fun c10 => ?_)
    · replace h := h.1 c10
      refine v_iconst hC (nI 1) dX1_goToNextOrder_113 rfl ?_
      exact v_zret hC hR rfl h dX1_goToNextOrder_114
    · replace h := h.2 c10
      refine v_aload_n hC 0 dX1_goToNextOrder_97 rfl ?_
      refine v_iload_n hC 1 dX1_goToNextOrder_98 rfl ?_
      refine v_iload hC 2 dX1_goToNextOrder_99 rfl ?_
      refine v_callV hC (kD_swap _ _ _ _ h) cmD_swap ⟨kw759, kw26⟩ kw757 ⟨Nat.le_of_ble_eq_true rfl, Nat.le_of_ble_eq_true rfl⟩ (Nat.le_of_ble_eq_true rfl) rfl (ci := 1) (T := TX1) (N := 14) rfl (As := fun G => [.int x3, .int x4]) (fun _ => rfl) (fun _ => rfl) (st := []) (Nat.le_of_ble_eq_true rfl) rfl dX1_goToNextOrder_101 (kk_v (fun σ12 h => ?_))
      refine v_iincN hC (nI 1) 1 dX1_goToNextOrder_104 rfl rfl (by decide) (lo2 := fun x3_13 => [(3, .int x3_13), (0, .ref (xad X 24)), (4, .int x4)]) (fun _ => rfl) (fun x3_13 e13 => ?_)
      replace h := h x3_13 e13
      refine v_iincN hC (-1 : Int32) 2 dX1_goToNextOrder_107 rfl rfl (by decide) (lo2 := fun x4_14 => [(4, .int x4_14), (3, .int x3_13), (0, .ref (xad X 24))]) (fun _ => rfl) (fun x4_14 e14 => ?_)
      replace h := h x4_14 e14
      refine v_goto hC 91 dX1_goToNextOrder_110 (by decide) ?_
      exact V.sub [2, 1, 0] rfl (ih _ _ _ h)
set_option maxHeartbeats 4000000 in
set_option maxRecDepth 100000 in
theorem tD_goToNextOrder_b73 {X : gX} {Q : Int32 → gM → Prop} (hC : VC X cX1_goToNextOrder RX1 5 rmD_goToNextOrder) (hR : VR X (some .boolean) (gPi Q))  (x1 : Int32) (x2 : Int32) (σ : gM) (h : wD_goToNextOrder_b73 Q  x1 x2 σ) : V X 5 73 [(0, .ref (xad X 24)), (1, .int x1), (2, .int x2)] [] σ := by
  replace h : wD_swap x1 x2 σ (fun (σ7 : gM) => ∀ x3_8 : Int32, x3_8 = (x1 + (nI 1)) → (∀ x4_9 : Int32, x4_9 = ((σ7 24 4) - (nI 1)) → (∃ n15 : Nat, wD_goToNextOrder_l91 Q n15 x3_8 x4_9 σ7))) := h
  refine v_aload_n hC 0 dX1_goToNextOrder_73 rfl ?_
  refine v_iload_n hC 1 dX1_goToNextOrder_74 rfl ?_
  refine v_iload_n hC 2 dX1_goToNextOrder_75 rfl ?_
  refine v_callV hC (kD_swap _ _ _ _ h) cmD_swap ⟨kw759, kw26⟩ kw757 ⟨Nat.le_of_ble_eq_true rfl, Nat.le_of_ble_eq_true rfl⟩ (Nat.le_of_ble_eq_true rfl) rfl (ci := 1) (T := TX1) (N := 14) rfl (As := fun G => [.int x1, .int x2]) (fun _ => rfl) (fun _ => rfl) (st := []) (Nat.le_of_ble_eq_true rfl) rfl dX1_goToNextOrder_76 (kk_v (fun σ7 h => ?_))
  refine v_iload_n hC 1 dX1_goToNextOrder_79 rfl ?_
  refine v_iconst hC (nI 1) dX1_goToNextOrder_80 rfl ?_
  refine v_iadd hC dX1_goToNextOrder_81 ?_
  refine v_istore_nN hC dX1_goToNextOrder_82 (by decide) (lo2 := fun x3_8 => [(3, .int x3_8), (0, .ref (xad X 24)), (1, .int x1), (2, .int x2)]) (fun _ => rfl) (fun x3_8 e8 => ?_)
  replace h := h x3_8 e8
  refine v_aload_n hC 1 dX1_goToNextOrder_83 rfl ?_
  refine gf_X1_52 hC dX1_goToNextOrder_84 ?_
  refine v_iconst hC (nI 1) dX1_goToNextOrder_87 rfl ?_
  refine v_isub hC dX1_goToNextOrder_88 ?_
  refine v_istoreN hC dX1_goToNextOrder_89 (by decide) (lo2 := fun x4_9 => [(4, .int x4_9), (3, .int x3_8), (0, .ref (xad X 24)), (1, .int x1), (2, .int x2)]) (fun _ => rfl) (fun x4_9 e9 => ?_)
  replace h := h x4_9 e9
  obtain ⟨n15, h⟩ := h
  exact V.sub [2, 1, 0] rfl (tD_goToNextOrder_l91 hC hR  n15 _ _ _ h)
set_option maxHeartbeats 4000000 in
set_option maxRecDepth 100000 in
theorem tD_goToNextOrder_l47 {X : gX} {Q : Int32 → gM → Prop} (hC : VC X cX1_goToNextOrder RX1 5 rmD_goToNextOrder) (hR : VR X (some .boolean) (gPi Q))  : ∀ (n : Nat) (x1 : Int32) (x2 : Int32) (σ : gM), wD_goToNextOrder_l47 Q  n x1 x2 σ → V X 5 47 [(0, .ref (xad X 24)), (1, .int x1), (2, .int x2)] [] σ := by
  intro n
  induction n with
  | zero => intro x1 x2 σ h; exact h.elim
  | succ n ih =>
    intro x1 x2 σ h
    replace h : (x2 ≤ x1 → (wD_goToNextOrder_b73 Q x1 x2 σ)) ∧ (¬ (x2 ≤ x1) → (vp_in x2 16 ∧ (vp_in x1 16 ∧ (((σ 26 x1.toNatClampNeg) ≤ (σ 26 x2.toNatClampNeg) → (wD_goToNextOrder_b73 Q x1 x2 σ)) ∧ (¬ ((σ 26 x1.toNatClampNeg) ≤ (σ 26 x2.toNatClampNeg)) → (∀ x2_19 : Int32, x2_19 = x2 + (-1 : Int32) → (wD_goToNextOrder_l47 Q n x1 x2_19 σ))))))) := h
    refine v_iload_n hC 2 dX1_goToNextOrder_47 rfl ?_
    refine v_iload_n hC 1 dX1_goToNextOrder_48 rfl ?_
    refine v_icmp_le hC 73 dX1_goToNextOrder_49 (by decide) (fun c5 => ?_) (fun c5 => ?_)
    · replace h := h.1 c5
      exact V.sub [0, 1, 2] rfl (tD_goToNextOrder_b73 hC hR  _ _ _ h)
    · replace h := h.2 c5
      refine v_aload_n hC 0 dX1_goToNextOrder_52 rfl ?_
      refine gf_X1_15 hC dX1_goToNextOrder_53 ?_
      refine v_iload_n hC 2 dX1_goToNextOrder_56 rfl ?_
      obtain ⟨hi16, h⟩ := h
      refine v_iald hC (Nat.le_of_ble_eq_true rfl) rfl rfl hi16 dX1_goToNextOrder_57 ?_
      refine v_aload_n hC 0 dX1_goToNextOrder_58 rfl ?_
      refine gf_X1_15 hC dX1_goToNextOrder_59 ?_
      refine v_iload_n hC 1 dX1_goToNextOrder_62 rfl ?_
      obtain ⟨hi17, h⟩ := h
      refine v_iald hC (Nat.le_of_ble_eq_true rfl) rfl rfl hi17 dX1_goToNextOrder_63 ?_
      refine v_icmp_ge hC 73 dX1_goToNextOrder_64 (by decide) (fun c18 => ?_) (fun c18 => ?_)
      · replace h := h.1 c18
        exact V.sub [0, 1, 2] rfl (tD_goToNextOrder_b73 hC hR  _ _ _ h)
      · replace h := h.2 c18
        refine v_iincN hC (-1 : Int32) 2 dX1_goToNextOrder_67 rfl rfl (by decide) (lo2 := fun x2_19 => [(2, .int x2_19), (0, .ref (xad X 24)), (1, .int x1)]) (fun _ => rfl) (fun x2_19 e19 => ?_)
        replace h := h x2_19 e19
        refine v_goto hC 47 dX1_goToNextOrder_70 (by decide) ?_
        exact V.sub [1, 2, 0] rfl (ih _ _ _ h)
set_option maxHeartbeats 4000000 in
set_option maxRecDepth 100000 in
theorem tD_goToNextOrder_b34 {X : gX} {Q : Int32 → gM → Prop} (hC : VC X cX1_goToNextOrder RX1 5 rmD_goToNextOrder) (hR : VR X (some .boolean) (gPi Q))  (x1 : Int32) (σ : gM) (h : wD_goToNextOrder_b34 Q  x1 σ) : V X 5 34 [(0, .ref (xad X 24)), (1, .int x1)] [] σ := by
  replace h : (nI 0 ≤ x1 → (∀ x2_4 : Int32, x2_4 = ((σ 24 4) - (nI 1)) → (∃ n20 : Nat, wD_goToNextOrder_l47 Q n20 x1 x2_4 σ))) ∧ (¬ (nI 0 ≤ x1) → (Q (nI 0) σ)) := h
  refine v_iload_n hC 1 dX1_goToNextOrder_34 rfl ?_
  refine v_if_ge hC 40 dX1_goToNextOrder_35 (by decide) (fun c3 => ?_) (fun c3 => ?_)
  · replace h := h.1 c3
    refine v_aload_n hC 0 dX1_goToNextOrder_40 rfl ?_
    refine gf_X1_52 hC dX1_goToNextOrder_41 ?_
    refine v_iconst hC (nI 1) dX1_goToNextOrder_44 rfl ?_
    refine v_isub hC dX1_goToNextOrder_45 ?_
    refine v_istore_nN hC dX1_goToNextOrder_46 (by decide) (lo2 := fun x2_4 => [(2, .int x2_4), (0, .ref (xad X 24)), (1, .int x1)]) (fun _ => rfl) (fun x2_4 e4 => ?_)
    replace h := h x2_4 e4
    obtain ⟨n20, h⟩ := h
    exact V.sub [1, 2, 0] rfl (tD_goToNextOrder_l47 hC hR  n20 _ _ _ h)
  · replace h := h.2 c3
    refine v_iconst hC (nI 0) dX1_goToNextOrder_38 rfl ?_
    exact v_zret hC hR rfl h dX1_goToNextOrder_39
set_option maxHeartbeats 4000000 in
set_option maxRecDepth 100000 in
theorem tD_goToNextOrder_l7 {X : gX} {Q : Int32 → gM → Prop} (hC : VC X cX1_goToNextOrder RX1 5 rmD_goToNextOrder) (hR : VR X (some .boolean) (gPi Q))  : ∀ (n : Nat) (x1 : Int32) (σ : gM), wD_goToNextOrder_l7 Q  n x1 σ → V X 5 7 [(0, .ref (xad X 24)), (1, .int x1)] [] σ := by
  intro n
  induction n with
  | zero => intro x1 σ h; exact h.elim
  | succ n ih =>
    intro x1 σ h
    replace h : (x1 < nI 0 → (wD_goToNextOrder_b34 Q x1 σ)) ∧ (¬ (x1 < nI 0) → (vp_in x1 16 ∧ (vp_in (x1 + (nI 1)) 16 ∧ (((σ 26 x1.toNatClampNeg) ≤ (σ 26 (x1 + (nI 1)).toNatClampNeg) → (wD_goToNextOrder_b34 Q x1 σ)) ∧ (¬ ((σ 26 x1.toNatClampNeg) ≤ (σ 26 (x1 + (nI 1)).toNatClampNeg)) → (∀ x1_24 : Int32, x1_24 = x1 + (-1 : Int32) → (wD_goToNextOrder_l7 Q n x1_24 σ))))))) := h
    refine v_iload_n hC 1 dX1_goToNextOrder_7 rfl ?_
    refine v_if_lt hC 34 dX1_goToNextOrder_8 (by decide) (fun c2 => ?_) (fun c2 => ?_)
    · replace h := h.1 c2
      exact V.sub [0, 1] rfl (tD_goToNextOrder_b34 hC hR  _ _ h)
    · replace h := h.2 c2
      refine v_aload_n hC 0 dX1_goToNextOrder_11 rfl ?_
      refine gf_X1_15 hC dX1_goToNextOrder_12 ?_
      refine v_iload_n hC 1 dX1_goToNextOrder_15 rfl ?_
      obtain ⟨hi21, h⟩ := h
      refine v_iald hC (Nat.le_of_ble_eq_true rfl) rfl rfl hi21 dX1_goToNextOrder_16 ?_
      refine v_aload_n hC 0 dX1_goToNextOrder_17 rfl ?_
      refine gf_X1_15 hC dX1_goToNextOrder_18 ?_
      refine v_iload_n hC 1 dX1_goToNextOrder_21 rfl ?_
      refine v_iconst hC (nI 1) dX1_goToNextOrder_22 rfl ?_
      refine v_iadd hC dX1_goToNextOrder_23 ?_
      obtain ⟨hi22, h⟩ := h
      refine v_iald hC (Nat.le_of_ble_eq_true rfl) rfl rfl hi22 dX1_goToNextOrder_24 ?_
      refine v_icmp_le hC 34 dX1_goToNextOrder_25 (by decide) (fun c23 => ?_) (fun c23 => ?_)
      · replace h := h.1 c23
        exact V.sub [0, 1] rfl (tD_goToNextOrder_b34 hC hR  _ _ h)
      · replace h := h.2 c23
        refine v_iincN hC (-1 : Int32) 1 dX1_goToNextOrder_28 rfl rfl (by decide) (lo2 := fun x1_24 => [(1, .int x1_24), (0, .ref (xad X 24))]) (fun _ => rfl) (fun x1_24 e24 => ?_)
        replace h := h x1_24 e24
        refine v_goto hC 7 dX1_goToNextOrder_31 (by decide) ?_
        exact V.sub [1, 0] rfl (ih _ _ h)
set_option maxHeartbeats 4000000 in
set_option maxRecDepth 100000 in
theorem kD_goToNextOrder  (σ : gM) (Q : Int32 → gM → Prop) (h : wD_goToNextOrder  σ Q) : CT yX1_goToNextOrder cX1_goToNextOrder 5 (some .boolean) rmD_goToNextOrder (fun G => [.ref (gad G 24)]) σ (gPi Q) := by
  refine c_enter (by decide) (fun _ => Nat.le_of_ble_eq_true rfl) (fun X hC hR => ?_)
  show V X 5 0 [(0, .ref (xad X 24))] [] σ
  replace h : ∀ x1_1 : Int32, x1_1 = ((σ 24 4) - (nI 2)) → (∃ n25 : Nat, wD_goToNextOrder_l7 Q n25 x1_1 σ) := h
  refine v_aload_n hC 0 dX1_goToNextOrder_0 rfl ?_
  refine gf_X1_52 hC dX1_goToNextOrder_1 ?_
  refine v_iconst hC (nI 2) dX1_goToNextOrder_4 rfl ?_
  refine v_isub hC dX1_goToNextOrder_5 ?_
  refine v_istore_nN hC dX1_goToNextOrder_6 (by decide) (lo2 := fun x1_1 => [(1, .int x1_1), (0, .ref (xad X 24))]) (fun _ => rfl) (fun x1_1 e1 => ?_)
  replace h := h x1_1 e1
  obtain ⟨n25, h⟩ := h
  exact V.sub [1, 0] rfl (tD_goToNextOrder_l7 hC hR  n25 _ _ h)
theorem cmD_goToNextOrder : CM yX1_goToNextOrder cX1_goToNextOrder 5 (some .boolean) rmD_goToNextOrder 0 := ⟨kw79, kw767, rfl, rfl, by decide, by decide, by decide +kernel⟩
def rmD_findLaid : Room := { frames := 2, cells := 0, slots := 0, locals := 60 }
def wD_findLaid_l10 (Q : Int32 → gM → Prop)  : Nat → Int32 → Int32 → Int32 → gM → Prop
  | 0, _, _, _, _ => False
  | n + 1, x1, x2, x3, σ =>
    ((nI 720) ≤ x3 → (Q x1 σ)) ∧ (¬ ((nI 720) ≤ x3) → ((x2 = nI 0 → (Q x1 σ)) ∧ (¬ (x2 = nI 0) → (wD_lineUpFrom (nI 0) σ (fun (σ6 : gM) => wD_play  σ6 (fun (σ8 : gM) => ((σ8 31 0) ≤ x1 → (wD_goToNextOrder  σ8 (fun (r12 : Int32) (σ12 : gM) => ∀ x3_13 : Int32, x3_13 = x3 + (nI 1) → (wD_findLaid_l10 Q n x1 r12 x3_13 σ12)))) ∧ (¬ ((σ8 31 0) ≤ x1) → (∀ x1_15 : Int32, x1_15 = (σ8 31 0) → ((¬ (nI 0) < nI 0 ∧ ¬ (nI 0) < nI 0 ∧ ¬ (σ8 24 4) < nI 0 ∧ (nI 0).toNatClampNeg + (σ8 24 4).toNatClampNeg ≤ 16 ∧ (nI 0).toNatClampNeg + (σ8 24 4).toNatClampNeg ≤ 6) ∧ (∀ σ16 : gM, σ16 = gCp σ8 26 (nI 0).toNatClampNeg 25 (nI 0).toNatClampNeg (σ8 24 4).toNatClampNeg → (wD_goToNextOrder  σ16 (fun (r18 : Int32) (σ18 : gM) => ∀ x3_19 : Int32, x3_19 = x3 + (nI 1) → (wD_findLaid_l10 Q n x1_15 r18 x3_19 σ18)))))))))))))
def wD_findLaid  (σ : gM) (Q : Int32 → gM → Prop) : Prop :=
    wD_sortHeap  σ (fun (σ2 : gM) => ∃ n20 : Nat, wD_findLaid_l10 Q n20 (-1 : Int32) (nI 1) (nI 0) σ2)
set_option maxHeartbeats 4000000 in
set_option maxRecDepth 100000 in
theorem tD_findLaid_l10 {X : gX} {Q : Int32 → gM → Prop} (hC : VC X cX1_findLaid RX1 4 rmD_findLaid) (hR : VR X (some .int) (gPi Q))  : ∀ (n : Nat) (x1 : Int32) (x2 : Int32) (x3 : Int32) (σ : gM), wD_findLaid_l10 Q  n x1 x2 x3 σ → V X 4 10 [(0, .ref (xad X 24)), (1, .int x1), (2, .int x2), (3, .int x3)] [] σ := by
  intro n
  induction n with
  | zero => intro x1 x2 x3 σ h; exact h.elim
  | succ n ih =>
    intro x1 x2 x3 σ h
    replace h : ((nI 720) ≤ x3 → (Q x1 σ)) ∧ (¬ ((nI 720) ≤ x3) → ((x2 = nI 0 → (Q x1 σ)) ∧ (¬ (x2 = nI 0) → (wD_lineUpFrom (nI 0) σ (fun (σ6 : gM) => wD_play  σ6 (fun (σ8 : gM) => ((σ8 31 0) ≤ x1 → (wD_goToNextOrder  σ8 (fun (r12 : Int32) (σ12 : gM) => ∀ x3_13 : Int32, x3_13 = x3 + (nI 1) → (wD_findLaid_l10 Q n x1 r12 x3_13 σ12)))) ∧ (¬ ((σ8 31 0) ≤ x1) → (∀ x1_15 : Int32, x1_15 = (σ8 31 0) → ((¬ (nI 0) < nI 0 ∧ ¬ (nI 0) < nI 0 ∧ ¬ (σ8 24 4) < nI 0 ∧ (nI 0).toNatClampNeg + (σ8 24 4).toNatClampNeg ≤ 16 ∧ (nI 0).toNatClampNeg + (σ8 24 4).toNatClampNeg ≤ 6) ∧ (∀ σ16 : gM, σ16 = gCp σ8 26 (nI 0).toNatClampNeg 25 (nI 0).toNatClampNeg (σ8 24 4).toNatClampNeg → (wD_goToNextOrder  σ16 (fun (r18 : Int32) (σ18 : gM) => ∀ x3_19 : Int32, x3_19 = x3 + (nI 1) → (wD_findLaid_l10 Q n x1_15 r18 x3_19 σ18))))))))))))) := h
    refine v_iload_n hC 3 dX1_findLaid_10 rfl ?_
    refine v_sipush hC (nI 720) dX1_findLaid_11 rfl ?_
    refine v_icmp_ge hC 75 dX1_findLaid_14 (by decide) (fun c3 => ?_) (fun c3 => ?_)
    · replace h := h.1 c3
      refine v_iload_n hC 1 dX1_findLaid_75 rfl ?_
      exact v_iret hC hR h dX1_findLaid_76
    · replace h := h.2 c3
      refine v_iload_n hC 2 dX1_findLaid_17 rfl ?_
      refine v_if_eq hC 75 dX1_findLaid_18 (by decide) (fun c4 => ?_) (fun c4 => ?_)
      · replace h := h.1 c4
        refine v_iload_n hC 1 dX1_findLaid_75 rfl ?_
        exact v_iret hC hR h dX1_findLaid_76
      · replace h := h.2 c4
        refine v_aload_n hC 0 dX1_findLaid_21 rfl ?_
        refine v_iconst hC (nI 0) dX1_findLaid_22 rfl ?_
        refine v_callV hC (kD_lineUpFrom _ _ _ h) cmD_lineUpFrom ⟨kw708, kw709⟩ kw761 ⟨Nat.le_of_ble_eq_true rfl, Nat.le_of_ble_eq_true rfl⟩ (Nat.le_of_ble_eq_true rfl) rfl (ci := 1) (T := TX1) (N := 14) rfl (As := fun G => [.int (nI 0)]) (fun _ => rfl) (fun _ => rfl) (st := []) (Nat.le_of_ble_eq_true rfl) rfl dX1_findLaid_23 (kk_v (fun σ6 h => ?_))
        refine v_aload_n hC 0 dX1_findLaid_26 rfl ?_
        refine v_callV hC (kD_play  _ _ h) cmD_play ⟨kw712, kw713⟩ kw762 ⟨Nat.le_of_ble_eq_true rfl, Nat.le_of_ble_eq_true rfl⟩ (Nat.le_of_ble_eq_true rfl) rfl (ci := 1) (T := TX1) (N := 14) rfl (As := fun G => []) (fun _ => rfl) (fun _ => rfl) (st := []) (Nat.le_of_ble_eq_true rfl) rfl dX1_findLaid_27 (kk_v (fun σ8 h => ?_))
        refine v_aload_n hC 0 dX1_findLaid_30 rfl ?_
        refine gf_X1_30 hC dX1_findLaid_31 ?_
        refine v_iconst hC (nI 0) dX1_findLaid_34 rfl ?_
        refine v_iald hC (Nat.le_of_ble_eq_true rfl) rfl (j := 0) (by decide) (by unfold vp_in; decide) dX1_findLaid_35 ?_
        refine v_iload_n hC 1 dX1_findLaid_36 rfl ?_
        refine v_icmp_le hC 64 dX1_findLaid_37 (by decide) (fun c10 => ?_) (fun c10 => ?_)
        · replace h := h.1 c10
          refine v_aload_n hC 0 dX1_findLaid_64 rfl ?_
          refine v_callV hC (kD_goToNextOrder  _ _ h) cmD_goToNextOrder ⟨kw766, kw27⟩ kw764 ⟨Nat.le_of_ble_eq_true rfl, Nat.le_of_ble_eq_true rfl⟩ (Nat.le_of_ble_eq_true rfl) rfl (ci := 1) (T := TX1) (N := 14) rfl (As := fun G => []) (fun _ => rfl) (fun _ => rfl) (st := []) (Nat.le_of_ble_eq_true rfl) rfl dX1_findLaid_65 (kk_i (fun r12 σ12 h => ?_))
          refine v_istore_n hC dX1_findLaid_68 (by decide) rfl ?_
          refine v_iincN hC (nI 1) 3 dX1_findLaid_69 rfl rfl (by decide) (lo2 := fun x3_13 => [(3, .int x3_13), (2, .int r12), (0, .ref (xad X 24)), (1, .int x1)]) (fun _ => rfl) (fun x3_13 e13 => ?_)
          replace h := h x3_13 e13
          refine v_goto hC 10 dX1_findLaid_72 (by decide) ?_
          exact V.sub [2, 3, 1, 0] rfl (ih _ _ _ _ h)
        · replace h := h.2 c10
          refine v_aload_n hC 0 dX1_findLaid_40 rfl ?_
          refine gf_X1_30 hC dX1_findLaid_41 ?_
          refine v_iconst hC (nI 0) dX1_findLaid_44 rfl ?_
          refine v_iald hC (Nat.le_of_ble_eq_true rfl) rfl (j := 0) (by decide) (by unfold vp_in; decide) dX1_findLaid_45 ?_
          refine v_istore_nN hC dX1_findLaid_46 (by decide) (lo2 := fun x1_15 => [(1, .int x1_15), (0, .ref (xad X 24)), (2, .int x2), (3, .int x3)]) (fun _ => rfl) (fun x1_15 e15 => ?_)
          replace h := h x1_15 e15
          refine v_aload_n hC 1 dX1_findLaid_47 rfl ?_
          refine gf_X1_15 hC dX1_findLaid_48 ?_
          refine v_iconst hC (nI 0) dX1_findLaid_51 rfl ?_
          refine v_aload_n hC 1 dX1_findLaid_52 rfl ?_
          refine gf_X1_9 hC dX1_findLaid_53 ?_
          refine v_iconst hC (nI 0) dX1_findLaid_56 rfl ?_
          refine v_aload_n hC 1 dX1_findLaid_57 rfl ?_
          refine gf_X1_52 hC dX1_findLaid_58 ?_
          obtain ⟨hk16, h⟩ := h
          refine v_copy hC (Nat.le_of_ble_eq_true rfl) (Nat.le_of_ble_eq_true rfl) rfl rfl kw763 kw420 kw419 kw84 hk16.1 hk16.2.1 hk16.2.2.1 hk16.2.2.2.1 hk16.2.2.2.2 (Nat.le_of_ble_eq_true rfl) (by decide) dX1_findLaid_61 (fun σ16 e16 => ?_)
          replace h := h σ16 e16
          refine v_aload_n hC 1 dX1_findLaid_64 rfl ?_
          refine v_callV hC (kD_goToNextOrder  _ _ h) cmD_goToNextOrder ⟨kw766, kw27⟩ kw764 ⟨Nat.le_of_ble_eq_true rfl, Nat.le_of_ble_eq_true rfl⟩ (Nat.le_of_ble_eq_true rfl) rfl (ci := 1) (T := TX1) (N := 14) rfl (As := fun G => []) (fun _ => rfl) (fun _ => rfl) (st := []) (Nat.le_of_ble_eq_true rfl) rfl dX1_findLaid_65 (kk_i (fun r18 σ18 h => ?_))
          refine v_istore_n hC dX1_findLaid_68 (by decide) rfl ?_
          refine v_iincN hC (nI 1) 3 dX1_findLaid_69 rfl rfl (by decide) (lo2 := fun x3_19 => [(3, .int x3_19), (2, .int r18), (1, .int x1_15), (0, .ref (xad X 24))]) (fun _ => rfl) (fun x3_19 e19 => ?_)
          replace h := h x3_19 e19
          refine v_goto hC 10 dX1_findLaid_72 (by decide) ?_
          exact V.sub [3, 2, 1, 0] rfl (ih _ _ _ _ h)
set_option maxHeartbeats 4000000 in
set_option maxRecDepth 100000 in
theorem kD_findLaid  (σ : gM) (Q : Int32 → gM → Prop) (h : wD_findLaid  σ Q) : CT yX1_findLaid cX1_findLaid 4 (some .int) rmD_findLaid (fun G => [.ref (gad G 24)]) σ (gPi Q) := by
  refine c_enter (by decide) (fun _ => Nat.le_of_ble_eq_true rfl) (fun X hC hR => ?_)
  show V X 4 0 [(0, .ref (xad X 24))] [] σ
  replace h : wD_sortHeap  σ (fun (σ2 : gM) => ∃ n20 : Nat, wD_findLaid_l10 Q n20 (-1 : Int32) (nI 1) (nI 0) σ2) := h
  refine v_iconst hC (-1 : Int32) dX1_findLaid_0 rfl ?_
  refine v_istore_n hC dX1_findLaid_1 (by decide) rfl ?_
  refine v_aload_n hC 1 dX1_findLaid_2 rfl ?_
  refine v_callV hC (kD_sortHeap  _ _ h) cmD_sortHeap ⟨kw755, kw25⟩ kw753 ⟨Nat.le_of_ble_eq_true rfl, Nat.le_of_ble_eq_true rfl⟩ (Nat.le_of_ble_eq_true rfl) rfl (ci := 1) (T := TX1) (N := 14) rfl (As := fun G => []) (fun _ => rfl) (fun _ => rfl) (st := []) (Nat.le_of_ble_eq_true rfl) rfl dX1_findLaid_3 (kk_v (fun σ2 h => ?_))
  refine v_iconst hC (nI 1) dX1_findLaid_6 rfl ?_
  refine v_istore_n hC dX1_findLaid_7 (by decide) rfl ?_
  refine v_iconst hC (nI 0) dX1_findLaid_8 rfl ?_
  refine v_istore_n hC dX1_findLaid_9 (by decide) rfl ?_
  obtain ⟨n20, h⟩ := h
  exact V.sub [3, 2, 1, 0] rfl (tD_findLaid_l10 hC hR  n20 _ _ _ _ h)
theorem cmD_findLaid : CM yX1_findLaid cX1_findLaid 4 (some .int) rmD_findLaid 0 := ⟨kw79, kw752, rfl, rfl, by decide, by decide, by decide +kernel⟩
def rmH_laid : Room := { frames := 4, cells := 0, slots := 0, locals := 111 }
def wH_laid (x1 : Int32) (x2 : Int32) (x3 : Int32) (σ : gM) (Q : Int32 → gM → Prop) : Prop :=
    wH_areNoTwo x1 x2 σ (fun (r2 : Int32) (σ2 : gM) => (r2 = nI 0 → (((-1 : Int32) ≤ x3 → (((σ2 42 5) ≤ (nI 6) → ((x3 < (σ2 42 5) → (wD_seat x1 x2 σ2 (fun (σ8 : gM) => wD_findLaid  σ8 (fun (r10 : Int32) (σ10 : gM) => ((nI 0 ≤ x3 → (vp_in x3 6 ∧ True)) ∧ (¬ (nI 0 ≤ x3) → (True))) ∧ (∀ v13 : Int32, v13 = (if nI 0 ≤ x3 then (σ10 25 x3.toNatClampNeg) else r10) → (Q v13 σ10)))))) ∧ (¬ (x3 < (σ2 42 5)) → (Q (-1000000 : Int32) σ2)))) ∧ (¬ ((σ2 42 5) ≤ (nI 6)) → (Q (-1000003 : Int32) σ2)))) ∧ (¬ ((-1 : Int32) ≤ x3) → (Q (-1000001 : Int32) σ2)))) ∧ (¬ (r2 = nI 0) → (Q (-1000001 : Int32) σ2)))
set_option maxHeartbeats 4000000 in
set_option maxRecDepth 100000 in
theorem kH_laid (x1 : Int32) (x2 : Int32) (x3 : Int32) (σ : gM) (Q : Int32 → gM → Prop) (h : wH_laid x1 x2 x3 σ Q) : CT yX6_laid cX6_laid 5 (some .int) rmH_laid (fun G => [.ref (gad G 0), .int x1, .int x2, .int x3]) σ (gPi Q) := by
  refine c_enter (by decide) (fun _ => Nat.le_of_ble_eq_true rfl) (fun X hC hR => ?_)
  show V X 5 0 [(0, .ref (xad X 0)), (1, .int x1), (2, .int x2), (3, .int x3)] [] σ
  replace h : wH_areNoTwo x1 x2 σ (fun (r2 : Int32) (σ2 : gM) => (r2 = nI 0 → (((-1 : Int32) ≤ x3 → (((σ2 42 5) ≤ (nI 6) → ((x3 < (σ2 42 5) → (wD_seat x1 x2 σ2 (fun (σ8 : gM) => wD_findLaid  σ8 (fun (r10 : Int32) (σ10 : gM) => ((nI 0 ≤ x3 → (vp_in x3 6 ∧ True)) ∧ (¬ (nI 0 ≤ x3) → (True))) ∧ (∀ v13 : Int32, v13 = (if nI 0 ≤ x3 then (σ10 25 x3.toNatClampNeg) else r10) → (Q v13 σ10)))))) ∧ (¬ (x3 < (σ2 42 5)) → (Q (-1000000 : Int32) σ2)))) ∧ (¬ ((σ2 42 5) ≤ (nI 6)) → (Q (-1000003 : Int32) σ2)))) ∧ (¬ ((-1 : Int32) ≤ x3) → (Q (-1000001 : Int32) σ2)))) ∧ (¬ (r2 = nI 0) → (Q (-1000001 : Int32) σ2))) := h
  refine v_aload_n hC 0 dX6_laid_0 rfl ?_
  refine v_iload_n hC 1 dX6_laid_1 rfl ?_
  refine v_iload_n hC 2 dX6_laid_2 rfl ?_
  refine v_callV hC (kH_areNoTwo _ _ _ _ h) cmH_areNoTwo ⟨kw700, kw21⟩ kw698 ⟨Nat.le_of_ble_eq_true rfl, Nat.le_of_ble_eq_true rfl⟩ (Nat.le_of_ble_eq_true rfl) rfl (ci := 6) (T := TX6) (N := 12) rfl (As := fun G => [.int x1, .int x2]) (fun _ => rfl) (fun _ => rfl) (st := []) (Nat.le_of_ble_eq_true rfl) rfl dX6_laid_3 (kk_i (fun r2 σ2 h => ?_))
  refine v_if_ne hC 14 dX6_laid_6 (by decide) (fun c3 => ?_) (fun c3 => ?_)
  · replace h := h.2 c3
    refine v_ldc hC kw377 dX6_laid_14 ?_
    exact v_iret hC hR h dX6_laid_16
  · replace h := h.1 c3
    refine v_iload_n hC 3 dX6_laid_9 rfl ?_
    refine v_iconst hC (-1 : Int32) dX6_laid_10 rfl ?_
    refine v_icmp_ge hC 17 dX6_laid_11 (by decide) (fun c4 => ?_) (fun c4 => ?_)
    · replace h := h.1 c4
      refine v_aload_n hC 0 dX6_laid_17 rfl ?_
      refine gf_X6_25 hC dX6_laid_18 ?_
      refine gf_X6_148_42 hC dX6_laid_21 ?_
      refine v_bipush hC (nI 6) dX6_laid_24 rfl ?_
      refine v_icmp_le hC 32 dX6_laid_26 (by decide) (fun c5 => ?_) (fun c5 => ?_)
      · replace h := h.1 c5
        refine v_iload_n hC 3 dX6_laid_32 rfl ?_
        refine v_aload_n hC 0 dX6_laid_33 rfl ?_
        refine gf_X6_25 hC dX6_laid_34 ?_
        refine gf_X6_148_42 hC dX6_laid_37 ?_
        refine v_icmp_lt hC 46 dX6_laid_40 (by decide) (fun c6 => ?_) (fun c6 => ?_)
        · replace h := h.1 c6
          refine v_aload_n hC 0 dX6_laid_46 rfl ?_
          refine gf_X6_46 hC dX6_laid_47 ?_
          refine v_aload_n hC 0 dX6_laid_50 rfl ?_
          refine gf_X6_25 hC dX6_laid_51 ?_
          refine v_iload_n hC 1 dX6_laid_54 rfl ?_
          refine v_iload_n hC 2 dX6_laid_55 rfl ?_
          refine v_callV hC (kD_seat _ _ _ _ h) cmD_seat ⟨kw703, kw704⟩ kw702 ⟨Nat.le_of_ble_eq_true rfl, Nat.le_of_ble_eq_true rfl⟩ (Nat.le_of_ble_eq_true rfl) rfl (ci := 1) (T := TX1) (N := 14) rfl (As := fun G => [.ref (gad G 42), .int x1, .int x2]) (fun _ => rfl) (fun _ => rfl) (st := []) (Nat.le_of_ble_eq_true rfl) rfl dX6_laid_56 (kk_v (fun σ8 h => ?_))
          refine v_aload_n hC 0 dX6_laid_59 rfl ?_
          refine gf_X6_46 hC dX6_laid_60 ?_
          refine v_callV hC (kD_findLaid  _ _ h) cmD_findLaid ⟨kw750, kw751⟩ kw749 ⟨Nat.le_of_ble_eq_true rfl, Nat.le_of_ble_eq_true rfl⟩ (Nat.le_of_ble_eq_true rfl) rfl (ci := 1) (T := TX1) (N := 14) rfl (As := fun G => []) (fun _ => rfl) (fun _ => rfl) (st := []) (Nat.le_of_ble_eq_true rfl) rfl dX6_laid_63 (kk_i (fun r10 σ10 h => ?_))
          refine v_istore hC dX6_laid_66 (by decide) rfl ?_
          refine v_iload_n hC 4 dX6_laid_68 rfl ?_
          obtain ⟨hO11, h⟩ := h
          have J11 : ∀ (v13 : Int32) (ev13 : v13 = (if nI 0 ≤ x3 then (σ10 25 x3.toNatClampNeg) else r10)), V X 5 86 [] [.int v13] σ10 := by
            intro v13 ev13
            replace h := h v13 ev13
            exact v_iret hC hR h dX6_laid_86
          refine v_if_ge hC 77 dX6_laid_69 (by decide) (fun c11 => ?_) (fun c11 => ?_)
          · replace h := hO11.1 c11
            refine v_aload_n hC 1 dX6_laid_77 rfl ?_
            refine gf_X6_46 hC dX6_laid_78 ?_
            refine gf_X6_266 hC dX6_laid_81 ?_
            refine v_iload_n hC 4 dX6_laid_84 rfl ?_
            obtain ⟨hi14, h⟩ := h
            refine v_iald hC (Nat.le_of_ble_eq_true rfl) rfl rfl hi14 dX6_laid_85 ?_
            exact V.sub [] rfl (J11 _ (by rw [if_pos c11]))
          · replace h := hO11.2 c11
            refine v_iload hC 0 dX6_laid_72 rfl ?_
            refine v_goto hC 86 dX6_laid_74 (by decide) ?_
            exact V.sub [] rfl (J11 _ (by rw [if_neg c11]))
        · replace h := h.2 c6
          refine v_ldc hC kw652 dX6_laid_43 ?_
          exact v_iret hC hR h dX6_laid_45
      · replace h := h.2 c5
        refine v_ldc hC kw429 dX6_laid_29 ?_
        exact v_iret hC hR h dX6_laid_31
    · replace h := h.2 c4
      refine v_ldc hC kw377 dX6_laid_14 ?_
      exact v_iret hC hR h dX6_laid_16
theorem cmH_laid : CM yX6_laid cX6_laid 5 (some .int) rmH_laid 3 := ⟨kw75, kw748, rfl, rfl, by decide, by decide, by decide +kernel⟩
def rmD_findCut : Room := { frames := 2, cells := 0, slots := 0, locals := 53 }
def wD_findCut_l4 (Q : Int32 → gM → Prop)  : Nat → Int32 → Int32 → gM → Prop
  | 0, _, _, _ => False
  | n + 1, x1, x2, σ =>
    ((σ 24 4) ≤ x2 → (Q x1 σ)) ∧ (¬ ((σ 24 4) ≤ x2) → (wD_lineUpFrom x2 σ (fun (σ3 : gM) => wD_play  σ3 (fun (σ5 : gM) => ((σ5 31 0) ≤ x1 → (∀ x2_8 : Int32, x2_8 = x2 + (nI 1) → (wD_findCut_l4 Q n x1 x2_8 σ5))) ∧ (¬ ((σ5 31 0) ≤ x1) → (∀ x1_10 : Int32, x1_10 = (σ5 31 0) → (∀ σ11 : gM, σ11 = gU σ5 24 1 x2 → (∀ x2_12 : Int32, x2_12 = x2 + (nI 1) → (wD_findCut_l4 Q n x1_10 x2_12 σ11)))))))))
def wD_findCut  (σ : gM) (Q : Int32 → gM → Prop) : Prop :=
    ∃ n13 : Nat, wD_findCut_l4 Q n13 (-1 : Int32) (nI 0) σ
set_option maxHeartbeats 4000000 in
set_option maxRecDepth 100000 in
theorem tD_findCut_l4 {X : gX} {Q : Int32 → gM → Prop} (hC : VC X cX1_findCut RX1 3 rmD_findCut) (hR : VR X (some .int) (gPi Q))  : ∀ (n : Nat) (x1 : Int32) (x2 : Int32) (σ : gM), wD_findCut_l4 Q  n x1 x2 σ → V X 3 4 [(0, .ref (xad X 24)), (1, .int x1), (2, .int x2)] [] σ := by
  intro n
  induction n with
  | zero => intro x1 x2 σ h; exact h.elim
  | succ n ih =>
    intro x1 x2 σ h
    replace h : ((σ 24 4) ≤ x2 → (Q x1 σ)) ∧ (¬ ((σ 24 4) ≤ x2) → (wD_lineUpFrom x2 σ (fun (σ3 : gM) => wD_play  σ3 (fun (σ5 : gM) => ((σ5 31 0) ≤ x1 → (∀ x2_8 : Int32, x2_8 = x2 + (nI 1) → (wD_findCut_l4 Q n x1 x2_8 σ5))) ∧ (¬ ((σ5 31 0) ≤ x1) → (∀ x1_10 : Int32, x1_10 = (σ5 31 0) → (∀ σ11 : gM, σ11 = gU σ5 24 1 x2 → (∀ x2_12 : Int32, x2_12 = x2 + (nI 1) → (wD_findCut_l4 Q n x1_10 x2_12 σ11))))))))) := h
    refine v_iload_n hC 2 dX1_findCut_4 rfl ?_
    refine v_aload_n hC 0 dX1_findCut_5 rfl ?_
    refine gf_X1_52 hC dX1_findCut_6 ?_
    refine v_icmp_ge hC 49 dX1_findCut_9 (by decide) (fun c1 => ?_) (fun c1 => ?_)
    · replace h := h.1 c1
      refine v_iload_n hC 1 dX1_findCut_49 rfl ?_
      exact v_iret hC hR h dX1_findCut_50
    · replace h := h.2 c1
      refine v_aload_n hC 0 dX1_findCut_12 rfl ?_
      refine v_iload_n hC 2 dX1_findCut_13 rfl ?_
      refine v_callV hC (kD_lineUpFrom _ _ _ h) cmD_lineUpFrom ⟨kw708, kw709⟩ kw761 ⟨Nat.le_of_ble_eq_true rfl, Nat.le_of_ble_eq_true rfl⟩ (Nat.le_of_ble_eq_true rfl) rfl (ci := 1) (T := TX1) (N := 14) rfl (As := fun G => [.int x2]) (fun _ => rfl) (fun _ => rfl) (st := []) (Nat.le_of_ble_eq_true rfl) rfl dX1_findCut_14 (kk_v (fun σ3 h => ?_))
      refine v_aload_n hC 0 dX1_findCut_17 rfl ?_
      refine v_callV hC (kD_play  _ _ h) cmD_play ⟨kw712, kw713⟩ kw762 ⟨Nat.le_of_ble_eq_true rfl, Nat.le_of_ble_eq_true rfl⟩ (Nat.le_of_ble_eq_true rfl) rfl (ci := 1) (T := TX1) (N := 14) rfl (As := fun G => []) (fun _ => rfl) (fun _ => rfl) (st := []) (Nat.le_of_ble_eq_true rfl) rfl dX1_findCut_18 (kk_v (fun σ5 h => ?_))
      refine v_aload_n hC 0 dX1_findCut_21 rfl ?_
      refine gf_X1_30 hC dX1_findCut_22 ?_
      refine v_iconst hC (nI 0) dX1_findCut_25 rfl ?_
      refine v_iald hC (Nat.le_of_ble_eq_true rfl) rfl (j := 0) (by decide) (by unfold vp_in; decide) dX1_findCut_26 ?_
      refine v_iload_n hC 1 dX1_findCut_27 rfl ?_
      refine v_icmp_le hC 43 dX1_findCut_28 (by decide) (fun c7 => ?_) (fun c7 => ?_)
      · replace h := h.1 c7
        refine v_iincN hC (nI 1) 2 dX1_findCut_43 rfl rfl (by decide) (lo2 := fun x2_8 => [(2, .int x2_8), (0, .ref (xad X 24)), (1, .int x1)]) (fun _ => rfl) (fun x2_8 e8 => ?_)
        replace h := h x2_8 e8
        refine v_goto hC 4 dX1_findCut_46 (by decide) ?_
        exact V.sub [1, 2, 0] rfl (ih _ _ _ h)
      · replace h := h.2 c7
        refine v_aload_n hC 0 dX1_findCut_31 rfl ?_
        refine gf_X1_30 hC dX1_findCut_32 ?_
        refine v_iconst hC (nI 0) dX1_findCut_35 rfl ?_
        refine v_iald hC (Nat.le_of_ble_eq_true rfl) rfl (j := 0) (by decide) (by unfold vp_in; decide) dX1_findCut_36 ?_
        refine v_istore_nN hC dX1_findCut_37 (by decide) (lo2 := fun x1_10 => [(1, .int x1_10), (0, .ref (xad X 24)), (2, .int x2)]) (fun _ => rfl) (fun x1_10 e10 => ?_)
        replace h := h x1_10 e10
        refine v_aload_n hC 1 dX1_findCut_38 rfl ?_
        refine v_iload_n hC 2 dX1_findCut_39 rfl ?_
        refine pf_X1_94 hC dX1_findCut_40 (fun σ11 e11 => ?_)
        replace h := h σ11 e11
        refine v_iincN hC (nI 1) 2 dX1_findCut_43 rfl rfl (by decide) (lo2 := fun x2_12 => [(2, .int x2_12), (1, .int x1_10), (0, .ref (xad X 24))]) (fun _ => rfl) (fun x2_12 e12 => ?_)
        replace h := h x2_12 e12
        refine v_goto hC 4 dX1_findCut_46 (by decide) ?_
        exact V.sub [2, 1, 0] rfl (ih _ _ _ h)
set_option maxHeartbeats 4000000 in
set_option maxRecDepth 100000 in
theorem kD_findCut  (σ : gM) (Q : Int32 → gM → Prop) (h : wD_findCut  σ Q) : CT yX1_findCut cX1_findCut 3 (some .int) rmD_findCut (fun G => [.ref (gad G 24)]) σ (gPi Q) := by
  refine c_enter (by decide) (fun _ => Nat.le_of_ble_eq_true rfl) (fun X hC hR => ?_)
  show V X 3 0 [(0, .ref (xad X 24))] [] σ
  replace h : ∃ n13 : Nat, wD_findCut_l4 Q n13 (-1 : Int32) (nI 0) σ := h
  refine v_iconst hC (-1 : Int32) dX1_findCut_0 rfl ?_
  refine v_istore_n hC dX1_findCut_1 (by decide) rfl ?_
  refine v_iconst hC (nI 0) dX1_findCut_2 rfl ?_
  refine v_istore_n hC dX1_findCut_3 (by decide) rfl ?_
  obtain ⟨n13, h⟩ := h
  exact V.sub [2, 1, 0] rfl (tD_findCut_l4 hC hR  n13 _ _ _ h)
theorem cmD_findCut : CM yX1_findCut cX1_findCut 3 (some .int) rmD_findCut 0 := ⟨kw79, kw775, rfl, rfl, by decide, by decide, by decide +kernel⟩
def rmH_ring : Room := { frames := 4, cells := 0, slots := 0, locals := 111 }
def wH_ring (x1 : Int32) (x2 : Int32) (x3 : Int32) (σ : gM) (Q : Int32 → gM → Prop) : Prop :=
    wH_areNoTwo x1 x2 σ (fun (r2 : Int32) (σ2 : gM) => (r2 = nI 0 → ((x3 < nI 0 → (Q (-1000001 : Int32) σ2)) ∧ (¬ (x3 < nI 0) → ((x3 ≤ (nI 1) → (((σ2 42 5) = nI 0 → (Q (-1000000 : Int32) σ2)) ∧ (¬ ((σ2 42 5) = nI 0) → (wD_seat x1 x2 σ2 (fun (σ8 : gM) => wD_findCut  σ8 (fun (r10 : Int32) (σ10 : gM) => ∀ v12 : Int32, v12 = (if x3 = nI 0 then r10 else (σ10 24 1)) → (Q v12 σ10))))))) ∧ (¬ (x3 ≤ (nI 1)) → (Q (-1000001 : Int32) σ2)))))) ∧ (¬ (r2 = nI 0) → (Q (-1000001 : Int32) σ2)))
set_option maxHeartbeats 4000000 in
set_option maxRecDepth 100000 in
theorem kH_ring (x1 : Int32) (x2 : Int32) (x3 : Int32) (σ : gM) (Q : Int32 → gM → Prop) (h : wH_ring x1 x2 x3 σ Q) : CT yX6_ring cX6_ring 5 (some .int) rmH_ring (fun G => [.ref (gad G 0), .int x1, .int x2, .int x3]) σ (gPi Q) := by
  refine c_enter (by decide) (fun _ => Nat.le_of_ble_eq_true rfl) (fun X hC hR => ?_)
  show V X 5 0 [(0, .ref (xad X 0)), (1, .int x1), (2, .int x2), (3, .int x3)] [] σ
  replace h : wH_areNoTwo x1 x2 σ (fun (r2 : Int32) (σ2 : gM) => (r2 = nI 0 → ((x3 < nI 0 → (Q (-1000001 : Int32) σ2)) ∧ (¬ (x3 < nI 0) → ((x3 ≤ (nI 1) → (((σ2 42 5) = nI 0 → (Q (-1000000 : Int32) σ2)) ∧ (¬ ((σ2 42 5) = nI 0) → (wD_seat x1 x2 σ2 (fun (σ8 : gM) => wD_findCut  σ8 (fun (r10 : Int32) (σ10 : gM) => ∀ v12 : Int32, v12 = (if x3 = nI 0 then r10 else (σ10 24 1)) → (Q v12 σ10))))))) ∧ (¬ (x3 ≤ (nI 1)) → (Q (-1000001 : Int32) σ2)))))) ∧ (¬ (r2 = nI 0) → (Q (-1000001 : Int32) σ2))) := h
  refine v_aload_n hC 0 dX6_ring_0 rfl ?_
  refine v_iload_n hC 1 dX6_ring_1 rfl ?_
  refine v_iload_n hC 2 dX6_ring_2 rfl ?_
  refine v_callV hC (kH_areNoTwo _ _ _ _ h) cmH_areNoTwo ⟨kw700, kw21⟩ kw698 ⟨Nat.le_of_ble_eq_true rfl, Nat.le_of_ble_eq_true rfl⟩ (Nat.le_of_ble_eq_true rfl) rfl (ci := 6) (T := TX6) (N := 12) rfl (As := fun G => [.int x1, .int x2]) (fun _ => rfl) (fun _ => rfl) (st := []) (Nat.le_of_ble_eq_true rfl) rfl dX6_ring_3 (kk_i (fun r2 σ2 h => ?_))
  refine v_if_ne hC 18 dX6_ring_6 (by decide) (fun c3 => ?_) (fun c3 => ?_)
  · replace h := h.2 c3
    refine v_ldc hC kw377 dX6_ring_18 ?_
    exact v_iret hC hR h dX6_ring_20
  · replace h := h.1 c3
    refine v_iload_n hC 3 dX6_ring_9 rfl ?_
    refine v_if_lt hC 18 dX6_ring_10 (by decide) (fun c4 => ?_) (fun c4 => ?_)
    · replace h := h.1 c4
      refine v_ldc hC kw377 dX6_ring_18 ?_
      exact v_iret hC hR h dX6_ring_20
    · replace h := h.2 c4
      refine v_iload_n hC 3 dX6_ring_13 rfl ?_
      refine v_iconst hC (nI 1) dX6_ring_14 rfl ?_
      refine v_icmp_le hC 21 dX6_ring_15 (by decide) (fun c5 => ?_) (fun c5 => ?_)
      · replace h := h.1 c5
        refine v_aload_n hC 0 dX6_ring_21 rfl ?_
        refine gf_X6_25 hC dX6_ring_22 ?_
        refine gf_X6_148_42 hC dX6_ring_25 ?_
        refine v_if_ne hC 34 dX6_ring_28 (by decide) (fun c6 => ?_) (fun c6 => ?_)
        · replace h := h.2 c6
          refine v_aload_n hC 0 dX6_ring_34 rfl ?_
          refine gf_X6_46 hC dX6_ring_35 ?_
          refine v_aload_n hC 0 dX6_ring_38 rfl ?_
          refine gf_X6_25 hC dX6_ring_39 ?_
          refine v_iload_n hC 1 dX6_ring_42 rfl ?_
          refine v_iload_n hC 2 dX6_ring_43 rfl ?_
          refine v_callV hC (kD_seat _ _ _ _ h) cmD_seat ⟨kw703, kw704⟩ kw702 ⟨Nat.le_of_ble_eq_true rfl, Nat.le_of_ble_eq_true rfl⟩ (Nat.le_of_ble_eq_true rfl) rfl (ci := 1) (T := TX1) (N := 14) rfl (As := fun G => [.ref (gad G 42), .int x1, .int x2]) (fun _ => rfl) (fun _ => rfl) (st := []) (Nat.le_of_ble_eq_true rfl) rfl dX6_ring_44 (kk_v (fun σ8 h => ?_))
          refine v_aload_n hC 0 dX6_ring_47 rfl ?_
          refine gf_X6_46 hC dX6_ring_48 ?_
          refine v_callV hC (kD_findCut  _ _ h) cmD_findCut ⟨kw773, kw774⟩ kw772 ⟨Nat.le_of_ble_eq_true rfl, Nat.le_of_ble_eq_true rfl⟩ (Nat.le_of_ble_eq_true rfl) rfl (ci := 1) (T := TX1) (N := 14) rfl (As := fun G => []) (fun _ => rfl) (fun _ => rfl) (st := []) (Nat.le_of_ble_eq_true rfl) rfl dX6_ring_51 (kk_i (fun r10 σ10 h => ?_))
          refine v_istore hC dX6_ring_54 (by decide) rfl ?_
          refine v_iload_n hC 4 dX6_ring_56 rfl ?_
          have J11 : ∀ (v12 : Int32) (ev12 : v12 = (if x3 = nI 0 then r10 else (σ10 24 1))), V X 5 72 [] [.int v12] σ10 := by
            intro v12 ev12
            replace h := h v12 ev12
            exact v_iret hC hR h dX6_ring_72
          refine v_if_ne hC 65 dX6_ring_57 (by decide) (fun c11 => ?_) (fun c11 => ?_)
          · refine v_aload_n hC 1 dX6_ring_65 rfl ?_
            refine gf_X6_46 hC dX6_ring_66 ?_
            refine gf_X6_272 hC dX6_ring_69 ?_
            exact V.sub [] rfl (J11 _ (by rw [if_neg c11]))
          · refine v_iload hC 0 dX6_ring_60 rfl ?_
            refine v_goto hC 72 dX6_ring_62 (by decide) ?_
            exact V.sub [] rfl (J11 _ (by rw [if_pos c11]))
        · replace h := h.1 c6
          refine v_ldc hC kw652 dX6_ring_31 ?_
          exact v_iret hC hR h dX6_ring_33
      · replace h := h.2 c5
        refine v_ldc hC kw377 dX6_ring_18 ?_
        exact v_iret hC hR h dX6_ring_20
theorem cmH_ring : CM yX6_ring cX6_ring 5 (some .int) rmH_ring 3 := ⟨kw75, kw771, rfl, rfl, by decide, by decide, by decide +kernel⟩
def rmR_isBelow : Room := { frames := 0, cells := 0, slots := 0, locals := 0 }
def wR_isBelow_l3 (r : Nat) (Q : Int32 → gM → Prop)  : Nat → Int32 → Int32 → Int32 → Int32 → gM → Prop
  | 0, _, _, _, _, _ => False
  | n + 1, x1, x2, x3, x4, σ =>
    ((x2 + x3) ≤ x4 → (Q (nI 1) σ)) ∧ (¬ ((x2 + x3) ≤ x4) → (vp_in x4 40 ∧ (((σ (2 + 2 * r + 1) x4.toNatClampNeg) < nI 0 → (Q (nI 0) σ)) ∧ (¬ ((σ (2 + 2 * r + 1) x4.toNatClampNeg) < nI 0) → (vp_in x4 40 ∧ (((σ (2 + 2 * r + 1) x4.toNatClampNeg) < x1 → (∀ x4_6 : Int32, x4_6 = x4 + (nI 1) → (wR_isBelow_l3 r Q n x1 x2 x3 x4_6 σ))) ∧ (¬ ((σ (2 + 2 * r + 1) x4.toNatClampNeg) < x1) → (Q (nI 0) σ))))))))
def wR_isBelow (r : Nat) (x1 : Int32) (x2 : Int32) (x3 : Int32) (σ : gM) (Q : Int32 → gM → Prop) : Prop :=
    ∃ n7 : Nat, wR_isBelow_l3 r Q n7 x1 x2 x3 x2 σ
set_option maxHeartbeats 4000000 in
set_option maxRecDepth 100000 in
theorem tR_isBelow_l3 {X : gX} {Q : Int32 → gM → Prop} (hC : VC X cX3_isBelow RX3 5 rmR_isBelow) (hR : VR X (some .boolean) (gPi Q)) {r : Nat} (hr : r < 8)  : ∀ (n : Nat) (x1 : Int32) (x2 : Int32) (x3 : Int32) (x4 : Int32) (σ : gM), wR_isBelow_l3 r Q  n x1 x2 x3 x4 σ → V X 5 3 [(0, .ref (xad X (2 + 2 * r))), (1, .int x1), (2, .int x2), (3, .int x3), (4, .int x4)] [] σ := by
  intro n
  induction n with
  | zero => intro x1 x2 x3 x4 σ h; exact h.elim
  | succ n ih =>
    intro x1 x2 x3 x4 σ h
    replace h : ((x2 + x3) ≤ x4 → (Q (nI 1) σ)) ∧ (¬ ((x2 + x3) ≤ x4) → (vp_in x4 40 ∧ (((σ (2 + 2 * r + 1) x4.toNatClampNeg) < nI 0 → (Q (nI 0) σ)) ∧ (¬ ((σ (2 + 2 * r + 1) x4.toNatClampNeg) < nI 0) → (vp_in x4 40 ∧ (((σ (2 + 2 * r + 1) x4.toNatClampNeg) < x1 → (∀ x4_6 : Int32, x4_6 = x4 + (nI 1) → (wR_isBelow_l3 r Q n x1 x2 x3 x4_6 σ))) ∧ (¬ ((σ (2 + 2 * r + 1) x4.toNatClampNeg) < x1) → (Q (nI 0) σ)))))))) := h
    refine v_iload hC 4 dX3_isBelow_3 rfl ?_
    refine v_iload_n hC 2 dX3_isBelow_5 rfl ?_
    refine v_iload_n hC 3 dX3_isBelow_6 rfl ?_
    refine v_iadd hC dX3_isBelow_7 ?_
    refine v_icmp_ge hC 40 dX3_isBelow_8 (by decide) (fun c1 => ?_) (fun c1 => ?_)
    · replace h := h.1 c1
      refine v_iconst hC (nI 1) dX3_isBelow_40 rfl ?_
      exact v_zret hC hR rfl h dX3_isBelow_41
    · replace h := h.2 c1
      refine v_aload_n hC 0 dX3_isBelow_11 rfl ?_
      refine gf_X3_9 hC hr dX3_isBelow_12 ?_
      refine v_iload hC 4 dX3_isBelow_15 rfl ?_
      obtain ⟨hi2, h⟩ := h
      refine v_iald hC (rowi_lt hr) (gSh_row _ hr).2 rfl hi2 dX3_isBelow_17 ?_
      refine v_if_lt hC 32 dX3_isBelow_18 (by decide) (fun c3 => ?_) (fun c3 => ?_)
      · replace h := h.1 c3
        refine v_iconst hC (nI 0) dX3_isBelow_32 rfl ?_
        exact v_zret hC hR rfl h dX3_isBelow_33
      · replace h := h.2 c3
        refine v_aload_n hC 0 dX3_isBelow_21 rfl ?_
        refine gf_X3_9 hC hr dX3_isBelow_22 ?_
        refine v_iload hC 4 dX3_isBelow_25 rfl ?_
        obtain ⟨hi4, h⟩ := h
        refine v_iald hC (rowi_lt hr) (gSh_row _ hr).2 rfl hi4 dX3_isBelow_27 ?_
        refine v_iload_n hC 1 dX3_isBelow_28 rfl ?_
        refine v_icmp_lt hC 34 dX3_isBelow_29 (by decide) (fun c5 => ?_) (fun c5 => ?_)
        · replace h := h.1 c5
          refine v_iincN hC (nI 1) 4 dX3_isBelow_34 rfl rfl (by decide) (lo2 := fun x4_6 => [(4, .int x4_6), (0, .ref (xad X (2 + 2 * r))), (1, .int x1), (2, .int x2), (3, .int x3)]) (fun _ => rfl) (fun x4_6 e6 => ?_)
          replace h := h x4_6 e6
          refine v_goto hC 3 dX3_isBelow_37 (by decide) ?_
          exact V.sub [1, 2, 3, 4, 0] rfl (ih _ _ _ _ _ h)
        · replace h := h.2 c5
          refine v_iconst hC (nI 0) dX3_isBelow_32 rfl ?_
          exact v_zret hC hR rfl h dX3_isBelow_33
set_option maxHeartbeats 4000000 in
set_option maxRecDepth 100000 in
theorem kR_isBelow {r : Nat} (hr : r < 8) (x1 : Int32) (x2 : Int32) (x3 : Int32) (σ : gM) (Q : Int32 → gM → Prop) (h : wR_isBelow r x1 x2 x3 σ Q) : CT yX3_isBelow cX3_isBelow 5 (some .boolean) rmR_isBelow (fun G => [.ref (gad G (2 + 2 * r)), .int x1, .int x2, .int x3]) σ (gPi Q) := by
  refine c_enter (by decide) (fun _ => Nat.le_of_ble_eq_true rfl) (fun X hC hR => ?_)
  show V X 5 0 [(0, .ref (xad X (2 + 2 * r))), (1, .int x1), (2, .int x2), (3, .int x3)] [] σ
  replace h : ∃ n7 : Nat, wR_isBelow_l3 r Q n7 x1 x2 x3 x2 σ := h
  refine v_iload_n hC 2 dX3_isBelow_0 rfl ?_
  refine v_istore hC dX3_isBelow_1 (by decide) rfl ?_
  obtain ⟨n7, h⟩ := h
  exact V.sub [1, 2, 3, 4, 0] rfl (tR_isBelow_l3 hC hR hr  n7 _ _ _ _ _ h)
theorem cmR_isBelow : CM yX3_isBelow cX3_isBelow 5 (some .boolean) rmR_isBelow 3 := ⟨kw81, kw783, rfl, rfl, by decide, by decide, by decide +kernel⟩
def rmS_behindLine : Room := { frames := 3, cells := 0, slots := 0, locals := 86 }
def wS_behindLine_row_l17 (r : Nat) (Q : Int32 → gM → Prop)  : Nat → Int32 → Int32 → Int32 → Int32 → Int32 → Int32 → Int32 → gM → Prop
  | 0, _, _, _, _, _, _, _, _ => False
  | n + 1, x3, x4, x5, x6, x7, x8, x9, σ =>
    ((x3 + x4) ≤ x9 → (∀ v4 : Int32, v4 = (if nI 0 ≤ x5 then x8 else ((x7 - x6) + (nI 1))) → (Q v4 σ))) ∧ (¬ ((x3 + x4) ≤ x9) → ((x7 < x6 → (∀ v7 : Int32, v7 = (if nI 0 ≤ x5 then x8 else ((x7 - x6) + (nI 1))) → (Q v7 σ))) ∧ (¬ (x7 < x6) → (vp_in x9 40 ∧ (∀ x10_9 : Int32, x10_9 = (σ (2 + 2 * r + 1) x9.toNatClampNeg) → (vp_in x6 16 ∧ (wK42_valueTo x10_9 (σ 51 x6.toNatClampNeg) (nI 0) σ (fun (r12 : Int32) (σ12 : gM) => vp_in x7 16 ∧ (wK42_valueTo x10_9 (σ12 51 x7.toNatClampNeg) (nI 0) σ12 (fun (r15 : Int32) (σ15 : gM) => (x10_9 = x5 → (∀ x8_18 : Int32, x8_18 = (x8 + (if r12 < r15 then r15 else r12)) → ((r15 ≤ r12 → (∀ x6_20 : Int32, x6_20 = x6 + (nI 1) → (∀ x9_21 : Int32, x9_21 = x9 + (nI 1) → (wS_behindLine_row_l17 r Q n x3 x4 x5 x6_20 x7 x8_18 x9_21 σ15)))) ∧ (¬ (r15 ≤ r12) → (∀ x7_22 : Int32, x7_22 = x7 + (-1 : Int32) → (∀ x9_23 : Int32, x9_23 = x9 + (nI 1) → (wS_behindLine_row_l17 r Q n x3 x4 x5 x6 x7_22 x8_18 x9_23 σ15))))))) ∧ (¬ (x10_9 = x5) → ((r15 ≤ r12 → (∀ x6_25 : Int32, x6_25 = x6 + (nI 1) → (∀ x9_26 : Int32, x9_26 = x9 + (nI 1) → (wS_behindLine_row_l17 r Q n x3 x4 x5 x6_25 x7 x8 x9_26 σ15)))) ∧ (¬ (r15 ≤ r12) → (∀ x7_27 : Int32, x7_27 = x7 + (-1 : Int32) → (∀ x9_28 : Int32, x9_28 = x9 + (nI 1) → (wS_behindLine_row_l17 r Q n x3 x4 x5 x6 x7_27 x8 x9_28 σ15))))))))))))))))
def wS_behindLine_row (r : Nat) (x3 : Int32) (x4 : Int32) (x5 : Int32) (σ : gM) (Q : Int32 → gM → Prop) : Prop :=
    ∀ x7_1 : Int32, x7_1 = ((σ 42 5) - (nI 1)) → (∃ n29 : Nat, wS_behindLine_row_l17 r Q n29 x3 x4 x5 (nI 0) x7_1 (nI 0) x3 σ)
set_option maxHeartbeats 4000000 in
set_option maxRecDepth 100000 in
theorem tS_behindLine_row_l17 {X : gX} {Q : Int32 → gM → Prop} (hC : VC X cX4_behindLine RX4 13 rmS_behindLine) (hR : VR X (some .int) (gPi Q)) {r : Nat} (hr : r < 8)  : ∀ (n : Nat) (x3 : Int32) (x4 : Int32) (x5 : Int32) (x6 : Int32) (x7 : Int32) (x8 : Int32) (x9 : Int32) (σ : gM), wS_behindLine_row_l17 r Q  n x3 x4 x5 x6 x7 x8 x9 σ → V X 13 17 [(1, .ref (xad X 42)), (2, .ref (xad X (2 + 2 * r))), (3, .int x3), (4, .int x4), (5, .int x5), (6, .int x6), (7, .int x7), (8, .int x8), (9, .int x9)] [] σ := by
  intro n
  induction n with
  | zero => intro x3 x4 x5 x6 x7 x8 x9 σ h; exact h.elim
  | succ n ih =>
    intro x3 x4 x5 x6 x7 x8 x9 σ h
    replace h : ((x3 + x4) ≤ x9 → (∀ v4 : Int32, v4 = (if nI 0 ≤ x5 then x8 else ((x7 - x6) + (nI 1))) → (Q v4 σ))) ∧ (¬ ((x3 + x4) ≤ x9) → ((x7 < x6 → (∀ v7 : Int32, v7 = (if nI 0 ≤ x5 then x8 else ((x7 - x6) + (nI 1))) → (Q v7 σ))) ∧ (¬ (x7 < x6) → (vp_in x9 40 ∧ (∀ x10_9 : Int32, x10_9 = (σ (2 + 2 * r + 1) x9.toNatClampNeg) → (vp_in x6 16 ∧ (wK42_valueTo x10_9 (σ 51 x6.toNatClampNeg) (nI 0) σ (fun (r12 : Int32) (σ12 : gM) => vp_in x7 16 ∧ (wK42_valueTo x10_9 (σ12 51 x7.toNatClampNeg) (nI 0) σ12 (fun (r15 : Int32) (σ15 : gM) => (x10_9 = x5 → (∀ x8_18 : Int32, x8_18 = (x8 + (if r12 < r15 then r15 else r12)) → ((r15 ≤ r12 → (∀ x6_20 : Int32, x6_20 = x6 + (nI 1) → (∀ x9_21 : Int32, x9_21 = x9 + (nI 1) → (wS_behindLine_row_l17 r Q n x3 x4 x5 x6_20 x7 x8_18 x9_21 σ15)))) ∧ (¬ (r15 ≤ r12) → (∀ x7_22 : Int32, x7_22 = x7 + (-1 : Int32) → (∀ x9_23 : Int32, x9_23 = x9 + (nI 1) → (wS_behindLine_row_l17 r Q n x3 x4 x5 x6 x7_22 x8_18 x9_23 σ15))))))) ∧ (¬ (x10_9 = x5) → ((r15 ≤ r12 → (∀ x6_25 : Int32, x6_25 = x6 + (nI 1) → (∀ x9_26 : Int32, x9_26 = x9 + (nI 1) → (wS_behindLine_row_l17 r Q n x3 x4 x5 x6_25 x7 x8 x9_26 σ15)))) ∧ (¬ (r15 ≤ r12) → (∀ x7_27 : Int32, x7_27 = x7 + (-1 : Int32) → (∀ x9_28 : Int32, x9_28 = x9 + (nI 1) → (wS_behindLine_row_l17 r Q n x3 x4 x5 x6 x7_27 x8 x9_28 σ15)))))))))))))))) := h
    refine v_iload hC 8 dX4_behindLine_17 rfl ?_
    refine v_iload_n hC 2 dX4_behindLine_19 rfl ?_
    refine v_iload hC 3 dX4_behindLine_20 rfl ?_
    refine v_iadd hC dX4_behindLine_22 ?_
    refine v_icmp_ge hC 115 dX4_behindLine_23 (by decide) (fun c2 => ?_) (fun c2 => ?_)
    · replace h := h.1 c2
      refine v_iload hC 4 dX4_behindLine_115 rfl ?_
      have J3 : ∀ (v4 : Int32) (ev4 : v4 = (if nI 0 ≤ x5 then x8 else ((x7 - x6) + (nI 1)))), V X 13 132 [] [.int v4] σ := by
        intro v4 ev4
        replace h := h v4 ev4
        exact v_iret hC hR h dX4_behindLine_132
      refine v_if_ge hC 130 dX4_behindLine_117 (by decide) (fun c3 => ?_) (fun c3 => ?_)
      · refine v_iload hC 7 dX4_behindLine_130 rfl ?_
        exact V.sub [] rfl (J3 _ (by rw [if_pos c3]))
      · refine v_iload hC 6 dX4_behindLine_120 rfl ?_
        refine v_iload hC 5 dX4_behindLine_122 rfl ?_
        refine v_isub hC dX4_behindLine_124 ?_
        refine v_iconst hC (nI 1) dX4_behindLine_125 rfl ?_
        refine v_iadd hC dX4_behindLine_126 ?_
        refine v_goto hC 132 dX4_behindLine_127 (by decide) ?_
        exact V.sub [] rfl (J3 _ (by rw [if_neg c3]))
    · replace h := h.2 c2
      refine v_iload hC 5 dX4_behindLine_26 rfl ?_
      refine v_iload hC 6 dX4_behindLine_28 rfl ?_
      refine v_icmp_gt hC 115 dX4_behindLine_30 (by decide) (fun c5 => ?_) (fun c5 => ?_)
      · replace h := h.1 c5
        refine v_iload hC 4 dX4_behindLine_115 rfl ?_
        have J6 : ∀ (v7 : Int32) (ev7 : v7 = (if nI 0 ≤ x5 then x8 else ((x7 - x6) + (nI 1)))), V X 13 132 [] [.int v7] σ := by
          intro v7 ev7
          replace h := h v7 ev7
          exact v_iret hC hR h dX4_behindLine_132
        refine v_if_ge hC 130 dX4_behindLine_117 (by decide) (fun c6 => ?_) (fun c6 => ?_)
        · refine v_iload hC 7 dX4_behindLine_130 rfl ?_
          exact V.sub [] rfl (J6 _ (by rw [if_pos c6]))
        · refine v_iload hC 6 dX4_behindLine_120 rfl ?_
          refine v_iload hC 5 dX4_behindLine_122 rfl ?_
          refine v_isub hC dX4_behindLine_124 ?_
          refine v_iconst hC (nI 1) dX4_behindLine_125 rfl ?_
          refine v_iadd hC dX4_behindLine_126 ?_
          refine v_goto hC 132 dX4_behindLine_127 (by decide) ?_
          exact V.sub [] rfl (J6 _ (by rw [if_neg c6]))
      · replace h := h.2 c5
        refine v_aload_n hC 1 dX4_behindLine_33 rfl ?_
        refine gf_X4_30 hC hr dX4_behindLine_34 ?_
        refine v_iload hC 8 dX4_behindLine_37 rfl ?_
        obtain ⟨hi8, h⟩ := h
        refine v_iald hC (rowi_lt hr) (gSh_row _ hr).2 rfl hi8 dX4_behindLine_39 ?_
        refine v_istoreN hC dX4_behindLine_40 (by decide) (lo2 := fun x10_9 => [(10, .int x10_9), (1, .ref (xad X 42)), (2, .ref (xad X (2 + 2 * r))), (3, .int x3), (4, .int x4), (5, .int x5), (6, .int x6), (7, .int x7), (8, .int x8), (9, .int x9)]) (fun _ => rfl) (fun x10_9 e9 => ?_)
        replace h := h x10_9 e9
        refine v_aload_n hC 1 dX4_behindLine_42 rfl ?_
        refine v_iload hC 0 dX4_behindLine_43 rfl ?_
        refine v_aload_n hC 1 dX4_behindLine_45 rfl ?_
        refine gf_X4_35_42 hC dX4_behindLine_46 ?_
        refine v_iload hC 6 dX4_behindLine_49 rfl ?_
        obtain ⟨hi10, h⟩ := h
        refine v_iald hC (Nat.le_of_ble_eq_true rfl) rfl rfl hi10 dX4_behindLine_51 ?_
        refine v_iconst hC (nI 0) dX4_behindLine_52 rfl ?_
        refine v_callV hC (kK42_valueTo _ _ _ _ _ h) cmK_valueTo ⟨kw626, kw627⟩ kw788 ⟨Nat.le_of_ble_eq_true rfl, Nat.le_of_ble_eq_true rfl⟩ (Nat.le_of_ble_eq_true rfl) rfl (ci := 2) (T := TX2) (N := 15) rfl (As := fun G => [.int x10_9, .int (σ 51 x6.toNatClampNeg), .int (nI 0)]) (fun _ => rfl) (fun _ => rfl) (st := []) (Nat.le_of_ble_eq_true rfl) rfl dX4_behindLine_53 (kk_i (fun r12 σ12 h => ?_))
        refine v_istore hC dX4_behindLine_56 (by decide) rfl ?_
        refine v_aload_n hC 2 dX4_behindLine_58 rfl ?_
        refine v_iload hC 1 dX4_behindLine_59 rfl ?_
        refine v_aload_n hC 2 dX4_behindLine_61 rfl ?_
        refine gf_X4_35_42 hC dX4_behindLine_62 ?_
        refine v_iload hC 8 dX4_behindLine_65 rfl ?_
        obtain ⟨hi13, h⟩ := h
        refine v_iald hC (Nat.le_of_ble_eq_true rfl) rfl rfl hi13 dX4_behindLine_67 ?_
        refine v_iconst hC (nI 0) dX4_behindLine_68 rfl ?_
        refine v_callV hC (kK42_valueTo _ _ _ _ _ h) cmK_valueTo ⟨kw626, kw627⟩ kw788 ⟨Nat.le_of_ble_eq_true rfl, Nat.le_of_ble_eq_true rfl⟩ (Nat.le_of_ble_eq_true rfl) rfl (ci := 2) (T := TX2) (N := 15) rfl (As := fun G => [.int x10_9, .int (σ12 51 x7.toNatClampNeg), .int (nI 0)]) (fun _ => rfl) (fun _ => rfl) (st := []) (Nat.le_of_ble_eq_true rfl) rfl dX4_behindLine_69 (kk_i (fun r15 σ15 h => ?_))
        refine v_istore hC dX4_behindLine_72 (by decide) rfl ?_
        refine v_iload hC 2 dX4_behindLine_74 rfl ?_
        refine v_iload hC 7 dX4_behindLine_76 rfl ?_
        refine v_icmp_ne hC 93 dX4_behindLine_78 (by decide) (fun c16 => ?_) (fun c16 => ?_)
        · replace h := h.2 c16
          refine v_iload hC 0 dX4_behindLine_93 rfl ?_
          refine v_iload hC 1 dX4_behindLine_95 rfl ?_
          refine v_icmp_le hC 106 dX4_behindLine_97 (by decide) (fun c24 => ?_) (fun c24 => ?_)
          · replace h := h.1 c24
            refine v_iincN hC (nI 1) 8 dX4_behindLine_106 rfl rfl (by decide) (lo2 := fun x6_25 => [(6, .int x6_25), (12, .int r15), (11, .int r12), (10, .int x10_9), (1, .ref (xad X 42)), (2, .ref (xad X (2 + 2 * r))), (3, .int x3), (4, .int x4), (5, .int x5), (7, .int x7), (8, .int x8), (9, .int x9)]) (fun _ => rfl) (fun x6_25 e25 => ?_)
            replace h := h x6_25 e25
            refine v_iincN hC (nI 1) 11 dX4_behindLine_109 rfl rfl (by decide) (lo2 := fun x9_26 => [(9, .int x9_26), (6, .int x6_25), (12, .int r15), (11, .int r12), (10, .int x10_9), (1, .ref (xad X 42)), (2, .ref (xad X (2 + 2 * r))), (3, .int x3), (4, .int x4), (5, .int x5), (7, .int x7), (8, .int x8)]) (fun _ => rfl) (fun x9_26 e26 => ?_)
            replace h := h x9_26 e26
            refine v_goto hC 17 dX4_behindLine_112 (by decide) ?_
            exact V.sub [5, 6, 7, 8, 9, 1, 10, 11, 0] rfl (ih _ _ _ _ _ _ _ _ h)
          · replace h := h.2 c24
            refine v_iincN hC (-1 : Int32) 9 dX4_behindLine_100 rfl rfl (by decide) (lo2 := fun x7_27 => [(7, .int x7_27), (12, .int r15), (11, .int r12), (10, .int x10_9), (1, .ref (xad X 42)), (2, .ref (xad X (2 + 2 * r))), (3, .int x3), (4, .int x4), (5, .int x5), (6, .int x6), (8, .int x8), (9, .int x9)]) (fun _ => rfl) (fun x7_27 e27 => ?_)
            replace h := h x7_27 e27
            refine v_goto hC 109 dX4_behindLine_103 (by decide) ?_
            refine v_iincN hC (nI 1) 11 dX4_behindLine_109 rfl rfl (by decide) (lo2 := fun x9_28 => [(9, .int x9_28), (7, .int x7_27), (12, .int r15), (11, .int r12), (10, .int x10_9), (1, .ref (xad X 42)), (2, .ref (xad X (2 + 2 * r))), (3, .int x3), (4, .int x4), (5, .int x5), (6, .int x6), (8, .int x8)]) (fun _ => rfl) (fun x9_28 e28 => ?_)
            replace h := h x9_28 e28
            refine v_goto hC 17 dX4_behindLine_112 (by decide) ?_
            exact V.sub [5, 6, 7, 8, 9, 10, 1, 11, 0] rfl (ih _ _ _ _ _ _ _ _ h)
        · replace h := h.1 c16
          refine v_iload hC 10 dX4_behindLine_81 rfl ?_
          refine v_iload hC 1 dX4_behindLine_83 rfl ?_
          refine v_iload hC 0 dX4_behindLine_85 rfl ?_
          refine v_mmax hC kw789 kw611 kw89 kw612 (Nat.le_of_ble_eq_true rfl) (Nat.le_of_ble_eq_true rfl) dX4_behindLine_87 ?_
          refine v_iadd hC dX4_behindLine_90 ?_
          refine v_istoreN hC dX4_behindLine_91 (by decide) (lo2 := fun x8_18 => [(8, .int x8_18), (12, .int r15), (11, .int r12), (10, .int x10_9), (1, .ref (xad X 42)), (2, .ref (xad X (2 + 2 * r))), (3, .int x3), (4, .int x4), (5, .int x5), (6, .int x6), (7, .int x7), (9, .int x9)]) (fun _ => rfl) (fun x8_18 e18 => ?_)
          replace h := h x8_18 e18
          refine v_iload hC 1 dX4_behindLine_93 rfl ?_
          refine v_iload hC 2 dX4_behindLine_95 rfl ?_
          refine v_icmp_le hC 106 dX4_behindLine_97 (by decide) (fun c19 => ?_) (fun c19 => ?_)
          · replace h := h.1 c19
            refine v_iincN hC (nI 1) 9 dX4_behindLine_106 rfl rfl (by decide) (lo2 := fun x6_20 => [(6, .int x6_20), (8, .int x8_18), (12, .int r15), (11, .int r12), (10, .int x10_9), (1, .ref (xad X 42)), (2, .ref (xad X (2 + 2 * r))), (3, .int x3), (4, .int x4), (5, .int x5), (7, .int x7), (9, .int x9)]) (fun _ => rfl) (fun x6_20 e20 => ?_)
            replace h := h x6_20 e20
            refine v_iincN hC (nI 1) 11 dX4_behindLine_109 rfl rfl (by decide) (lo2 := fun x9_21 => [(9, .int x9_21), (6, .int x6_20), (8, .int x8_18), (12, .int r15), (11, .int r12), (10, .int x10_9), (1, .ref (xad X 42)), (2, .ref (xad X (2 + 2 * r))), (3, .int x3), (4, .int x4), (5, .int x5), (7, .int x7)]) (fun _ => rfl) (fun x9_21 e21 => ?_)
            replace h := h x9_21 e21
            refine v_goto hC 17 dX4_behindLine_112 (by decide) ?_
            exact V.sub [6, 7, 8, 9, 10, 1, 11, 2, 0] rfl (ih _ _ _ _ _ _ _ _ h)
          · replace h := h.2 c19
            refine v_iincN hC (-1 : Int32) 10 dX4_behindLine_100 rfl rfl (by decide) (lo2 := fun x7_22 => [(7, .int x7_22), (8, .int x8_18), (12, .int r15), (11, .int r12), (10, .int x10_9), (1, .ref (xad X 42)), (2, .ref (xad X (2 + 2 * r))), (3, .int x3), (4, .int x4), (5, .int x5), (6, .int x6), (9, .int x9)]) (fun _ => rfl) (fun x7_22 e22 => ?_)
            replace h := h x7_22 e22
            refine v_goto hC 109 dX4_behindLine_103 (by decide) ?_
            refine v_iincN hC (nI 1) 11 dX4_behindLine_109 rfl rfl (by decide) (lo2 := fun x9_23 => [(9, .int x9_23), (7, .int x7_22), (8, .int x8_18), (12, .int r15), (11, .int r12), (10, .int x10_9), (1, .ref (xad X 42)), (2, .ref (xad X (2 + 2 * r))), (3, .int x3), (4, .int x4), (5, .int x5), (6, .int x6)]) (fun _ => rfl) (fun x9_23 e23 => ?_)
            replace h := h x9_23 e23
            refine v_goto hC 17 dX4_behindLine_112 (by decide) ?_
            exact V.sub [6, 7, 8, 9, 10, 11, 1, 2, 0] rfl (ih _ _ _ _ _ _ _ _ h)
set_option maxHeartbeats 4000000 in
set_option maxRecDepth 100000 in
theorem kS_behindLine_row {r : Nat} (hr : r < 8) (x3 : Int32) (x4 : Int32) (x5 : Int32) (σ : gM) (Q : Int32 → gM → Prop) (h : wS_behindLine_row r x3 x4 x5 σ Q) : CT yX4_behindLine cX4_behindLine 13 (some .int) rmS_behindLine (fun G => [.ref (gad G 35), .ref (gad G 42), .ref (gad G (2 + 2 * r)), .int x3, .int x4, .int x5]) σ (gPi Q) := by
  refine c_enter (by decide) (fun _ => Nat.le_of_ble_eq_true rfl) (fun X hC hR => ?_)
  show V X 13 0 [(0, .ref (xad X 35)), (1, .ref (xad X 42)), (2, .ref (xad X (2 + 2 * r))), (3, .int x3), (4, .int x4), (5, .int x5)] [] σ
  replace h : ∀ x7_1 : Int32, x7_1 = ((σ 42 5) - (nI 1)) → (∃ n29 : Nat, wS_behindLine_row_l17 r Q n29 x3 x4 x5 (nI 0) x7_1 (nI 0) x3 σ) := h
  refine v_iconst hC (nI 0) dX4_behindLine_0 rfl ?_
  refine v_istore hC dX4_behindLine_1 (by decide) rfl ?_
  refine v_aload_n hC 2 dX4_behindLine_3 rfl ?_
  refine gf_X4_24_42 hC dX4_behindLine_4 ?_
  refine v_iconst hC (nI 1) dX4_behindLine_7 rfl ?_
  refine v_isub hC dX4_behindLine_8 ?_
  refine v_istoreN hC dX4_behindLine_9 (by decide) (lo2 := fun x7_1 => [(7, .int x7_1), (6, .int (nI 0)), (0, .ref (xad X 35)), (1, .ref (xad X 42)), (2, .ref (xad X (2 + 2 * r))), (3, .int x3), (4, .int x4), (5, .int x5)]) (fun _ => rfl) (fun x7_1 e1 => ?_)
  replace h := h x7_1 e1
  refine v_iconst hC (nI 0) dX4_behindLine_11 rfl ?_
  refine v_istore hC dX4_behindLine_12 (by decide) rfl ?_
  refine v_iload_n hC 6 dX4_behindLine_14 rfl ?_
  refine v_istore hC dX4_behindLine_15 (by decide) rfl ?_
  obtain ⟨n29, h⟩ := h
  exact V.sub [5, 6, 7, 8, 9, 3, 2, 1, 0] rfl (tS_behindLine_row_l17 hC hR hr  n29 _ _ _ _ _ _ _ _ h)
theorem cmS_behindLine : CM yX4_behindLine cX4_behindLine 13 (some .int) rmS_behindLine 5 := ⟨kw80, kw787, rfl, rfl, by decide, by decide, by decide +kernel⟩
