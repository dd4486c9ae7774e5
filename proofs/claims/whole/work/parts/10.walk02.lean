def rmT_readSort : Room := { frames := 6, cells := 0, slots := 0, locals := 142 }
def wT_readSort_l2 (Q : Int32 → gM → Prop)  : Nat → Int32 → gM → Prop
  | 0, _, _ => False
  | n + 1, x1, σ =>
    ((nI 5) < x1 → (wT_fail (nI 1) σ (fun (σ3 : gM) => Q (nI 0) σ3))) ∧ (¬ ((nI 5) < x1) → (wT_wordOf x1 σ (fun (i5 : Nat) (σ5 : gM) => (i5 = 3 ∨ i5 = 4 ∨ i5 = 5 ∨ i5 = 6 ∨ i5 = 7) ∧ (i5 = 3 → (wT_isWord_fruit  σ5 (fun (r7 : Int32) (σ7 : gM) => (r7 = nI 0 → (∀ x1_9 : Int32, x1_9 = x1 + (nI 1) → (wT_readSort_l2 Q n x1_9 σ7))) ∧ (¬ (r7 = nI 0) → (wT_step  σ7 (fun (σ11 : gM) => Q x1 σ11)))))) ∧ (i5 = 4 → (wT_isWord_melon  σ5 (fun (r13 : Int32) (σ13 : gM) => (r13 = nI 0 → (∀ x1_15 : Int32, x1_15 = x1 + (nI 1) → (wT_readSort_l2 Q n x1_15 σ13))) ∧ (¬ (r13 = nI 0) → (wT_step  σ13 (fun (σ17 : gM) => Q x1 σ17)))))) ∧ (i5 = 5 → (wT_isWord_berry  σ5 (fun (r19 : Int32) (σ19 : gM) => (r19 = nI 0 → (∀ x1_21 : Int32, x1_21 = x1 + (nI 1) → (wT_readSort_l2 Q n x1_21 σ19))) ∧ (¬ (r19 = nI 0) → (wT_step  σ19 (fun (σ23 : gM) => Q x1 σ23)))))) ∧ (i5 = 6 → (wT_isWord_cloth  σ5 (fun (r25 : Int32) (σ25 : gM) => (r25 = nI 0 → (∀ x1_27 : Int32, x1_27 = x1 + (nI 1) → (wT_readSort_l2 Q n x1_27 σ25))) ∧ (¬ (r25 = nI 0) → (wT_step  σ25 (fun (σ29 : gM) => Q x1 σ29)))))) ∧ (i5 = 7 → (wT_isWord_silk  σ5 (fun (r31 : Int32) (σ31 : gM) => (r31 = nI 0 → (∀ x1_33 : Int32, x1_33 = x1 + (nI 1) → (wT_readSort_l2 Q n x1_33 σ31))) ∧ (¬ (r31 = nI 0) → (wT_step  σ31 (fun (σ35 : gM) => Q x1 σ35)))))))))
def wT_readSort  (σ : gM) (Q : Int32 → gM → Prop) : Prop :=
    ∃ n36 : Nat, wT_readSort_l2 Q n36 (nI 1) σ
set_option maxHeartbeats 4000000 in
set_option maxRecDepth 100000 in
theorem tT_readSort_l2 {X : gX} {Q : Int32 → gM → Prop} (hC : VC X cX5_readSort RX5 2 rmT_readSort) (hR : VR X (some .int) (gPi Q))  : ∀ (n : Nat) (x1 : Int32) (σ : gM), wT_readSort_l2 Q  n x1 σ → V X 2 2 [(0, .ref (xad X 18)), (1, .int x1)] [] σ := by
  intro n
  induction n with
  | zero => intro x1 σ h; exact h.elim
  | succ n ih =>
    intro x1 σ h
    replace h : ((nI 5) < x1 → (wT_fail (nI 1) σ (fun (σ3 : gM) => Q (nI 0) σ3))) ∧ (¬ ((nI 5) < x1) → (wT_wordOf x1 σ (fun (i5 : Nat) (σ5 : gM) => (i5 = 3 ∨ i5 = 4 ∨ i5 = 5 ∨ i5 = 6 ∨ i5 = 7) ∧ (i5 = 3 → (wT_isWord_fruit  σ5 (fun (r7 : Int32) (σ7 : gM) => (r7 = nI 0 → (∀ x1_9 : Int32, x1_9 = x1 + (nI 1) → (wT_readSort_l2 Q n x1_9 σ7))) ∧ (¬ (r7 = nI 0) → (wT_step  σ7 (fun (σ11 : gM) => Q x1 σ11)))))) ∧ (i5 = 4 → (wT_isWord_melon  σ5 (fun (r13 : Int32) (σ13 : gM) => (r13 = nI 0 → (∀ x1_15 : Int32, x1_15 = x1 + (nI 1) → (wT_readSort_l2 Q n x1_15 σ13))) ∧ (¬ (r13 = nI 0) → (wT_step  σ13 (fun (σ17 : gM) => Q x1 σ17)))))) ∧ (i5 = 5 → (wT_isWord_berry  σ5 (fun (r19 : Int32) (σ19 : gM) => (r19 = nI 0 → (∀ x1_21 : Int32, x1_21 = x1 + (nI 1) → (wT_readSort_l2 Q n x1_21 σ19))) ∧ (¬ (r19 = nI 0) → (wT_step  σ19 (fun (σ23 : gM) => Q x1 σ23)))))) ∧ (i5 = 6 → (wT_isWord_cloth  σ5 (fun (r25 : Int32) (σ25 : gM) => (r25 = nI 0 → (∀ x1_27 : Int32, x1_27 = x1 + (nI 1) → (wT_readSort_l2 Q n x1_27 σ25))) ∧ (¬ (r25 = nI 0) → (wT_step  σ25 (fun (σ29 : gM) => Q x1 σ29)))))) ∧ (i5 = 7 → (wT_isWord_silk  σ5 (fun (r31 : Int32) (σ31 : gM) => (r31 = nI 0 → (∀ x1_33 : Int32, x1_33 = x1 + (nI 1) → (wT_readSort_l2 Q n x1_33 σ31))) ∧ (¬ (r31 = nI 0) → (wT_step  σ31 (fun (σ35 : gM) => Q x1 σ35))))))))) := h
    refine v_iload_n hC 1 dX5_readSort_2 rfl ?_
    refine v_iconst hC (nI 5) dX5_readSort_3 rfl ?_
    refine v_icmp_gt hC 30 dX5_readSort_4 (by decide) (fun c1 => ?_) (fun c1 => ?_)
    · replace h := h.1 c1
      refine v_aload_n hC 0 dX5_readSort_30 rfl ?_
      refine v_iconst hC (nI 1) dX5_readSort_31 rfl ?_
      refine v_callV hC (kT_fail _ _ _ h) cmT_fail ⟨kw526, kw10⟩ kw524 ⟨Nat.le_of_ble_eq_true rfl, Nat.le_of_ble_eq_true rfl⟩ (Nat.le_of_ble_eq_true rfl) rfl (ci := 5) (T := TX5) (N := 8) rfl (As := fun G => [.int (nI 1)]) (fun _ => rfl) (fun _ => rfl) (st := []) (Nat.le_of_ble_eq_true rfl) rfl dX5_readSort_32 (kk_v (fun σ3 h => ?_))
      refine v_iconst hC (nI 0) dX5_readSort_35 rfl ?_
      exact v_iret hC hR h dX5_readSort_36
    · replace h := h.2 c1
      refine v_aload_n hC 0 dX5_readSort_7 rfl ?_
      refine v_iload_n hC 1 dX5_readSort_8 rfl ?_
      refine v_callS hC (kT_wordOf _ _ _ h) cmT_wordOf kw555 kw554 ⟨Nat.le_of_ble_eq_true rfl, Nat.le_of_ble_eq_true rfl⟩ (fun _ => rfl) (st := [.ref (xad X 18)]) (Nat.le_of_ble_eq_true rfl) rfl dX5_readSort_9 (kk_s (fun i5 σ5 h => ?_))
      obtain ⟨hq, h⟩ := h
      rcases hq with rfl | rfl | rfl | rfl | rfl
      · replace h := h.1 rfl
        refine v_callV hC (kT_isWord_fruit  _ _ h) cmT_isWord ⟨kw474, kw9⟩ kw472 ⟨Nat.le_of_ble_eq_true rfl, Nat.le_of_ble_eq_true rfl⟩ (Nat.le_of_ble_eq_true rfl) rfl (ci := 5) (T := TX5) (N := 8) rfl (As := fun G => [.ref (gK G 3)]) (fun _ => rfl) (fun _ => rfl) (st := []) (Nat.le_of_ble_eq_true rfl) rfl dX5_readSort_12 (kk_i (fun r7 σ7 h => ?_))
        refine v_if_eq hC 24 dX5_readSort_15 (by decide) (fun c8 => ?_) (fun c8 => ?_)
        · replace h := h.1 c8
          refine v_iincN hC (nI 1) 1 dX5_readSort_24 rfl rfl (by decide) (lo2 := fun x1_9 => [(1, .int x1_9), (0, .ref (xad X 18))]) (fun _ => rfl) (fun x1_9 e9 => ?_)
          replace h := h x1_9 e9
          refine v_goto hC 2 dX5_readSort_27 (by decide) ?_
          exact V.sub [1, 0] rfl (ih _ _ h)
        · replace h := h.2 c8
          refine v_aload_n hC 0 dX5_readSort_18 rfl ?_
          refine v_callV hC (kT_step  _ _ h) cmT_step ⟨kw448, kw5⟩ kw446 ⟨Nat.le_of_ble_eq_true rfl, Nat.le_of_ble_eq_true rfl⟩ (Nat.le_of_ble_eq_true rfl) rfl (ci := 5) (T := TX5) (N := 8) rfl (As := fun G => []) (fun _ => rfl) (fun _ => rfl) (st := []) (Nat.le_of_ble_eq_true rfl) rfl dX5_readSort_19 (kk_v (fun σ11 h => ?_))
          refine v_iload_n hC 1 dX5_readSort_22 rfl ?_
          exact v_iret hC hR h dX5_readSort_23
      · replace h := h.2.1 rfl
        refine v_callV hC (kT_isWord_melon  _ _ h) cmT_isWord ⟨kw474, kw9⟩ kw472 ⟨Nat.le_of_ble_eq_true rfl, Nat.le_of_ble_eq_true rfl⟩ (Nat.le_of_ble_eq_true rfl) rfl (ci := 5) (T := TX5) (N := 8) rfl (As := fun G => [.ref (gK G 4)]) (fun _ => rfl) (fun _ => rfl) (st := []) (Nat.le_of_ble_eq_true rfl) rfl dX5_readSort_12 (kk_i (fun r13 σ13 h => ?_))
        refine v_if_eq hC 24 dX5_readSort_15 (by decide) (fun c14 => ?_) (fun c14 => ?_)
        · replace h := h.1 c14
          refine v_iincN hC (nI 1) 1 dX5_readSort_24 rfl rfl (by decide) (lo2 := fun x1_15 => [(1, .int x1_15), (0, .ref (xad X 18))]) (fun _ => rfl) (fun x1_15 e15 => ?_)
          replace h := h x1_15 e15
          refine v_goto hC 2 dX5_readSort_27 (by decide) ?_
          exact V.sub [1, 0] rfl (ih _ _ h)
        · replace h := h.2 c14
          refine v_aload_n hC 0 dX5_readSort_18 rfl ?_
          refine v_callV hC (kT_step  _ _ h) cmT_step ⟨kw448, kw5⟩ kw446 ⟨Nat.le_of_ble_eq_true rfl, Nat.le_of_ble_eq_true rfl⟩ (Nat.le_of_ble_eq_true rfl) rfl (ci := 5) (T := TX5) (N := 8) rfl (As := fun G => []) (fun _ => rfl) (fun _ => rfl) (st := []) (Nat.le_of_ble_eq_true rfl) rfl dX5_readSort_19 (kk_v (fun σ17 h => ?_))
          refine v_iload_n hC 1 dX5_readSort_22 rfl ?_
          exact v_iret hC hR h dX5_readSort_23
      · replace h := h.2.2.1 rfl
        refine v_callV hC (kT_isWord_berry  _ _ h) cmT_isWord ⟨kw474, kw9⟩ kw472 ⟨Nat.le_of_ble_eq_true rfl, Nat.le_of_ble_eq_true rfl⟩ (Nat.le_of_ble_eq_true rfl) rfl (ci := 5) (T := TX5) (N := 8) rfl (As := fun G => [.ref (gK G 5)]) (fun _ => rfl) (fun _ => rfl) (st := []) (Nat.le_of_ble_eq_true rfl) rfl dX5_readSort_12 (kk_i (fun r19 σ19 h => ?_))
        refine v_if_eq hC 24 dX5_readSort_15 (by decide) (fun c20 => ?_) (fun c20 => ?_)
        · replace h := h.1 c20
          refine v_iincN hC (nI 1) 1 dX5_readSort_24 rfl rfl (by decide) (lo2 := fun x1_21 => [(1, .int x1_21), (0, .ref (xad X 18))]) (fun _ => rfl) (fun x1_21 e21 => ?_)
          replace h := h x1_21 e21
          refine v_goto hC 2 dX5_readSort_27 (by decide) ?_
          exact V.sub [1, 0] rfl (ih _ _ h)
        · replace h := h.2 c20
          refine v_aload_n hC 0 dX5_readSort_18 rfl ?_
          refine v_callV hC (kT_step  _ _ h) cmT_step ⟨kw448, kw5⟩ kw446 ⟨Nat.le_of_ble_eq_true rfl, Nat.le_of_ble_eq_true rfl⟩ (Nat.le_of_ble_eq_true rfl) rfl (ci := 5) (T := TX5) (N := 8) rfl (As := fun G => []) (fun _ => rfl) (fun _ => rfl) (st := []) (Nat.le_of_ble_eq_true rfl) rfl dX5_readSort_19 (kk_v (fun σ23 h => ?_))
          refine v_iload_n hC 1 dX5_readSort_22 rfl ?_
          exact v_iret hC hR h dX5_readSort_23
      · replace h := h.2.2.2.1 rfl
        refine v_callV hC (kT_isWord_cloth  _ _ h) cmT_isWord ⟨kw474, kw9⟩ kw472 ⟨Nat.le_of_ble_eq_true rfl, Nat.le_of_ble_eq_true rfl⟩ (Nat.le_of_ble_eq_true rfl) rfl (ci := 5) (T := TX5) (N := 8) rfl (As := fun G => [.ref (gK G 6)]) (fun _ => rfl) (fun _ => rfl) (st := []) (Nat.le_of_ble_eq_true rfl) rfl dX5_readSort_12 (kk_i (fun r25 σ25 h => ?_))
        refine v_if_eq hC 24 dX5_readSort_15 (by decide) (fun c26 => ?_) (fun c26 => ?_)
        · replace h := h.1 c26
          refine v_iincN hC (nI 1) 1 dX5_readSort_24 rfl rfl (by decide) (lo2 := fun x1_27 => [(1, .int x1_27), (0, .ref (xad X 18))]) (fun _ => rfl) (fun x1_27 e27 => ?_)
          replace h := h x1_27 e27
          refine v_goto hC 2 dX5_readSort_27 (by decide) ?_
          exact V.sub [1, 0] rfl (ih _ _ h)
        · replace h := h.2 c26
          refine v_aload_n hC 0 dX5_readSort_18 rfl ?_
          refine v_callV hC (kT_step  _ _ h) cmT_step ⟨kw448, kw5⟩ kw446 ⟨Nat.le_of_ble_eq_true rfl, Nat.le_of_ble_eq_true rfl⟩ (Nat.le_of_ble_eq_true rfl) rfl (ci := 5) (T := TX5) (N := 8) rfl (As := fun G => []) (fun _ => rfl) (fun _ => rfl) (st := []) (Nat.le_of_ble_eq_true rfl) rfl dX5_readSort_19 (kk_v (fun σ29 h => ?_))
          refine v_iload_n hC 1 dX5_readSort_22 rfl ?_
          exact v_iret hC hR h dX5_readSort_23
      · replace h := h.2.2.2.2 rfl
        refine v_callV hC (kT_isWord_silk  _ _ h) cmT_isWord ⟨kw474, kw9⟩ kw472 ⟨Nat.le_of_ble_eq_true rfl, Nat.le_of_ble_eq_true rfl⟩ (Nat.le_of_ble_eq_true rfl) rfl (ci := 5) (T := TX5) (N := 8) rfl (As := fun G => [.ref (gK G 7)]) (fun _ => rfl) (fun _ => rfl) (st := []) (Nat.le_of_ble_eq_true rfl) rfl dX5_readSort_12 (kk_i (fun r31 σ31 h => ?_))
        refine v_if_eq hC 24 dX5_readSort_15 (by decide) (fun c32 => ?_) (fun c32 => ?_)
        · replace h := h.1 c32
          refine v_iincN hC (nI 1) 1 dX5_readSort_24 rfl rfl (by decide) (lo2 := fun x1_33 => [(1, .int x1_33), (0, .ref (xad X 18))]) (fun _ => rfl) (fun x1_33 e33 => ?_)
          replace h := h x1_33 e33
          refine v_goto hC 2 dX5_readSort_27 (by decide) ?_
          exact V.sub [1, 0] rfl (ih _ _ h)
        · replace h := h.2 c32
          refine v_aload_n hC 0 dX5_readSort_18 rfl ?_
          refine v_callV hC (kT_step  _ _ h) cmT_step ⟨kw448, kw5⟩ kw446 ⟨Nat.le_of_ble_eq_true rfl, Nat.le_of_ble_eq_true rfl⟩ (Nat.le_of_ble_eq_true rfl) rfl (ci := 5) (T := TX5) (N := 8) rfl (As := fun G => []) (fun _ => rfl) (fun _ => rfl) (st := []) (Nat.le_of_ble_eq_true rfl) rfl dX5_readSort_19 (kk_v (fun σ35 h => ?_))
          refine v_iload_n hC 1 dX5_readSort_22 rfl ?_
          exact v_iret hC hR h dX5_readSort_23
set_option maxHeartbeats 4000000 in
set_option maxRecDepth 100000 in
theorem kT_readSort  (σ : gM) (Q : Int32 → gM → Prop) (h : wT_readSort  σ Q) : CT yX5_readSort cX5_readSort 2 (some .int) rmT_readSort (fun G => [.ref (gad G 18)]) σ (gPi Q) := by
  refine c_enter (by decide) (fun _ => Nat.le_of_ble_eq_true rfl) (fun X hC hR => ?_)
  show V X 2 0 [(0, .ref (xad X 18))] [] σ
  replace h : ∃ n36 : Nat, wT_readSort_l2 Q n36 (nI 1) σ := h
  refine v_iconst hC (nI 1) dX5_readSort_0 rfl ?_
  refine v_istore_n hC dX5_readSort_1 (by decide) rfl ?_
  obtain ⟨n36, h⟩ := h
  exact V.sub [1, 0] rfl (tT_readSort_l2 hC hR  n36 _ _ h)
theorem cmT_readSort : CM yX5_readSort cX5_readSort 2 (some .int) rmT_readSort 0 := ⟨kw76, kw553, rfl, rfl, by decide, by decide, by decide +kernel⟩
def rmK_putAt : Room := { frames := 1, cells := 0, slots := 0, locals := 60 }
def wK52_putAt (x1 : Int32) (x2 : Int32) (σ : gM) (Q : gM → Prop) : Prop :=
    (x1 = nI 0 → ((¬ (nI 0) < nI 0 ∧ ¬ (nI 1) < nI 0 ∧ ¬ (σ 52 5) < nI 0 ∧ (nI 0).toNatClampNeg + (σ 52 5).toNatClampNeg ≤ 16 ∧ (nI 1).toNatClampNeg + (σ 52 5).toNatClampNeg ≤ 16) ∧ (∀ σ2 : gM, σ2 = gCp σ 61 (nI 0).toNatClampNeg 61 (nI 1).toNatClampNeg (σ 52 5).toNatClampNeg → (∀ σ3 : gM, σ3 = gU σ2 61 0 x2 → (∀ σ4 : gM, σ4 = gU σ3 52 5 ((σ3 52 5) + (nI 1)) → (Q σ4)))))) ∧ (¬ (x1 = nI 0) → (vp_in (σ 52 5) 16 ∧ (∀ σ5 : gM, σ5 = gU σ 61 (σ 52 5).toNatClampNeg x2 → (∀ σ6 : gM, σ6 = gU σ5 52 5 ((σ5 52 5) + (nI 1)) → (Q σ6)))))
set_option maxHeartbeats 4000000 in
set_option maxRecDepth 100000 in
theorem kK52_putAt (x1 : Int32) (x2 : Int32) (σ : gM) (Q : gM → Prop) (h : wK52_putAt x1 x2 σ Q) : CT yX2_putAt cX2_putAt 3 none rmK_putAt (fun G => [.ref (gad G 52), .int x1, .int x2]) σ (gPv Q) := by
  refine c_enter (by decide) (fun _ => Nat.le_of_ble_eq_true rfl) (fun X hC hR => ?_)
  show V X 3 0 [(0, .ref (xad X 52)), (1, .int x1), (2, .int x2)] [] σ
  replace h : (x1 = nI 0 → ((¬ (nI 0) < nI 0 ∧ ¬ (nI 1) < nI 0 ∧ ¬ (σ 52 5) < nI 0 ∧ (nI 0).toNatClampNeg + (σ 52 5).toNatClampNeg ≤ 16 ∧ (nI 1).toNatClampNeg + (σ 52 5).toNatClampNeg ≤ 16) ∧ (∀ σ2 : gM, σ2 = gCp σ 61 (nI 0).toNatClampNeg 61 (nI 1).toNatClampNeg (σ 52 5).toNatClampNeg → (∀ σ3 : gM, σ3 = gU σ2 61 0 x2 → (∀ σ4 : gM, σ4 = gU σ3 52 5 ((σ3 52 5) + (nI 1)) → (Q σ4)))))) ∧ (¬ (x1 = nI 0) → (vp_in (σ 52 5) 16 ∧ (∀ σ5 : gM, σ5 = gU σ 61 (σ 52 5).toNatClampNeg x2 → (∀ σ6 : gM, σ6 = gU σ5 52 5 ((σ5 52 5) + (nI 1)) → (Q σ6))))) := h
  refine v_iload_n hC 1 dX2_putAt_0 rfl ?_
  refine v_if_ne hC 31 dX2_putAt_1 (by decide) (fun c1 => ?_) (fun c1 => ?_)
  · replace h := h.2 c1
    refine v_aload_n hC 0 dX2_putAt_31 rfl ?_
    refine gf_X2_36_52 hC dX2_putAt_32 ?_
    refine v_aload_n hC 0 dX2_putAt_35 rfl ?_
    refine gf_X2_56_52 hC dX2_putAt_36 ?_
    refine v_iload_n hC 2 dX2_putAt_39 rfl ?_
    obtain ⟨hi5, h⟩ := h
    refine v_iast hC (Nat.le_of_ble_eq_true rfl) rfl rfl hi5 dX2_putAt_40 (fun σ5 e5 => ?_)
    replace h := h σ5 e5
    refine v_aload_n hC 0 dX2_putAt_41 rfl ?_
    refine v_dup hC dX2_putAt_42 rfl ?_
    refine gf_X2_56_52 hC dX2_putAt_43 ?_
    refine v_iconst hC (nI 1) dX2_putAt_46 rfl ?_
    refine v_iadd hC dX2_putAt_47 ?_
    refine pf_X2_56_52 hC dX2_putAt_48 (fun σ6 e6 => ?_)
    replace h := h σ6 e6
    exact v_vret hC hR h dX2_putAt_51
  · replace h := h.1 c1
    refine v_aload_n hC 0 dX2_putAt_4 rfl ?_
    refine gf_X2_36_52 hC dX2_putAt_5 ?_
    refine v_iconst hC (nI 0) dX2_putAt_8 rfl ?_
    refine v_aload_n hC 0 dX2_putAt_9 rfl ?_
    refine gf_X2_36_52 hC dX2_putAt_10 ?_
    refine v_iconst hC (nI 1) dX2_putAt_13 rfl ?_
    refine v_aload_n hC 0 dX2_putAt_14 rfl ?_
    refine gf_X2_56_52 hC dX2_putAt_15 ?_
    obtain ⟨hk2, h⟩ := h
    refine v_copy hC (Nat.le_of_ble_eq_true rfl) (Nat.le_of_ble_eq_true rfl) rfl rfl kw571 kw420 kw419 kw84 hk2.1 hk2.2.1 hk2.2.2.1 hk2.2.2.2.1 hk2.2.2.2.2 (Nat.le_of_ble_eq_true rfl) (by decide) dX2_putAt_18 (fun σ2 e2 => ?_)
    replace h := h σ2 e2
    refine v_aload_n hC 0 dX2_putAt_21 rfl ?_
    refine gf_X2_36_52 hC dX2_putAt_22 ?_
    refine v_iconst hC (nI 0) dX2_putAt_25 rfl ?_
    refine v_iload_n hC 2 dX2_putAt_26 rfl ?_
    refine v_iast hC (Nat.le_of_ble_eq_true rfl) rfl (j := 0) (by decide) (by unfold vp_in; decide) dX2_putAt_27 (fun σ3 e3 => ?_)
    replace h := h σ3 e3
    refine v_goto hC 41 dX2_putAt_28 (by decide) ?_
    refine v_aload_n hC 0 dX2_putAt_41 rfl ?_
    refine v_dup hC dX2_putAt_42 rfl ?_
    refine gf_X2_56_52 hC dX2_putAt_43 ?_
    refine v_iconst hC (nI 1) dX2_putAt_46 rfl ?_
    refine v_iadd hC dX2_putAt_47 ?_
    refine pf_X2_56_52 hC dX2_putAt_48 (fun σ4 e4 => ?_)
    replace h := h σ4 e4
    exact v_vret hC hR h dX2_putAt_51
theorem cmK_putAt : CM yX2_putAt cX2_putAt 3 none rmK_putAt 2 := ⟨kw77, kw570, rfl, rfl, by decide, by decide, by decide +kernel⟩
def rmK_addWare : Room := { frames := 2, cells := 0, slots := 0, locals := 82 }
def wK52_addWare (x1 : Int32) (x2 : Int32) (x3 : Int32) (x4 : Int32) (σ : gM) (Q : Int32 → gM → Prop) : Prop :=
    ∀ x5_1 : Int32, x5_1 = (σ 52 4) → (vp_in x5_1 16 ∧ (∀ σ2 : gM, σ2 = gU σ 57 x5_1.toNatClampNeg x1 → (vp_in x5_1 16 ∧ (∀ σ3 : gM, σ3 = gU σ2 58 x5_1.toNatClampNeg x2 → (vp_in x5_1 16 ∧ (∀ σ4 : gM, σ4 = gU σ3 59 x5_1.toNatClampNeg x3 → (vp_in x5_1 16 ∧ (∀ σ5 : gM, σ5 = gU σ4 60 x5_1.toNatClampNeg (-1000000 : Int32) → (∀ σ6 : gM, σ6 = gU σ5 52 4 ((σ5 52 4) + (nI 1)) → (wK52_putAt x4 x5_1 σ6 (fun (σ8 : gM) => Q x5_1 σ8)))))))))))
set_option maxHeartbeats 4000000 in
set_option maxRecDepth 100000 in
theorem kK52_addWare (x1 : Int32) (x2 : Int32) (x3 : Int32) (x4 : Int32) (σ : gM) (Q : Int32 → gM → Prop) (h : wK52_addWare x1 x2 x3 x4 σ Q) : CT yX2_addWare cX2_addWare 6 (some .int) rmK_addWare (fun G => [.ref (gad G 52), .int x1, .int x2, .int x3, .int x4]) σ (gPi Q) := by
  refine c_enter (by decide) (fun _ => Nat.le_of_ble_eq_true rfl) (fun X hC hR => ?_)
  show V X 6 0 [(0, .ref (xad X 52)), (1, .int x1), (2, .int x2), (3, .int x3), (4, .int x4)] [] σ
  replace h : ∀ x5_1 : Int32, x5_1 = (σ 52 4) → (vp_in x5_1 16 ∧ (∀ σ2 : gM, σ2 = gU σ 57 x5_1.toNatClampNeg x1 → (vp_in x5_1 16 ∧ (∀ σ3 : gM, σ3 = gU σ2 58 x5_1.toNatClampNeg x2 → (vp_in x5_1 16 ∧ (∀ σ4 : gM, σ4 = gU σ3 59 x5_1.toNatClampNeg x3 → (vp_in x5_1 16 ∧ (∀ σ5 : gM, σ5 = gU σ4 60 x5_1.toNatClampNeg (-1000000 : Int32) → (∀ σ6 : gM, σ6 = gU σ5 52 4 ((σ5 52 4) + (nI 1)) → (wK52_putAt x4 x5_1 σ6 (fun (σ8 : gM) => Q x5_1 σ8))))))))))) := h
  refine v_aload_n hC 0 dX2_addWare_0 rfl ?_
  refine gf_X2_53_52 hC dX2_addWare_1 ?_
  refine v_istoreN hC dX2_addWare_4 (by decide) (lo2 := fun x5_1 => [(5, .int x5_1), (0, .ref (xad X 52)), (1, .int x1), (2, .int x2), (3, .int x3), (4, .int x4)]) (fun _ => rfl) (fun x5_1 e1 => ?_)
  replace h := h x5_1 e1
  refine v_aload_n hC 1 dX2_addWare_6 rfl ?_
  refine gf_X2_24_52 hC dX2_addWare_7 ?_
  refine v_iload hC 0 dX2_addWare_10 rfl ?_
  refine v_iload_n hC 2 dX2_addWare_12 rfl ?_
  obtain ⟨hi2, h⟩ := h
  refine v_iast hC (Nat.le_of_ble_eq_true rfl) rfl rfl hi2 dX2_addWare_13 (fun σ2 e2 => ?_)
  replace h := h σ2 e2
  refine v_aload_n hC 1 dX2_addWare_14 rfl ?_
  refine gf_X2_27_52 hC dX2_addWare_15 ?_
  refine v_iload hC 0 dX2_addWare_18 rfl ?_
  refine v_iload_n hC 3 dX2_addWare_20 rfl ?_
  obtain ⟨hi3, h⟩ := h
  refine v_iast hC (Nat.le_of_ble_eq_true rfl) rfl rfl hi3 dX2_addWare_21 (fun σ3 e3 => ?_)
  replace h := h σ3 e3
  refine v_aload_n hC 1 dX2_addWare_22 rfl ?_
  refine gf_X2_30_52 hC dX2_addWare_23 ?_
  refine v_iload hC 0 dX2_addWare_26 rfl ?_
  refine v_iload_n hC 4 dX2_addWare_28 rfl ?_
  obtain ⟨hi4, h⟩ := h
  refine v_iast hC (Nat.le_of_ble_eq_true rfl) rfl rfl hi4 dX2_addWare_29 (fun σ4 e4 => ?_)
  replace h := h σ4 e4
  refine v_aload_n hC 1 dX2_addWare_30 rfl ?_
  refine gf_X2_33_52 hC dX2_addWare_31 ?_
  refine v_iload hC 0 dX2_addWare_34 rfl ?_
  refine v_ldc hC kw566 dX2_addWare_36 ?_
  obtain ⟨hi5, h⟩ := h
  refine v_iast hC (Nat.le_of_ble_eq_true rfl) rfl rfl hi5 dX2_addWare_38 (fun σ5 e5 => ?_)
  replace h := h σ5 e5
  refine v_aload_n hC 1 dX2_addWare_39 rfl ?_
  refine v_dup hC dX2_addWare_40 rfl ?_
  refine gf_X2_53_52 hC dX2_addWare_41 ?_
  refine v_iconst hC (nI 1) dX2_addWare_44 rfl ?_
  refine v_iadd hC dX2_addWare_45 ?_
  refine pf_X2_53_52 hC dX2_addWare_46 (fun σ6 e6 => ?_)
  replace h := h σ6 e6
  refine v_aload_n hC 1 dX2_addWare_49 rfl ?_
  refine v_iload hC 5 dX2_addWare_50 rfl ?_
  refine v_iload hC 0 dX2_addWare_52 rfl ?_
  refine v_callV hC (kK52_putAt _ _ _ _ h) cmK_putAt ⟨kw569, kw16⟩ kw567 ⟨Nat.le_of_ble_eq_true rfl, Nat.le_of_ble_eq_true rfl⟩ (Nat.le_of_ble_eq_true rfl) rfl (ci := 2) (T := TX2) (N := 15) rfl (As := fun G => [.int x4, .int x5_1]) (fun _ => rfl) (fun _ => rfl) (st := []) (Nat.le_of_ble_eq_true rfl) rfl dX2_addWare_54 (kk_v (fun σ8 h => ?_))
  refine v_iload hC 0 dX2_addWare_57 rfl ?_
  exact v_iret hC hR h dX2_addWare_59
theorem cmK_addWare : CM yX2_addWare cX2_addWare 6 (some .int) rmK_addWare 4 := ⟨kw77, kw565, rfl, rfl, by decide, by decide, by decide +kernel⟩
def rmT_readWare : Room := { frames := 7, cells := 0, slots := 0, locals := 163 }
def wT_readWare_52  (σ : gM) (Q : gM → Prop) : Prop :=
    ((σ 52 4) = (nI 10) → (wT_fail (nI 3) σ (fun (σ3 : gM) => Q σ3))) ∧ (¬ ((σ 52 4) = (nI 10)) → (wT_step  σ (fun (σ5 : gM) => wT_readSort  σ5 (fun (r7 : Int32) (σ7 : gM) => wT_readNumber (nI 30) σ7 (fun (r9 : Int32) (σ9 : gM) => wT_readNumber (nI 9) σ9 (fun (r11 : Int32) (σ11 : gM) => wT_readSign  σ11 (fun (σ13 : gM) => ((σ13 18 1) = nI 0 → (wK52_addWare r7 r9 r11 (nI 1) σ13 (fun (r16 : Int32) (σ16 : gM) => Q σ16))) ∧ (¬ ((σ13 18 1) = nI 0) → (Q σ13)))))))))
set_option maxHeartbeats 4000000 in
set_option maxRecDepth 100000 in
theorem kT_readWare_52  (σ : gM) (Q : gM → Prop) (h : wT_readWare_52  σ Q) : CT yX5_readWare cX5_readWare 5 none rmT_readWare (fun G => [.ref (gad G 18), .ref (gad G 52)]) σ (gPv Q) := by
  refine c_enter (by decide) (fun _ => Nat.le_of_ble_eq_true rfl) (fun X hC hR => ?_)
  show V X 5 0 [(0, .ref (xad X 18)), (1, .ref (xad X 52))] [] σ
  replace h : ((σ 52 4) = (nI 10) → (wT_fail (nI 3) σ (fun (σ3 : gM) => Q σ3))) ∧ (¬ ((σ 52 4) = (nI 10)) → (wT_step  σ (fun (σ5 : gM) => wT_readSort  σ5 (fun (r7 : Int32) (σ7 : gM) => wT_readNumber (nI 30) σ7 (fun (r9 : Int32) (σ9 : gM) => wT_readNumber (nI 9) σ9 (fun (r11 : Int32) (σ11 : gM) => wT_readSign  σ11 (fun (σ13 : gM) => ((σ13 18 1) = nI 0 → (wK52_addWare r7 r9 r11 (nI 1) σ13 (fun (r16 : Int32) (σ16 : gM) => Q σ16))) ∧ (¬ ((σ13 18 1) = nI 0) → (Q σ13))))))))) := h
  refine v_aload_n hC 1 dX5_readWare_0 rfl ?_
  refine gf_X5_77_52 hC dX5_readWare_1 ?_
  refine v_bipush hC (nI 10) dX5_readWare_4 rfl ?_
  refine v_icmp_ne hC 15 dX5_readWare_6 (by decide) (fun c1 => ?_) (fun c1 => ?_)
  · replace h := h.2 c1
    refine v_aload_n hC 0 dX5_readWare_15 rfl ?_
    refine v_callV hC (kT_step  _ _ h) cmT_step ⟨kw448, kw5⟩ kw446 ⟨Nat.le_of_ble_eq_true rfl, Nat.le_of_ble_eq_true rfl⟩ (Nat.le_of_ble_eq_true rfl) rfl (ci := 5) (T := TX5) (N := 8) rfl (As := fun G => []) (fun _ => rfl) (fun _ => rfl) (st := []) (Nat.le_of_ble_eq_true rfl) rfl dX5_readWare_16 (kk_v (fun σ5 h => ?_))
    refine v_aload_n hC 0 dX5_readWare_19 rfl ?_
    refine v_callV hC (kT_readSort  _ _ h) cmT_readSort ⟨kw552, kw15⟩ kw550 ⟨Nat.le_of_ble_eq_true rfl, Nat.le_of_ble_eq_true rfl⟩ (Nat.le_of_ble_eq_true rfl) rfl (ci := 5) (T := TX5) (N := 8) rfl (As := fun G => []) (fun _ => rfl) (fun _ => rfl) (st := []) (Nat.le_of_ble_eq_true rfl) rfl dX5_readWare_20 (kk_i (fun r7 σ7 h => ?_))
    refine v_istore_n hC dX5_readWare_23 (by decide) rfl ?_
    refine v_aload_n hC 1 dX5_readWare_24 rfl ?_
    refine v_bipush hC (nI 30) dX5_readWare_25 rfl ?_
    refine v_callV hC (kT_readNumber _ _ _ h) cmT_readNumber ⟨kw530, kw11⟩ kw528 ⟨Nat.le_of_ble_eq_true rfl, Nat.le_of_ble_eq_true rfl⟩ (Nat.le_of_ble_eq_true rfl) rfl (ci := 5) (T := TX5) (N := 8) rfl (As := fun G => [.int (nI 30)]) (fun _ => rfl) (fun _ => rfl) (st := []) (Nat.le_of_ble_eq_true rfl) rfl dX5_readWare_27 (kk_i (fun r9 σ9 h => ?_))
    refine v_istore_n hC dX5_readWare_30 (by decide) rfl ?_
    refine v_aload_n hC 2 dX5_readWare_31 rfl ?_
    refine v_bipush hC (nI 9) dX5_readWare_32 rfl ?_
    refine v_callV hC (kT_readNumber _ _ _ h) cmT_readNumber ⟨kw530, kw11⟩ kw528 ⟨Nat.le_of_ble_eq_true rfl, Nat.le_of_ble_eq_true rfl⟩ (Nat.le_of_ble_eq_true rfl) rfl (ci := 5) (T := TX5) (N := 8) rfl (As := fun G => [.int (nI 9)]) (fun _ => rfl) (fun _ => rfl) (st := []) (Nat.le_of_ble_eq_true rfl) rfl dX5_readWare_34 (kk_i (fun r11 σ11 h => ?_))
    refine v_istore hC dX5_readWare_37 (by decide) rfl ?_
    refine v_aload_n hC 3 dX5_readWare_39 rfl ?_
    refine v_callV hC (kT_readSign  _ _ h) cmT_readSign ⟨kw534, kw12⟩ kw532 ⟨Nat.le_of_ble_eq_true rfl, Nat.le_of_ble_eq_true rfl⟩ (Nat.le_of_ble_eq_true rfl) rfl (ci := 5) (T := TX5) (N := 8) rfl (As := fun G => []) (fun _ => rfl) (fun _ => rfl) (st := []) (Nat.le_of_ble_eq_true rfl) rfl dX5_readWare_40 (kk_v (fun σ13 h => ?_))
    refine v_aload_n hC 3 dX5_readWare_43 rfl ?_
    refine gf_X5_24 hC dX5_readWare_44 ?_
    refine v_if_ne hC 60 dX5_readWare_47 (by decide) (fun c14 => ?_) (fun c14 => ?_)
    · replace h := h.2 c14
      exact v_vret hC hR h dX5_readWare_60
    · replace h := h.1 c14
      refine v_aload_n hC 4 dX5_readWare_50 rfl ?_
      refine v_iload_n hC 2 dX5_readWare_51 rfl ?_
      refine v_iload_n hC 1 dX5_readWare_52 rfl ?_
      refine v_iload hC 0 dX5_readWare_53 rfl ?_
      refine v_iconst hC (nI 1) dX5_readWare_55 rfl ?_
      refine v_callV hC (kK52_addWare _ _ _ _ _ _ h) cmK_addWare ⟨kw563, kw564⟩ kw562 ⟨Nat.le_of_ble_eq_true rfl, Nat.le_of_ble_eq_true rfl⟩ (Nat.le_of_ble_eq_true rfl) rfl (ci := 2) (T := TX2) (N := 15) rfl (As := fun G => [.int r7, .int r9, .int r11, .int (nI 1)]) (fun _ => rfl) (fun _ => rfl) (st := []) (Nat.le_of_ble_eq_true rfl) rfl dX5_readWare_56 (kk_i (fun r16 σ16 h => ?_))
      refine v_pop hC dX5_readWare_59 rfl ?_
      exact v_vret hC hR h dX5_readWare_60
  · replace h := h.1 c1
    refine v_aload_n hC 0 dX5_readWare_9 rfl ?_
    refine v_iconst hC (nI 3) dX5_readWare_10 rfl ?_
    refine v_callV hC (kT_fail _ _ _ h) cmT_fail ⟨kw526, kw10⟩ kw524 ⟨Nat.le_of_ble_eq_true rfl, Nat.le_of_ble_eq_true rfl⟩ (Nat.le_of_ble_eq_true rfl) rfl (ci := 5) (T := TX5) (N := 8) rfl (As := fun G => [.int (nI 3)]) (fun _ => rfl) (fun _ => rfl) (st := []) (Nat.le_of_ble_eq_true rfl) rfl dX5_readWare_11 (kk_v (fun σ3 h => ?_))
    exact v_vret hC hR h dX5_readWare_14
theorem cmT_readWare : CM yX5_readWare cX5_readWare 5 none rmT_readWare 1 := ⟨kw76, kw549, rfl, rfl, by decide, by decide, by decide +kernel⟩
def wT_isWord_buyer_l27 (Q : Int32 → gM → Prop)  : Nat → Int32 → gM → Prop
  | 0, _, _ => False
  | n + 1, x2, σ =>
    ((nI 5) ≤ x2 → (Q (nI 1) σ)) ∧ (¬ ((nI 5) ≤ x2) → (vp_in ((σ 18 4) + x2) 400 ∧ (vp_in x2 5 ∧ (((σ 19 ((σ 18 4) + x2).toNatClampNeg) = (gCh 1 x2.toNatClampNeg) → (∀ x2_9 : Int32, x2_9 = x2 + (nI 1) → (wT_isWord_buyer_l27 Q n x2_9 σ))) ∧ (¬ ((σ 19 ((σ 18 4) + x2).toNatClampNeg) = (gCh 1 x2.toNatClampNeg)) → (Q (nI 0) σ))))))
def wT_isWord_buyer  (σ : gM) (Q : Int32 → gM → Prop) : Prop :=
    ((σ 18 6) = nI 0 → ((((σ 18 5) - (σ 18 4)) = (nI 5) → (∃ n10 : Nat, wT_isWord_buyer_l27 Q n10 (nI 0) σ)) ∧ (¬ (((σ 18 5) - (σ 18 4)) = (nI 5)) → (Q (nI 0) σ)))) ∧ (¬ ((σ 18 6) = nI 0) → (Q (nI 0) σ))
set_option maxHeartbeats 4000000 in
set_option maxRecDepth 100000 in
theorem tT_isWord_buyer_l27 {X : gX} {Q : Int32 → gM → Prop} (hC : VC X cX5_isWord RX5 3 rmT_isWord) (hR : VR X (some .boolean) (gPi Q))  : ∀ (n : Nat) (x2 : Int32) (σ : gM), wT_isWord_buyer_l27 Q  n x2 σ → V X 3 27 [(0, .ref (xad X 18)), (1, .ref (gK (xG X) 1)), (2, .int x2)] [] σ := by
  intro n
  induction n with
  | zero => intro x2 σ h; exact h.elim
  | succ n ih =>
    intro x2 σ h
    replace h : ((nI 5) ≤ x2 → (Q (nI 1) σ)) ∧ (¬ ((nI 5) ≤ x2) → (vp_in ((σ 18 4) + x2) 400 ∧ (vp_in x2 5 ∧ (((σ 19 ((σ 18 4) + x2).toNatClampNeg) = (gCh 1 x2.toNatClampNeg) → (∀ x2_9 : Int32, x2_9 = x2 + (nI 1) → (wT_isWord_buyer_l27 Q n x2_9 σ))) ∧ (¬ ((σ 19 ((σ 18 4) + x2).toNatClampNeg) = (gCh 1 x2.toNatClampNeg)) → (Q (nI 0) σ)))))) := h
    refine v_iload_n hC 2 dX5_isWord_27 rfl ?_
    refine v_aload_n hC 1 dX5_isWord_28 rfl ?_
    refine v_slen hC 1 (nI 5) kw476 (by decide) rfl (by decide) (Nat.le_of_ble_eq_true rfl) dX5_isWord_29 ?_
    refine v_icmp_ge hC 62 dX5_isWord_32 (by decide) (fun c5 => ?_) (fun c5 => ?_)
    · replace h := h.1 c5
      refine v_iconst hC (nI 1) dX5_isWord_62 rfl ?_
      exact v_zret hC hR rfl h dX5_isWord_63
    · replace h := h.2 c5
      refine v_aload_n hC 0 dX5_isWord_35 rfl ?_
      refine gf_X5_9 hC dX5_isWord_36 ?_
      refine v_aload_n hC 0 dX5_isWord_39 rfl ?_
      refine gf_X5_105 hC dX5_isWord_40 ?_
      refine v_iload_n hC 2 dX5_isWord_43 rfl ?_
      refine v_iadd hC dX5_isWord_44 ?_
      obtain ⟨hi6, h⟩ := h
      refine v_iald hC (Nat.le_of_ble_eq_true rfl) rfl rfl hi6 dX5_isWord_45 ?_
      refine v_aload_n hC 1 dX5_isWord_46 rfl ?_
      refine v_iload_n hC 2 dX5_isWord_47 rfl ?_
      obtain ⟨hi7, h⟩ := h
      refine v_schar hC 1 kw486 (by decide) hi7 (by decide) (Nat.le_of_ble_eq_true rfl) dX5_isWord_48 ?_
      refine v_icmp_eq hC 56 dX5_isWord_51 (by decide) (fun c8 => ?_) (fun c8 => ?_)
      · replace h := h.1 c8
        refine v_iincN hC (nI 1) 2 dX5_isWord_56 rfl rfl (by decide) (lo2 := fun x2_9 => [(2, .int x2_9), (0, .ref (xad X 18)), (1, .ref (gK (xG X) 1))]) (fun _ => rfl) (fun x2_9 e9 => ?_)
        replace h := h x2_9 e9
        refine v_goto hC 27 dX5_isWord_59 (by decide) ?_
        exact V.sub [1, 2, 0] rfl (ih _ _ h)
      · replace h := h.2 c8
        refine v_iconst hC (nI 0) dX5_isWord_54 rfl ?_
        exact v_zret hC hR rfl h dX5_isWord_55
set_option maxHeartbeats 4000000 in
set_option maxRecDepth 100000 in
theorem kT_isWord_buyer  (σ : gM) (Q : Int32 → gM → Prop) (h : wT_isWord_buyer  σ Q) : CT yX5_isWord cX5_isWord 3 (some .boolean) rmT_isWord (fun G => [.ref (gad G 18), .ref (gK G 1)]) σ (gPi Q) := by
  refine c_enter (by decide) (fun _ => Nat.le_of_ble_eq_true rfl) (fun X hC hR => ?_)
  show V X 3 0 [(0, .ref (xad X 18)), (1, .ref (gK (xG X) 1))] [] σ
  replace h : ((σ 18 6) = nI 0 → ((((σ 18 5) - (σ 18 4)) = (nI 5) → (∃ n10 : Nat, wT_isWord_buyer_l27 Q n10 (nI 0) σ)) ∧ (¬ (((σ 18 5) - (σ 18 4)) = (nI 5)) → (Q (nI 0) σ)))) ∧ (¬ ((σ 18 6) = nI 0) → (Q (nI 0) σ)) := h
  refine v_aload_n hC 0 dX5_isWord_0 rfl ?_
  refine gf_X5_51 hC dX5_isWord_1 ?_
  refine v_if_ne hC 23 dX5_isWord_4 (by decide) (fun c1 => ?_) (fun c1 => ?_)
  · replace h := h.2 c1
    refine v_iconst hC (nI 0) dX5_isWord_23 rfl ?_
    exact v_zret hC hR rfl h dX5_isWord_24
  · replace h := h.1 c1
    refine v_aload_n hC 0 dX5_isWord_7 rfl ?_
    refine gf_X5_27 hC dX5_isWord_8 ?_
    refine v_aload_n hC 0 dX5_isWord_11 rfl ?_
    refine gf_X5_105 hC dX5_isWord_12 ?_
    refine v_isub hC dX5_isWord_15 ?_
    refine v_aload_n hC 1 dX5_isWord_16 rfl ?_
    refine v_slen hC 1 (nI 5) kw476 (by decide) rfl (by decide) (Nat.le_of_ble_eq_true rfl) dX5_isWord_17 ?_
    refine v_icmp_eq hC 25 dX5_isWord_20 (by decide) (fun c3 => ?_) (fun c3 => ?_)
    · replace h := h.1 c3
      refine v_iconst hC (nI 0) dX5_isWord_25 rfl ?_
      refine v_istore_n hC dX5_isWord_26 (by decide) rfl ?_
      obtain ⟨n10, h⟩ := h
      exact V.sub [1, 2, 0] rfl (tT_isWord_buyer_l27 hC hR  n10 _ _ h)
    · replace h := h.2 c3
      refine v_iconst hC (nI 0) dX5_isWord_23 rfl ?_
      exact v_zret hC hR rfl h dX5_isWord_24
def rmK_addBuyer : Room := { frames := 0, cells := 0, slots := 0, locals := 0 }
def wK52_addBuyer (x1 : Int32) (x2 : Int32) (σ : gM) (Q : gM → Prop) : Prop :=
    vp_in (σ 52 3) 4 ∧ (∀ σ1 : gM, σ1 = gU σ 53 (σ 52 3).toNatClampNeg x1 → (vp_in (σ1 52 3) 4 ∧ (∀ σ2 : gM, σ2 = gU σ1 54 (σ1 52 3).toNatClampNeg x2 → (vp_in (σ2 52 3) 4 ∧ (∀ σ3 : gM, σ3 = gU σ2 55 (σ2 52 3).toNatClampNeg (nI 0) → (vp_in (σ3 52 3) 4 ∧ (∀ σ4 : gM, σ4 = gU σ3 56 (σ3 52 3).toNatClampNeg (nI 0) → (∀ σ5 : gM, σ5 = gU σ4 52 3 ((σ4 52 3) + (nI 1)) → (Q σ5)))))))))
set_option maxHeartbeats 4000000 in
set_option maxRecDepth 100000 in
theorem kK52_addBuyer (x1 : Int32) (x2 : Int32) (σ : gM) (Q : gM → Prop) (h : wK52_addBuyer x1 x2 σ Q) : CT yX2_addBuyer cX2_addBuyer 3 none rmK_addBuyer (fun G => [.ref (gad G 52), .int x1, .int x2]) σ (gPv Q) := by
  refine c_enter (by decide) (fun _ => Nat.le_of_ble_eq_true rfl) (fun X hC hR => ?_)
  show V X 3 0 [(0, .ref (xad X 52)), (1, .int x1), (2, .int x2)] [] σ
  replace h : vp_in (σ 52 3) 4 ∧ (∀ σ1 : gM, σ1 = gU σ 53 (σ 52 3).toNatClampNeg x1 → (vp_in (σ1 52 3) 4 ∧ (∀ σ2 : gM, σ2 = gU σ1 54 (σ1 52 3).toNatClampNeg x2 → (vp_in (σ2 52 3) 4 ∧ (∀ σ3 : gM, σ3 = gU σ2 55 (σ2 52 3).toNatClampNeg (nI 0) → (vp_in (σ3 52 3) 4 ∧ (∀ σ4 : gM, σ4 = gU σ3 56 (σ3 52 3).toNatClampNeg (nI 0) → (∀ σ5 : gM, σ5 = gU σ4 52 3 ((σ4 52 3) + (nI 1)) → (Q σ5))))))))) := h
  refine v_aload_n hC 0 dX2_addBuyer_0 rfl ?_
  refine gf_X2_9_52 hC dX2_addBuyer_1 ?_
  refine v_aload_n hC 0 dX2_addBuyer_4 rfl ?_
  refine gf_X2_50_52 hC dX2_addBuyer_5 ?_
  refine v_iload_n hC 1 dX2_addBuyer_8 rfl ?_
  obtain ⟨hi1, h⟩ := h
  refine v_iast hC (Nat.le_of_ble_eq_true rfl) rfl rfl hi1 dX2_addBuyer_9 (fun σ1 e1 => ?_)
  replace h := h σ1 e1
  refine v_aload_n hC 0 dX2_addBuyer_10 rfl ?_
  refine gf_X2_15_52 hC dX2_addBuyer_11 ?_
  refine v_aload_n hC 0 dX2_addBuyer_14 rfl ?_
  refine gf_X2_50_52 hC dX2_addBuyer_15 ?_
  refine v_iload_n hC 2 dX2_addBuyer_18 rfl ?_
  obtain ⟨hi2, h⟩ := h
  refine v_iast hC (Nat.le_of_ble_eq_true rfl) rfl rfl hi2 dX2_addBuyer_19 (fun σ2 e2 => ?_)
  replace h := h σ2 e2
  refine v_aload_n hC 0 dX2_addBuyer_20 rfl ?_
  refine gf_X2_18_52 hC dX2_addBuyer_21 ?_
  refine v_aload_n hC 0 dX2_addBuyer_24 rfl ?_
  refine gf_X2_50_52 hC dX2_addBuyer_25 ?_
  refine v_iconst hC (nI 0) dX2_addBuyer_28 rfl ?_
  obtain ⟨hi3, h⟩ := h
  refine v_iast hC (Nat.le_of_ble_eq_true rfl) rfl rfl hi3 dX2_addBuyer_29 (fun σ3 e3 => ?_)
  replace h := h σ3 e3
  refine v_aload_n hC 0 dX2_addBuyer_30 rfl ?_
  refine gf_X2_21_52 hC dX2_addBuyer_31 ?_
  refine v_aload_n hC 0 dX2_addBuyer_34 rfl ?_
  refine gf_X2_50_52 hC dX2_addBuyer_35 ?_
  refine v_iconst hC (nI 0) dX2_addBuyer_38 rfl ?_
  obtain ⟨hi4, h⟩ := h
  refine v_iast hC (Nat.le_of_ble_eq_true rfl) rfl rfl hi4 dX2_addBuyer_39 (fun σ4 e4 => ?_)
  replace h := h σ4 e4
  refine v_aload_n hC 0 dX2_addBuyer_40 rfl ?_
  refine v_dup hC dX2_addBuyer_41 rfl ?_
  refine gf_X2_50_52 hC dX2_addBuyer_42 ?_
  refine v_iconst hC (nI 1) dX2_addBuyer_45 rfl ?_
  refine v_iadd hC dX2_addBuyer_46 ?_
  refine pf_X2_50_52 hC dX2_addBuyer_47 (fun σ5 e5 => ?_)
  replace h := h σ5 e5
  exact v_vret hC hR h dX2_addBuyer_50
theorem cmK_addBuyer : CM yX2_addBuyer cX2_addBuyer 3 none rmK_addBuyer 2 := ⟨kw77, kw544, rfl, rfl, by decide, by decide, by decide +kernel⟩
def rmT_readBuyer : Room := { frames := 4, cells := 0, slots := 0, locals := 82 }
def wT_readBuyer_52  (σ : gM) (Q : gM → Prop) : Prop :=
    ((σ 52 3) = (nI 4) → (wT_fail (nI 3) σ (fun (σ3 : gM) => Q σ3))) ∧ (¬ ((σ 52 3) = (nI 4)) → (wT_step  σ (fun (σ5 : gM) => wT_readNumber (nI 5) σ5 (fun (r7 : Int32) (σ7 : gM) => wT_readNumber (nI 200) σ7 (fun (r9 : Int32) (σ9 : gM) => wT_readSign  σ9 (fun (σ11 : gM) => ((σ11 18 1) = nI 0 → (wK52_addBuyer r7 r9 σ11 (fun (σ14 : gM) => Q σ14))) ∧ (¬ ((σ11 18 1) = nI 0) → (Q σ11))))))))
set_option maxHeartbeats 4000000 in
set_option maxRecDepth 100000 in
theorem kT_readBuyer_52  (σ : gM) (Q : gM → Prop) (h : wT_readBuyer_52  σ Q) : CT yX5_readBuyer cX5_readBuyer 4 none rmT_readBuyer (fun G => [.ref (gad G 18), .ref (gad G 52)]) σ (gPv Q) := by
  refine c_enter (by decide) (fun _ => Nat.le_of_ble_eq_true rfl) (fun X hC hR => ?_)
  show V X 4 0 [(0, .ref (xad X 18)), (1, .ref (xad X 52))] [] σ
  replace h : ((σ 52 3) = (nI 4) → (wT_fail (nI 3) σ (fun (σ3 : gM) => Q σ3))) ∧ (¬ ((σ 52 3) = (nI 4)) → (wT_step  σ (fun (σ5 : gM) => wT_readNumber (nI 5) σ5 (fun (r7 : Int32) (σ7 : gM) => wT_readNumber (nI 200) σ7 (fun (r9 : Int32) (σ9 : gM) => wT_readSign  σ9 (fun (σ11 : gM) => ((σ11 18 1) = nI 0 → (wK52_addBuyer r7 r9 σ11 (fun (σ14 : gM) => Q σ14))) ∧ (¬ ((σ11 18 1) = nI 0) → (Q σ11)))))))) := h
  refine v_aload_n hC 1 dX5_readBuyer_0 rfl ?_
  refine gf_X5_70_52 hC dX5_readBuyer_1 ?_
  refine v_iconst hC (nI 4) dX5_readBuyer_4 rfl ?_
  refine v_icmp_ne hC 14 dX5_readBuyer_5 (by decide) (fun c1 => ?_) (fun c1 => ?_)
  · replace h := h.2 c1
    refine v_aload_n hC 0 dX5_readBuyer_14 rfl ?_
    refine v_callV hC (kT_step  _ _ h) cmT_step ⟨kw448, kw5⟩ kw446 ⟨Nat.le_of_ble_eq_true rfl, Nat.le_of_ble_eq_true rfl⟩ (Nat.le_of_ble_eq_true rfl) rfl (ci := 5) (T := TX5) (N := 8) rfl (As := fun G => []) (fun _ => rfl) (fun _ => rfl) (st := []) (Nat.le_of_ble_eq_true rfl) rfl dX5_readBuyer_15 (kk_v (fun σ5 h => ?_))
    refine v_aload_n hC 0 dX5_readBuyer_18 rfl ?_
    refine v_iconst hC (nI 5) dX5_readBuyer_19 rfl ?_
    refine v_callV hC (kT_readNumber _ _ _ h) cmT_readNumber ⟨kw530, kw11⟩ kw528 ⟨Nat.le_of_ble_eq_true rfl, Nat.le_of_ble_eq_true rfl⟩ (Nat.le_of_ble_eq_true rfl) rfl (ci := 5) (T := TX5) (N := 8) rfl (As := fun G => [.int (nI 5)]) (fun _ => rfl) (fun _ => rfl) (st := []) (Nat.le_of_ble_eq_true rfl) rfl dX5_readBuyer_20 (kk_i (fun r7 σ7 h => ?_))
    refine v_istore_n hC dX5_readBuyer_23 (by decide) rfl ?_
    refine v_aload_n hC 1 dX5_readBuyer_24 rfl ?_
    refine v_sipush hC (nI 200) dX5_readBuyer_25 rfl ?_
    refine v_callV hC (kT_readNumber _ _ _ h) cmT_readNumber ⟨kw530, kw11⟩ kw528 ⟨Nat.le_of_ble_eq_true rfl, Nat.le_of_ble_eq_true rfl⟩ (Nat.le_of_ble_eq_true rfl) rfl (ci := 5) (T := TX5) (N := 8) rfl (As := fun G => [.int (nI 200)]) (fun _ => rfl) (fun _ => rfl) (st := []) (Nat.le_of_ble_eq_true rfl) rfl dX5_readBuyer_28 (kk_i (fun r9 σ9 h => ?_))
    refine v_istore_n hC dX5_readBuyer_31 (by decide) rfl ?_
    refine v_aload_n hC 2 dX5_readBuyer_32 rfl ?_
    refine v_callV hC (kT_readSign  _ _ h) cmT_readSign ⟨kw534, kw12⟩ kw532 ⟨Nat.le_of_ble_eq_true rfl, Nat.le_of_ble_eq_true rfl⟩ (Nat.le_of_ble_eq_true rfl) rfl (ci := 5) (T := TX5) (N := 8) rfl (As := fun G => []) (fun _ => rfl) (fun _ => rfl) (st := []) (Nat.le_of_ble_eq_true rfl) rfl dX5_readBuyer_33 (kk_v (fun σ11 h => ?_))
    refine v_aload_n hC 2 dX5_readBuyer_36 rfl ?_
    refine gf_X5_24 hC dX5_readBuyer_37 ?_
    refine v_if_ne hC 49 dX5_readBuyer_40 (by decide) (fun c12 => ?_) (fun c12 => ?_)
    · replace h := h.2 c12
      exact v_vret hC hR h dX5_readBuyer_49
    · replace h := h.1 c12
      refine v_aload_n hC 3 dX5_readBuyer_43 rfl ?_
      refine v_iload_n hC 1 dX5_readBuyer_44 rfl ?_
      refine v_iload_n hC 0 dX5_readBuyer_45 rfl ?_
      refine v_callV hC (kK52_addBuyer _ _ _ _ h) cmK_addBuyer ⟨kw542, kw543⟩ kw541 ⟨Nat.le_of_ble_eq_true rfl, Nat.le_of_ble_eq_true rfl⟩ (Nat.le_of_ble_eq_true rfl) rfl (ci := 2) (T := TX2) (N := 15) rfl (As := fun G => [.int r7, .int r9]) (fun _ => rfl) (fun _ => rfl) (st := []) (Nat.le_of_ble_eq_true rfl) rfl dX5_readBuyer_46 (kk_v (fun σ14 h => ?_))
      exact v_vret hC hR h dX5_readBuyer_49
  · replace h := h.1 c1
    refine v_aload_n hC 0 dX5_readBuyer_8 rfl ?_
    refine v_iconst hC (nI 3) dX5_readBuyer_9 rfl ?_
    refine v_callV hC (kT_fail _ _ _ h) cmT_fail ⟨kw526, kw10⟩ kw524 ⟨Nat.le_of_ble_eq_true rfl, Nat.le_of_ble_eq_true rfl⟩ (Nat.le_of_ble_eq_true rfl) rfl (ci := 5) (T := TX5) (N := 8) rfl (As := fun G => [.int (nI 3)]) (fun _ => rfl) (fun _ => rfl) (st := []) (Nat.le_of_ble_eq_true rfl) rfl dX5_readBuyer_10 (kk_v (fun σ3 h => ?_))
    exact v_vret hC hR h dX5_readBuyer_13
theorem cmT_readBuyer : CM yX5_readBuyer cX5_readBuyer 4 none rmT_readBuyer 1 := ⟨kw76, kw540, rfl, rfl, by decide, by decide, by decide +kernel⟩
def rmT_readInto : Room := { frames := 8, cells := 0, slots := 0, locals := 187 }
def wT_readInto_52_b81 (Q : Int32 → gM → Prop)  (σ : gM) : Prop :=
    ((σ 18 6) = (nI 3) → (∀ σ12 : gM, σ12 = gU σ 18 0 (nI 0) → (∀ v14 : Int32, v14 = (if (σ12 18 1) = nI 0 then (nI 1) else (nI 0)) → ((v14 = nI 0 ∨ v14 = nI 1) ∧ Q v14 σ12)))) ∧ (¬ ((σ 18 6) = (nI 3)) → (wT_fail (nI 1) σ (fun (σ16 : gM) => ∀ σ17 : gM, σ17 = gU σ16 18 0 (nI 0) → (∀ v19 : Int32, v19 = (if (σ17 18 1) = nI 0 then (nI 1) else (nI 0)) → ((v19 = nI 0 ∨ v19 = nI 1) ∧ Q v19 σ17)))))
def wT_readInto_52_l54 (Q : Int32 → gM → Prop)  : Nat → Int32 → gM → Prop
  | 0, _, _ => False
  | n + 1, x2, σ =>
    ((nI 400) ≤ x2 → (wT_readInto_52_b81 Q σ)) ∧ (¬ ((nI 400) ≤ x2) → (wT_isWord_ware  σ (fun (r21 : Int32) (σ21 : gM) => (r21 = nI 0 → (wT_readInto_52_b81 Q σ21)) ∧ (¬ (r21 = nI 0) → (wT_readWare_52  σ21 (fun (σ24 : gM) => ∀ x2_25 : Int32, x2_25 = x2 + (nI 1) → (wT_readInto_52_l54 Q n x2_25 σ24)))))))
def wT_readInto_52_b52 (Q : Int32 → gM → Prop)  (σ : gM) : Prop :=
    ∃ n26 : Nat, wT_readInto_52_l54 Q n26 (nI 0) σ
def wT_readInto_52_l25 (Q : Int32 → gM → Prop)  : Nat → Int32 → gM → Prop
  | 0, _, _ => False
  | n + 1, x2, σ =>
    ((nI 400) ≤ x2 → (wT_readInto_52_b52 Q σ)) ∧ (¬ ((nI 400) ≤ x2) → (wT_isWord_buyer  σ (fun (r28 : Int32) (σ28 : gM) => (r28 = nI 0 → (wT_readInto_52_b52 Q σ28)) ∧ (¬ (r28 = nI 0) → (wT_readBuyer_52  σ28 (fun (σ31 : gM) => ∀ x2_32 : Int32, x2_32 = x2 + (nI 1) → (wT_readInto_52_l25 Q n x2_32 σ31)))))))
def wT_readInto_52  (σ : gM) (Q : Int32 → gM → Prop) : Prop :=
    wK52_clear  σ (fun (σ2 : gM) => ∀ σ3 : gM, σ3 = gU σ2 18 1 (nI 0) → (∀ σ4 : gM, σ4 = gU σ3 18 5 (nI 0) → (wT_step  σ4 (fun (σ6 : gM) => wT_readLaw_52  σ6 (fun (σ8 : gM) => ∃ n33 : Nat, wT_readInto_52_l25 Q n33 (nI 0) σ8)))))
set_option maxHeartbeats 4000000 in
set_option maxRecDepth 100000 in
theorem tT_readInto_52_b81 {X : gX} {Q : Int32 → gM → Prop} (hC : VC X cX5_readInto RX5 3 rmT_readInto) (hR : VR X (some .boolean) (gPi Q))  (σ : gM) (h : wT_readInto_52_b81 Q   σ) : V X 3 81 [(0, .ref (xad X 18))] [] σ := by
  replace h : ((σ 18 6) = (nI 3) → (∀ σ12 : gM, σ12 = gU σ 18 0 (nI 0) → (∀ v14 : Int32, v14 = (if (σ12 18 1) = nI 0 then (nI 1) else (nI 0)) → ((v14 = nI 0 ∨ v14 = nI 1) ∧ Q v14 σ12)))) ∧ (¬ ((σ 18 6) = (nI 3)) → (wT_fail (nI 1) σ (fun (σ16 : gM) => ∀ σ17 : gM, σ17 = gU σ16 18 0 (nI 0) → (∀ v19 : Int32, v19 = (if (σ17 18 1) = nI 0 then (nI 1) else (nI 0)) → ((v19 = nI 0 ∨ v19 = nI 1) ∧ Q v19 σ17))))) := h
  refine v_aload_n hC 0 dX5_readInto_81 rfl ?_
  refine gf_X5_51 hC dX5_readInto_82 ?_
  refine v_iconst hC (nI 3) dX5_readInto_85 rfl ?_
  refine v_icmp_eq hC 94 dX5_readInto_86 (by decide) (fun c11 => ?_) (fun c11 => ?_)
  · replace h := h.1 c11
    refine v_aload_n hC 0 dX5_readInto_94 rfl ?_
    refine v_iconst hC (nI 0) dX5_readInto_95 rfl ?_
    refine pf_X5_15 hC dX5_readInto_96 (fun σ12 e12 => ?_)
    replace h := h σ12 e12
    refine v_aload_n hC 0 dX5_readInto_99 rfl ?_
    refine gf_X5_24 hC dX5_readInto_100 ?_
    have J13 : ∀ (v14 : Int32) (ev14 : v14 = (if (σ12 18 1) = nI 0 then (nI 1) else (nI 0))), V X 3 111 [] [.int v14] σ12 := by
      intro v14 ev14
      replace h := h v14 ev14
      obtain ⟨hb, h⟩ := h
      exact v_zret hC hR (nar_bool hb) h dX5_readInto_111
    refine v_if_ne hC 110 dX5_readInto_103 (by decide) (fun c13 => ?_) (fun c13 => ?_)
    · refine v_iconst hC (nI 0) dX5_readInto_110 rfl ?_
      exact V.sub [] rfl (J13 _ (by rw [if_neg c13]))
    · refine v_iconst hC (nI 1) dX5_readInto_106 rfl ?_
      refine v_goto hC 111 dX5_readInto_107 (by decide) ?_
      exact V.sub [] rfl (J13 _ (by rw [if_pos c13]))
  · replace h := h.2 c11
    refine v_aload_n hC 0 dX5_readInto_89 rfl ?_
    refine v_iconst hC (nI 1) dX5_readInto_90 rfl ?_
    refine v_callV hC (kT_fail _ _ _ h) cmT_fail ⟨kw526, kw10⟩ kw524 ⟨Nat.le_of_ble_eq_true rfl, Nat.le_of_ble_eq_true rfl⟩ (Nat.le_of_ble_eq_true rfl) rfl (ci := 5) (T := TX5) (N := 8) rfl (As := fun G => [.int (nI 1)]) (fun _ => rfl) (fun _ => rfl) (st := []) (Nat.le_of_ble_eq_true rfl) rfl dX5_readInto_91 (kk_v (fun σ16 h => ?_))
    refine v_aload_n hC 0 dX5_readInto_94 rfl ?_
    refine v_iconst hC (nI 0) dX5_readInto_95 rfl ?_
    refine pf_X5_15 hC dX5_readInto_96 (fun σ17 e17 => ?_)
    replace h := h σ17 e17
    refine v_aload_n hC 0 dX5_readInto_99 rfl ?_
    refine gf_X5_24 hC dX5_readInto_100 ?_
    have J18 : ∀ (v19 : Int32) (ev19 : v19 = (if (σ17 18 1) = nI 0 then (nI 1) else (nI 0))), V X 3 111 [] [.int v19] σ17 := by
      intro v19 ev19
      replace h := h v19 ev19
      obtain ⟨hb, h⟩ := h
      exact v_zret hC hR (nar_bool hb) h dX5_readInto_111
    refine v_if_ne hC 110 dX5_readInto_103 (by decide) (fun c18 => ?_) (fun c18 => ?_)
    · refine v_iconst hC (nI 0) dX5_readInto_110 rfl ?_
      exact V.sub [] rfl (J18 _ (by rw [if_neg c18]))
    · refine v_iconst hC (nI 1) dX5_readInto_106 rfl ?_
      refine v_goto hC 111 dX5_readInto_107 (by decide) ?_
      exact V.sub [] rfl (J18 _ (by rw [if_pos c18]))
set_option maxHeartbeats 4000000 in
set_option maxRecDepth 100000 in
theorem tT_readInto_52_l54 {X : gX} {Q : Int32 → gM → Prop} (hC : VC X cX5_readInto RX5 3 rmT_readInto) (hR : VR X (some .boolean) (gPi Q))  : ∀ (n : Nat) (x2 : Int32) (σ : gM), wT_readInto_52_l54 Q  n x2 σ → V X 3 54 [(0, .ref (xad X 18)), (1, .ref (xad X 52)), (2, .int x2)] [] σ := by
  intro n
  induction n with
  | zero => intro x2 σ h; exact h.elim
  | succ n ih =>
    intro x2 σ h
    replace h : ((nI 400) ≤ x2 → (wT_readInto_52_b81 Q σ)) ∧ (¬ ((nI 400) ≤ x2) → (wT_isWord_ware  σ (fun (r21 : Int32) (σ21 : gM) => (r21 = nI 0 → (wT_readInto_52_b81 Q σ21)) ∧ (¬ (r21 = nI 0) → (wT_readWare_52  σ21 (fun (σ24 : gM) => ∀ x2_25 : Int32, x2_25 = x2 + (nI 1) → (wT_readInto_52_l54 Q n x2_25 σ24))))))) := h
    refine v_iload_n hC 2 dX5_readInto_54 rfl ?_
    refine v_sipush hC (nI 400) dX5_readInto_55 rfl ?_
    refine v_icmp_ge hC 81 dX5_readInto_58 (by decide) (fun c10 => ?_) (fun c10 => ?_)
    · replace h := h.1 c10
      exact V.sub [0] rfl (tT_readInto_52_b81 hC hR  _ h)
    · replace h := h.2 c10
      refine v_aload_n hC 0 dX5_readInto_61 rfl ?_
      refine v_ldcS hC 2 rfl dX5_readInto_62 ?_
      refine v_callV hC (kT_isWord_ware  _ _ h) cmT_isWord ⟨kw474, kw9⟩ kw472 ⟨Nat.le_of_ble_eq_true rfl, Nat.le_of_ble_eq_true rfl⟩ (Nat.le_of_ble_eq_true rfl) rfl (ci := 5) (T := TX5) (N := 8) rfl (As := fun G => [.ref (gK G 2)]) (fun _ => rfl) (fun _ => rfl) (st := []) (Nat.le_of_ble_eq_true rfl) rfl dX5_readInto_64 (kk_i (fun r21 σ21 h => ?_))
      refine v_if_eq hC 81 dX5_readInto_67 (by decide) (fun c22 => ?_) (fun c22 => ?_)
      · replace h := h.1 c22
        exact V.sub [0] rfl (tT_readInto_52_b81 hC hR  _ h)
      · replace h := h.2 c22
        refine v_aload_n hC 0 dX5_readInto_70 rfl ?_
        refine v_aload_n hC 1 dX5_readInto_71 rfl ?_
        refine v_callV hC (kT_readWare_52  _ _ h) cmT_readWare ⟨kw548, kw14⟩ kw546 ⟨Nat.le_of_ble_eq_true rfl, Nat.le_of_ble_eq_true rfl⟩ (Nat.le_of_ble_eq_true rfl) rfl (ci := 5) (T := TX5) (N := 8) rfl (As := fun G => [.ref (gad G 52)]) (fun _ => rfl) (fun _ => rfl) (st := []) (Nat.le_of_ble_eq_true rfl) rfl dX5_readInto_72 (kk_v (fun σ24 h => ?_))
        refine v_iincN hC (nI 1) 2 dX5_readInto_75 rfl rfl (by decide) (lo2 := fun x2_25 => [(2, .int x2_25), (0, .ref (xad X 18)), (1, .ref (xad X 52))]) (fun _ => rfl) (fun x2_25 e25 => ?_)
        replace h := h x2_25 e25
        refine v_goto hC 54 dX5_readInto_78 (by decide) ?_
        exact V.sub [1, 2, 0] rfl (ih _ _ h)
set_option maxHeartbeats 4000000 in
set_option maxRecDepth 100000 in
theorem tT_readInto_52_b52 {X : gX} {Q : Int32 → gM → Prop} (hC : VC X cX5_readInto RX5 3 rmT_readInto) (hR : VR X (some .boolean) (gPi Q))  (σ : gM) (h : wT_readInto_52_b52 Q   σ) : V X 3 52 [(0, .ref (xad X 18)), (1, .ref (xad X 52))] [] σ := by
  replace h : ∃ n26 : Nat, wT_readInto_52_l54 Q n26 (nI 0) σ := h
  refine v_iconst hC (nI 0) dX5_readInto_52 rfl ?_
  refine v_istore_n hC dX5_readInto_53 (by decide) rfl ?_
  obtain ⟨n26, h⟩ := h
  exact V.sub [1, 2, 0] rfl (tT_readInto_52_l54 hC hR  n26 _ _ h)
set_option maxHeartbeats 4000000 in
set_option maxRecDepth 100000 in
theorem tT_readInto_52_l25 {X : gX} {Q : Int32 → gM → Prop} (hC : VC X cX5_readInto RX5 3 rmT_readInto) (hR : VR X (some .boolean) (gPi Q))  : ∀ (n : Nat) (x2 : Int32) (σ : gM), wT_readInto_52_l25 Q  n x2 σ → V X 3 25 [(0, .ref (xad X 18)), (1, .ref (xad X 52)), (2, .int x2)] [] σ := by
  intro n
  induction n with
  | zero => intro x2 σ h; exact h.elim
  | succ n ih =>
    intro x2 σ h
    replace h : ((nI 400) ≤ x2 → (wT_readInto_52_b52 Q σ)) ∧ (¬ ((nI 400) ≤ x2) → (wT_isWord_buyer  σ (fun (r28 : Int32) (σ28 : gM) => (r28 = nI 0 → (wT_readInto_52_b52 Q σ28)) ∧ (¬ (r28 = nI 0) → (wT_readBuyer_52  σ28 (fun (σ31 : gM) => ∀ x2_32 : Int32, x2_32 = x2 + (nI 1) → (wT_readInto_52_l25 Q n x2_32 σ31))))))) := h
    refine v_iload_n hC 2 dX5_readInto_25 rfl ?_
    refine v_sipush hC (nI 400) dX5_readInto_26 rfl ?_
    refine v_icmp_ge hC 52 dX5_readInto_29 (by decide) (fun c9 => ?_) (fun c9 => ?_)
    · replace h := h.1 c9
      exact V.sub [0, 1] rfl (tT_readInto_52_b52 hC hR  _ h)
    · replace h := h.2 c9
      refine v_aload_n hC 0 dX5_readInto_32 rfl ?_
      refine v_ldcS hC 1 rfl dX5_readInto_33 ?_
      refine v_callV hC (kT_isWord_buyer  _ _ h) cmT_isWord ⟨kw474, kw9⟩ kw472 ⟨Nat.le_of_ble_eq_true rfl, Nat.le_of_ble_eq_true rfl⟩ (Nat.le_of_ble_eq_true rfl) rfl (ci := 5) (T := TX5) (N := 8) rfl (As := fun G => [.ref (gK G 1)]) (fun _ => rfl) (fun _ => rfl) (st := []) (Nat.le_of_ble_eq_true rfl) rfl dX5_readInto_35 (kk_i (fun r28 σ28 h => ?_))
      refine v_if_eq hC 52 dX5_readInto_38 (by decide) (fun c29 => ?_) (fun c29 => ?_)
      · replace h := h.1 c29
        exact V.sub [0, 1] rfl (tT_readInto_52_b52 hC hR  _ h)
      · replace h := h.2 c29
        refine v_aload_n hC 0 dX5_readInto_41 rfl ?_
        refine v_aload_n hC 1 dX5_readInto_42 rfl ?_
        refine v_callV hC (kT_readBuyer_52  _ _ h) cmT_readBuyer ⟨kw539, kw13⟩ kw537 ⟨Nat.le_of_ble_eq_true rfl, Nat.le_of_ble_eq_true rfl⟩ (Nat.le_of_ble_eq_true rfl) rfl (ci := 5) (T := TX5) (N := 8) rfl (As := fun G => [.ref (gad G 52)]) (fun _ => rfl) (fun _ => rfl) (st := []) (Nat.le_of_ble_eq_true rfl) rfl dX5_readInto_43 (kk_v (fun σ31 h => ?_))
        refine v_iincN hC (nI 1) 2 dX5_readInto_46 rfl rfl (by decide) (lo2 := fun x2_32 => [(2, .int x2_32), (0, .ref (xad X 18)), (1, .ref (xad X 52))]) (fun _ => rfl) (fun x2_32 e32 => ?_)
        replace h := h x2_32 e32
        refine v_goto hC 25 dX5_readInto_49 (by decide) ?_
        exact V.sub [1, 2, 0] rfl (ih _ _ h)
set_option maxHeartbeats 4000000 in
set_option maxRecDepth 100000 in
theorem kT_readInto_52  (σ : gM) (Q : Int32 → gM → Prop) (h : wT_readInto_52  σ Q) : CT yX5_readInto cX5_readInto 3 (some .boolean) rmT_readInto (fun G => [.ref (gad G 18), .ref (gad G 52)]) σ (gPi Q) := by
  refine c_enter (by decide) (fun _ => Nat.le_of_ble_eq_true rfl) (fun X hC hR => ?_)
  show V X 3 0 [(0, .ref (xad X 18)), (1, .ref (xad X 52))] [] σ
  replace h : wK52_clear  σ (fun (σ2 : gM) => ∀ σ3 : gM, σ3 = gU σ2 18 1 (nI 0) → (∀ σ4 : gM, σ4 = gU σ3 18 5 (nI 0) → (wT_step  σ4 (fun (σ6 : gM) => wT_readLaw_52  σ6 (fun (σ8 : gM) => ∃ n33 : Nat, wT_readInto_52_l25 Q n33 (nI 0) σ8))))) := h
  refine v_aload_n hC 1 dX5_readInto_0 rfl ?_
  refine v_callV hC (kK52_clear  _ _ h) cmK_clear ⟨kw443, kw444⟩ kw442 ⟨Nat.le_of_ble_eq_true rfl, Nat.le_of_ble_eq_true rfl⟩ (Nat.le_of_ble_eq_true rfl) rfl (ci := 2) (T := TX2) (N := 15) rfl (As := fun G => []) (fun _ => rfl) (fun _ => rfl) (st := []) (Nat.le_of_ble_eq_true rfl) rfl dX5_readInto_1 (kk_v (fun σ2 h => ?_))
  refine v_aload_n hC 0 dX5_readInto_4 rfl ?_
  refine v_iconst hC (nI 0) dX5_readInto_5 rfl ?_
  refine pf_X5_24 hC dX5_readInto_6 (fun σ3 e3 => ?_)
  replace h := h σ3 e3
  refine v_aload_n hC 0 dX5_readInto_9 rfl ?_
  refine v_iconst hC (nI 0) dX5_readInto_10 rfl ?_
  refine pf_X5_27 hC dX5_readInto_11 (fun σ4 e4 => ?_)
  replace h := h σ4 e4
  refine v_aload_n hC 0 dX5_readInto_14 rfl ?_
  refine v_callV hC (kT_step  _ _ h) cmT_step ⟨kw448, kw5⟩ kw446 ⟨Nat.le_of_ble_eq_true rfl, Nat.le_of_ble_eq_true rfl⟩ (Nat.le_of_ble_eq_true rfl) rfl (ci := 5) (T := TX5) (N := 8) rfl (As := fun G => []) (fun _ => rfl) (fun _ => rfl) (st := []) (Nat.le_of_ble_eq_true rfl) rfl dX5_readInto_15 (kk_v (fun σ6 h => ?_))
  refine v_aload_n hC 0 dX5_readInto_18 rfl ?_
  refine v_aload_n hC 1 dX5_readInto_19 rfl ?_
  refine v_callV hC (kT_readLaw_52  _ _ h) cmT_readLaw ⟨kw469, kw8⟩ kw467 ⟨Nat.le_of_ble_eq_true rfl, Nat.le_of_ble_eq_true rfl⟩ (Nat.le_of_ble_eq_true rfl) rfl (ci := 5) (T := TX5) (N := 8) rfl (As := fun G => [.ref (gad G 52)]) (fun _ => rfl) (fun _ => rfl) (st := []) (Nat.le_of_ble_eq_true rfl) rfl dX5_readInto_20 (kk_v (fun σ8 h => ?_))
  refine v_iconst hC (nI 0) dX5_readInto_23 rfl ?_
  refine v_istore_n hC dX5_readInto_24 (by decide) rfl ?_
  obtain ⟨n33, h⟩ := h
  exact V.sub [1, 2, 0] rfl (tT_readInto_52_l25 hC hR  n33 _ _ h)
theorem cmT_readInto : CM yX5_readInto cX5_readInto 3 (some .boolean) rmT_readInto 1 := ⟨kw76, kw441, rfl, rfl, by decide, by decide, by decide +kernel⟩
def rmK_become : Room := { frames := 1, cells := 0, slots := 0, locals := 60 }
def wK42_become_52  (σ : gM) (Q : gM → Prop) : Prop :=
    ((σ 52 0) = nI 0 ∨ (σ 52 0) = nI 1) ∧ (∀ σ1 : gM, σ1 = gU σ 42 0 (σ 52 0) → (∀ σ2 : gM, σ2 = gU σ1 42 1 (σ1 52 1) → (∀ σ3 : gM, σ3 = gU σ2 42 2 (σ2 52 2) → (∀ σ4 : gM, σ4 = gU σ3 42 3 (σ3 52 3) → (∀ σ5 : gM, σ5 = gU σ4 42 4 (σ4 52 4) → (∀ σ6 : gM, σ6 = gU σ5 42 5 (σ5 52 5) → (∀ σ7 : gM, σ7 = gCp σ6 53 0 43 0 4 → (∀ σ8 : gM, σ8 = gCp σ7 54 0 44 0 4 → (∀ σ9 : gM, σ9 = gCp σ8 55 0 45 0 4 → (∀ σ10 : gM, σ10 = gCp σ9 56 0 46 0 4 → (∀ σ11 : gM, σ11 = gCp σ10 57 0 47 0 16 → (∀ σ12 : gM, σ12 = gCp σ11 58 0 48 0 16 → (∀ σ13 : gM, σ13 = gCp σ12 59 0 49 0 16 → (∀ σ14 : gM, σ14 = gCp σ13 60 0 50 0 16 → (∀ σ15 : gM, σ15 = gCp σ14 61 0 51 0 16 → (Q σ15))))))))))))))))
set_option maxHeartbeats 4000000 in
set_option maxRecDepth 100000 in
theorem kK42_become_52  (σ : gM) (Q : gM → Prop) (h : wK42_become_52  σ Q) : CT yX2_become cX2_become 2 none rmK_become (fun G => [.ref (gad G 42), .ref (gad G 52)]) σ (gPv Q) := by
  refine c_enter (by decide) (fun _ => Nat.le_of_ble_eq_true rfl) (fun X hC hR => ?_)
  show V X 2 0 [(0, .ref (xad X 42)), (1, .ref (xad X 52))] [] σ
  replace h : ((σ 52 0) = nI 0 ∨ (σ 52 0) = nI 1) ∧ (∀ σ1 : gM, σ1 = gU σ 42 0 (σ 52 0) → (∀ σ2 : gM, σ2 = gU σ1 42 1 (σ1 52 1) → (∀ σ3 : gM, σ3 = gU σ2 42 2 (σ2 52 2) → (∀ σ4 : gM, σ4 = gU σ3 42 3 (σ3 52 3) → (∀ σ5 : gM, σ5 = gU σ4 42 4 (σ4 52 4) → (∀ σ6 : gM, σ6 = gU σ5 42 5 (σ5 52 5) → (∀ σ7 : gM, σ7 = gCp σ6 53 0 43 0 4 → (∀ σ8 : gM, σ8 = gCp σ7 54 0 44 0 4 → (∀ σ9 : gM, σ9 = gCp σ8 55 0 45 0 4 → (∀ σ10 : gM, σ10 = gCp σ9 56 0 46 0 4 → (∀ σ11 : gM, σ11 = gCp σ10 57 0 47 0 16 → (∀ σ12 : gM, σ12 = gCp σ11 58 0 48 0 16 → (∀ σ13 : gM, σ13 = gCp σ12 59 0 49 0 16 → (∀ σ14 : gM, σ14 = gCp σ13 60 0 50 0 16 → (∀ σ15 : gM, σ15 = gCp σ14 61 0 51 0 16 → (Q σ15)))))))))))))))) := h
  refine v_aload_n hC 0 dX2_become_0 rfl ?_
  refine v_aload_n hC 1 dX2_become_1 rfl ?_
  refine gf_X2_39_52 hC dX2_become_2 ?_
  obtain ⟨hb1, h⟩ := h
  refine pf_X2_39_42 hC hb1 dX2_become_5 (fun σ1 e1 => ?_)
  replace h := h σ1 e1
  refine v_aload_n hC 0 dX2_become_8 rfl ?_
  refine v_aload_n hC 1 dX2_become_9 rfl ?_
  refine gf_X2_43_52 hC dX2_become_10 ?_
  refine pf_X2_43_42 hC dX2_become_13 (fun σ2 e2 => ?_)
  replace h := h σ2 e2
  refine v_aload_n hC 0 dX2_become_16 rfl ?_
  refine v_aload_n hC 1 dX2_become_17 rfl ?_
  refine gf_X2_47_52 hC dX2_become_18 ?_
  refine pf_X2_47_42 hC dX2_become_21 (fun σ3 e3 => ?_)
  replace h := h σ3 e3
  refine v_aload_n hC 0 dX2_become_24 rfl ?_
  refine v_aload_n hC 1 dX2_become_25 rfl ?_
  refine gf_X2_50_52 hC dX2_become_26 ?_
  refine pf_X2_50_42 hC dX2_become_29 (fun σ4 e4 => ?_)
  replace h := h σ4 e4
  refine v_aload_n hC 0 dX2_become_32 rfl ?_
  refine v_aload_n hC 1 dX2_become_33 rfl ?_
  refine gf_X2_53_52 hC dX2_become_34 ?_
  refine pf_X2_53_42 hC dX2_become_37 (fun σ5 e5 => ?_)
  replace h := h σ5 e5
  refine v_aload_n hC 0 dX2_become_40 rfl ?_
  refine v_aload_n hC 1 dX2_become_41 rfl ?_
  refine gf_X2_56_52 hC dX2_become_42 ?_
  refine pf_X2_56_42 hC dX2_become_45 (fun σ6 e6 => ?_)
  replace h := h σ6 e6
  refine v_aload_n hC 1 dX2_become_48 rfl ?_
  refine gf_X2_9_52 hC dX2_become_49 ?_
  refine v_iconst hC (nI 0) dX2_become_52 rfl ?_
  refine v_aload_n hC 0 dX2_become_53 rfl ?_
  refine gf_X2_9_42 hC dX2_become_54 ?_
  refine v_iconst hC (nI 0) dX2_become_57 rfl ?_
  refine v_iconst hC (nI 4) dX2_become_58 rfl ?_
  refine v_copy hC (Nat.le_of_ble_eq_true rfl) (Nat.le_of_ble_eq_true rfl) rfl rfl kw571 kw420 kw419 kw84 (by decide) (by decide) (by decide) (by decide) (by decide) (Nat.le_of_ble_eq_true rfl) (by decide) dX2_become_59 (fun σ7 e7 => ?_)
  replace h := h σ7 e7
  refine v_aload_n hC 1 dX2_become_62 rfl ?_
  refine gf_X2_15_52 hC dX2_become_63 ?_
  refine v_iconst hC (nI 0) dX2_become_66 rfl ?_
  refine v_aload_n hC 0 dX2_become_67 rfl ?_
  refine gf_X2_15_42 hC dX2_become_68 ?_
  refine v_iconst hC (nI 0) dX2_become_71 rfl ?_
  refine v_iconst hC (nI 4) dX2_become_72 rfl ?_
  refine v_copy hC (Nat.le_of_ble_eq_true rfl) (Nat.le_of_ble_eq_true rfl) rfl rfl kw571 kw420 kw419 kw84 (by decide) (by decide) (by decide) (by decide) (by decide) (Nat.le_of_ble_eq_true rfl) (by decide) dX2_become_73 (fun σ8 e8 => ?_)
  replace h := h σ8 e8
  refine v_aload_n hC 1 dX2_become_76 rfl ?_
  refine gf_X2_18_52 hC dX2_become_77 ?_
  refine v_iconst hC (nI 0) dX2_become_80 rfl ?_
  refine v_aload_n hC 0 dX2_become_81 rfl ?_
  refine gf_X2_18_42 hC dX2_become_82 ?_
  refine v_iconst hC (nI 0) dX2_become_85 rfl ?_
  refine v_iconst hC (nI 4) dX2_become_86 rfl ?_
  refine v_copy hC (Nat.le_of_ble_eq_true rfl) (Nat.le_of_ble_eq_true rfl) rfl rfl kw571 kw420 kw419 kw84 (by decide) (by decide) (by decide) (by decide) (by decide) (Nat.le_of_ble_eq_true rfl) (by decide) dX2_become_87 (fun σ9 e9 => ?_)
  replace h := h σ9 e9
  refine v_aload_n hC 1 dX2_become_90 rfl ?_
  refine gf_X2_21_52 hC dX2_become_91 ?_
  refine v_iconst hC (nI 0) dX2_become_94 rfl ?_
  refine v_aload_n hC 0 dX2_become_95 rfl ?_
  refine gf_X2_21_42 hC dX2_become_96 ?_
  refine v_iconst hC (nI 0) dX2_become_99 rfl ?_
  refine v_iconst hC (nI 4) dX2_become_100 rfl ?_
  refine v_copy hC (Nat.le_of_ble_eq_true rfl) (Nat.le_of_ble_eq_true rfl) rfl rfl kw571 kw420 kw419 kw84 (by decide) (by decide) (by decide) (by decide) (by decide) (Nat.le_of_ble_eq_true rfl) (by decide) dX2_become_101 (fun σ10 e10 => ?_)
  replace h := h σ10 e10
  refine v_aload_n hC 1 dX2_become_104 rfl ?_
  refine gf_X2_24_52 hC dX2_become_105 ?_
  refine v_iconst hC (nI 0) dX2_become_108 rfl ?_
  refine v_aload_n hC 0 dX2_become_109 rfl ?_
  refine gf_X2_24_42 hC dX2_become_110 ?_
  refine v_iconst hC (nI 0) dX2_become_113 rfl ?_
  refine v_bipush hC (nI 16) dX2_become_114 rfl ?_
  refine v_copy hC (Nat.le_of_ble_eq_true rfl) (Nat.le_of_ble_eq_true rfl) rfl rfl kw571 kw420 kw419 kw84 (by decide) (by decide) (by decide) (by decide) (by decide) (Nat.le_of_ble_eq_true rfl) (by decide) dX2_become_116 (fun σ11 e11 => ?_)
  replace h := h σ11 e11
  refine v_aload_n hC 1 dX2_become_119 rfl ?_
  refine gf_X2_27_52 hC dX2_become_120 ?_
  refine v_iconst hC (nI 0) dX2_become_123 rfl ?_
  refine v_aload_n hC 0 dX2_become_124 rfl ?_
  refine gf_X2_27_42 hC dX2_become_125 ?_
  refine v_iconst hC (nI 0) dX2_become_128 rfl ?_
  refine v_bipush hC (nI 16) dX2_become_129 rfl ?_
  refine v_copy hC (Nat.le_of_ble_eq_true rfl) (Nat.le_of_ble_eq_true rfl) rfl rfl kw571 kw420 kw419 kw84 (by decide) (by decide) (by decide) (by decide) (by decide) (Nat.le_of_ble_eq_true rfl) (by decide) dX2_become_131 (fun σ12 e12 => ?_)
  replace h := h σ12 e12
  refine v_aload_n hC 1 dX2_become_134 rfl ?_
  refine gf_X2_30_52 hC dX2_become_135 ?_
  refine v_iconst hC (nI 0) dX2_become_138 rfl ?_
  refine v_aload_n hC 0 dX2_become_139 rfl ?_
  refine gf_X2_30_42 hC dX2_become_140 ?_
  refine v_iconst hC (nI 0) dX2_become_143 rfl ?_
  refine v_bipush hC (nI 16) dX2_become_144 rfl ?_
  refine v_copy hC (Nat.le_of_ble_eq_true rfl) (Nat.le_of_ble_eq_true rfl) rfl rfl kw571 kw420 kw419 kw84 (by decide) (by decide) (by decide) (by decide) (by decide) (Nat.le_of_ble_eq_true rfl) (by decide) dX2_become_146 (fun σ13 e13 => ?_)
  replace h := h σ13 e13
  refine v_aload_n hC 1 dX2_become_149 rfl ?_
  refine gf_X2_33_52 hC dX2_become_150 ?_
  refine v_iconst hC (nI 0) dX2_become_153 rfl ?_
  refine v_aload_n hC 0 dX2_become_154 rfl ?_
  refine gf_X2_33_42 hC dX2_become_155 ?_
  refine v_iconst hC (nI 0) dX2_become_158 rfl ?_
  refine v_bipush hC (nI 16) dX2_become_159 rfl ?_
  refine v_copy hC (Nat.le_of_ble_eq_true rfl) (Nat.le_of_ble_eq_true rfl) rfl rfl kw571 kw420 kw419 kw84 (by decide) (by decide) (by decide) (by decide) (by decide) (Nat.le_of_ble_eq_true rfl) (by decide) dX2_become_161 (fun σ14 e14 => ?_)
  replace h := h σ14 e14
  refine v_aload_n hC 1 dX2_become_164 rfl ?_
  refine gf_X2_36_52 hC dX2_become_165 ?_
  refine v_iconst hC (nI 0) dX2_become_168 rfl ?_
  refine v_aload_n hC 0 dX2_become_169 rfl ?_
  refine gf_X2_36_42 hC dX2_become_170 ?_
  refine v_iconst hC (nI 0) dX2_become_173 rfl ?_
  refine v_bipush hC (nI 16) dX2_become_174 rfl ?_
  refine v_copy hC (Nat.le_of_ble_eq_true rfl) (Nat.le_of_ble_eq_true rfl) rfl rfl kw571 kw420 kw419 kw84 (by decide) (by decide) (by decide) (by decide) (by decide) (Nat.le_of_ble_eq_true rfl) (by decide) dX2_become_176 (fun σ15 e15 => ?_)
  replace h := h σ15 e15
  exact v_vret hC hR h dX2_become_179
theorem cmK_become : CM yX2_become cX2_become 2 none rmK_become 1 := ⟨kw77, kw576, rfl, rfl, by decide, by decide, by decide +kernel⟩
def rmA_forget : Room := { frames := 0, cells := 0, slots := 0, locals := 0 }
def wA_forget  (σ : gM) (Q : gM → Prop) : Prop :=
    ∀ σ1 : gM, σ1 = gU σ 20 3 (nI 0) → (Q σ1)
set_option maxHeartbeats 4000000 in
set_option maxRecDepth 100000 in
theorem kA_forget  (σ : gM) (Q : gM → Prop) (h : wA_forget  σ Q) : CT yX0_forget cX0_forget 1 none rmA_forget (fun G => [.ref (gad G 20)]) σ (gPv Q) := by
  refine c_enter (by decide) (fun _ => Nat.le_of_ble_eq_true rfl) (fun X hC hR => ?_)
  show V X 1 0 [(0, .ref (xad X 20))] [] σ
  replace h : ∀ σ1 : gM, σ1 = gU σ 20 3 (nI 0) → (Q σ1) := h
  refine v_aload_n hC 0 dX0_forget_0 rfl ?_
  refine v_iconst hC (nI 0) dX0_forget_1 rfl ?_
  refine pf_X0_25 hC dX0_forget_2 (fun σ1 e1 => ?_)
  replace h := h σ1 e1
  exact v_vret hC hR h dX0_forget_5
theorem cmA_forget : CM yX0_forget cX0_forget 1 none rmA_forget 0 := ⟨kw78, kw580, rfl, rfl, by decide, by decide, by decide +kernel⟩
def rmH_market : Room := { frames := 9, cells := 0, slots := 0, locals := 209 }
def wH_market  (σ : gM) (Q : Int32 → gM → Prop) : Prop :=
    wT_readInto_52  σ (fun (r2 : Int32) (σ2 : gM) => (r2 = nI 0 → (∀ σ4 : gM, σ4 = gU σ2 0 10 (σ2 18 1) → (Q ((-1000100 : Int32) - (σ4 18 2)) σ4))) ∧ (¬ (r2 = nI 0) → (wK42_become_52  σ2 (fun (σ6 : gM) => wA_forget  σ6 (fun (σ8 : gM) => Q (σ8 42 4) σ8)))))
set_option maxHeartbeats 4000000 in
set_option maxRecDepth 100000 in
theorem kH_market  (σ : gM) (Q : Int32 → gM → Prop) (h : wH_market  σ Q) : CT yX6_market cX6_market 1 (some .int) rmH_market (fun G => [.ref (gad G 0)]) σ (gPi Q) := by
  refine c_enter (by decide) (fun _ => Nat.le_of_ble_eq_true rfl) (fun X hC hR => ?_)
  show V X 1 0 [(0, .ref (xad X 0))] [] σ
  replace h : wT_readInto_52  σ (fun (r2 : Int32) (σ2 : gM) => (r2 = nI 0 → (∀ σ4 : gM, σ4 = gU σ2 0 10 (σ2 18 1) → (Q ((-1000100 : Int32) - (σ4 18 2)) σ4))) ∧ (¬ (r2 = nI 0) → (wK42_become_52  σ2 (fun (σ6 : gM) => wA_forget  σ6 (fun (σ8 : gM) => Q (σ8 42 4) σ8))))) := h
  refine v_aload_n hC 0 dX6_market_0 rfl ?_
  refine gf_X6_18 hC dX6_market_1 ?_
  refine v_aload_n hC 0 dX6_market_4 rfl ?_
  refine gf_X6_29 hC dX6_market_5 ?_
  refine v_callV hC (kT_readInto_52  _ _ h) cmT_readInto ⟨kw439, kw440⟩ kw438 ⟨Nat.le_of_ble_eq_true rfl, Nat.le_of_ble_eq_true rfl⟩ (Nat.le_of_ble_eq_true rfl) rfl (ci := 5) (T := TX5) (N := 8) rfl (As := fun G => [.ref (gad G 52)]) (fun _ => rfl) (fun _ => rfl) (st := []) (Nat.le_of_ble_eq_true rfl) rfl dX6_market_8 (kk_i (fun r2 σ2 h => ?_))
  refine v_if_ne hC 36 dX6_market_11 (by decide) (fun c3 => ?_) (fun c3 => ?_)
  · replace h := h.2 c3
    refine v_aload_n hC 0 dX6_market_36 rfl ?_
    refine gf_X6_25 hC dX6_market_37 ?_
    refine v_aload_n hC 0 dX6_market_40 rfl ?_
    refine gf_X6_29 hC dX6_market_41 ?_
    refine v_callV hC (kK42_become_52  _ _ h) cmK_become ⟨kw574, kw575⟩ kw573 ⟨Nat.le_of_ble_eq_true rfl, Nat.le_of_ble_eq_true rfl⟩ (Nat.le_of_ble_eq_true rfl) rfl (ci := 2) (T := TX2) (N := 15) rfl (As := fun G => [.ref (gad G 52)]) (fun _ => rfl) (fun _ => rfl) (st := []) (Nat.le_of_ble_eq_true rfl) rfl dX6_market_44 (kk_v (fun σ6 h => ?_))
    refine v_aload_n hC 0 dX6_market_47 rfl ?_
    refine gf_X6_39 hC dX6_market_48 ?_
    refine v_callV hC (kA_forget  _ _ h) cmA_forget ⟨kw578, kw579⟩ kw577 ⟨Nat.le_of_ble_eq_true rfl, Nat.le_of_ble_eq_true rfl⟩ (Nat.le_of_ble_eq_true rfl) rfl (ci := 0) (T := TX0) (N := 5) rfl (As := fun G => []) (fun _ => rfl) (fun _ => rfl) (st := []) (Nat.le_of_ble_eq_true rfl) rfl dX6_market_51 (kk_v (fun σ8 h => ?_))
    refine v_aload_n hC 0 dX6_market_54 rfl ?_
    refine gf_X6_25 hC dX6_market_55 ?_
    refine gf_X6_139_42 hC dX6_market_58 ?_
    exact v_iret hC hR h dX6_market_61
  · replace h := h.1 c3
    refine v_aload_n hC 0 dX6_market_14 rfl ?_
    refine v_aload_n hC 0 dX6_market_15 rfl ?_
    refine gf_X6_18 hC dX6_market_16 ?_
    refine gf_X6_122 hC dX6_market_19 ?_
    refine pf_X6_125 hC dX6_market_22 (fun σ4 e4 => ?_)
    replace h := h σ4 e4
    refine v_ldc hC kw572 dX6_market_25 ?_
    refine v_aload_n hC 0 dX6_market_27 rfl ?_
    refine gf_X6_18 hC dX6_market_28 ?_
    refine gf_X6_129 hC dX6_market_31 ?_
    refine v_isub hC dX6_market_34 ?_
    exact v_iret hC hR h dX6_market_35
theorem cmH_market : CM yX6_market cX6_market 1 (some .int) rmH_market 0 := ⟨kw75, kw437, rfl, rfl, by decide, by decide, by decide +kernel⟩
def rmH_fault : Room := { frames := 0, cells := 0, slots := 0, locals := 0 }
def wH_fault  (σ : gM) (Q : Int32 → gM → Prop) : Prop :=
    Q (σ 0 10) σ
set_option maxHeartbeats 4000000 in
set_option maxRecDepth 100000 in
theorem kH_fault  (σ : gM) (Q : Int32 → gM → Prop) (h : wH_fault  σ Q) : CT yX6_fault cX6_fault 1 (some .int) rmH_fault (fun G => [.ref (gad G 0)]) σ (gPi Q) := by
  refine c_enter (by decide) (fun _ => Nat.le_of_ble_eq_true rfl) (fun X hC hR => ?_)
  show V X 1 0 [(0, .ref (xad X 0))] [] σ
  replace h : Q (σ 0 10) σ := h
  refine v_aload_n hC 0 dX6_fault_0 rfl ?_
  refine gf_X6_125 hC dX6_fault_1 ?_
  exact v_iret hC hR h dX6_fault_4
theorem cmH_fault : CM yX6_fault cX6_fault 1 (some .int) rmH_fault 0 := ⟨kw75, kw585, rfl, rfl, by decide, by decide, by decide +kernel⟩
def rmH_isNoBuyer : Room := { frames := 0, cells := 0, slots := 0, locals := 0 }
def wH_isNoBuyer (x1 : Int32) (σ : gM) (Q : Int32 → gM → Prop) : Prop :=
    ∀ v2 : Int32, v2 = (if x1 < nI 0 then (nI 1) else (if x1 < (σ 42 3) then (nI 0) else (nI 1))) → ((v2 = nI 0 ∨ v2 = nI 1) ∧ Q v2 σ)
set_option maxHeartbeats 4000000 in
set_option maxRecDepth 100000 in
theorem kH_isNoBuyer (x1 : Int32) (σ : gM) (Q : Int32 → gM → Prop) (h : wH_isNoBuyer x1 σ Q) : CT yX6_isNoBuyer cX6_isNoBuyer 2 (some .boolean) rmH_isNoBuyer (fun G => [.ref (gad G 0), .int x1]) σ (gPi Q) := by
  refine c_enter (by decide) (fun _ => Nat.le_of_ble_eq_true rfl) (fun X hC hR => ?_)
  show V X 2 0 [(0, .ref (xad X 0)), (1, .int x1)] [] σ
  replace h : ∀ v2 : Int32, v2 = (if x1 < nI 0 then (nI 1) else (if x1 < (σ 42 3) then (nI 0) else (nI 1))) → ((v2 = nI 0 ∨ v2 = nI 1) ∧ Q v2 σ) := h
  refine v_iload_n hC 1 dX6_isNoBuyer_0 rfl ?_
  have J1 : ∀ (v2 : Int32) (ev2 : v2 = (if x1 < nI 0 then (nI 1) else (if x1 < (σ 42 3) then (nI 0) else (nI 1)))), V X 2 20 [] [.int v2] σ := by
    intro v2 ev2
    replace h := h v2 ev2
    obtain ⟨hb, h⟩ := h
    exact v_zret hC hR (nar_bool hb) h dX6_isNoBuyer_20
  refine v_if_lt hC 15 dX6_isNoBuyer_1 (by decide) (fun c1 => ?_) (fun c1 => ?_)
  · refine v_iconst hC (nI 1) dX6_isNoBuyer_15 rfl ?_
    refine v_goto hC 20 dX6_isNoBuyer_16 (by decide) ?_
    exact V.sub [] rfl (J1 _ (by rw [if_pos c1]))
  · refine v_iload_n hC 1 dX6_isNoBuyer_4 rfl ?_
    refine v_aload_n hC 0 dX6_isNoBuyer_5 rfl ?_
    refine gf_X6_25 hC dX6_isNoBuyer_6 ?_
    refine gf_X6_275_42 hC dX6_isNoBuyer_9 ?_
    have J3 : V X 2 20 [] [.int (if x1 < (σ 42 3) then (nI 0) else (nI 1))] σ := by
      exact V.sub [] rfl (J1 _ (by rw [if_neg c1]))
    refine v_icmp_lt hC 19 dX6_isNoBuyer_12 (by decide) (fun c3 => ?_) (fun c3 => ?_)
    · refine v_iconst hC (nI 0) dX6_isNoBuyer_19 rfl ?_
      rw [if_pos c3] at J3
      exact V.sub [] rfl J3
    · refine v_iconst hC (nI 1) dX6_isNoBuyer_15 rfl ?_
      refine v_goto hC 20 dX6_isNoBuyer_16 (by decide) ?_
      rw [if_neg c3] at J3
      exact V.sub [] rfl J3
theorem cmH_isNoBuyer : CM yX6_isNoBuyer cX6_isNoBuyer 2 (some .boolean) rmH_isNoBuyer 1 := ⟨kw75, kw593, rfl, rfl, by decide, by decide, by decide +kernel⟩
