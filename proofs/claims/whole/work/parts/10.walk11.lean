def rmH_status : Room := { frames := 0, cells := 0, slots := 0, locals := 0 }
def wH_status  (σ : gM) (Q : Int32 → gM → Prop) : Prop :=
    Q (σ 0 11) σ
set_option maxHeartbeats 4000000 in
set_option maxRecDepth 100000 in
theorem kH_status  (σ : gM) (Q : Int32 → gM → Prop) (h : wH_status  σ Q) : CT yX6_status cX6_status 1 (some .int) rmH_status (fun G => [.ref (gad G 0)]) σ (gPi Q) := by
  refine c_enter (by decide) (fun _ => Nat.le_of_ble_eq_true rfl) (fun X hC hR => ?_)
  show V X 1 0 [(0, .ref (xad X 0))] [] σ
  replace h : Q (σ 0 11) σ := h
  refine v_aload_n hC 0 dX6_status_0 rfl ?_
  refine gf_X6_351 hC dX6_status_1 ?_
  exact v_iret hC hR h dX6_status_4
theorem cmH_status : CM yX6_status cX6_status 1 (some .int) rmH_status 0 := ⟨kw75, kw944, rfl, rfl, by decide, by decide, by decide +kernel⟩
def rmM_in : Room := { frames := 0, cells := 0, slots := 0, locals := 0 }
def wM_in (x0 : Int32) (x1 : Int32) (x2 : Int32) (σ : gM) (Q : Int32 → gM → Prop) : Prop :=
    ∀ v2 : Int32, v2 = (if x0 < x1 then (nI 0) else (if x2 < x0 then (nI 0) else (nI 1))) → ((v2 = nI 0 ∨ v2 = nI 1) ∧ Q v2 σ)
set_option maxHeartbeats 4000000 in
set_option maxRecDepth 100000 in
theorem kM_in (x0 : Int32) (x1 : Int32) (x2 : Int32) (σ : gM) (Q : Int32 → gM → Prop) (h : wM_in x0 x1 x2 σ Q) : CT yX7_in cX7_in 3 (some .boolean) rmM_in (fun G => [.int x0, .int x1, .int x2]) σ (gPi Q) := by
  refine c_enter (by decide) (fun _ => Nat.le_of_ble_eq_true rfl) (fun X hC hR => ?_)
  show V X 3 0 [(0, .int x0), (1, .int x1), (2, .int x2)] [] σ
  replace h : ∀ v2 : Int32, v2 = (if x0 < x1 then (nI 0) else (if x2 < x0 then (nI 0) else (nI 1))) → ((v2 = nI 0 ∨ v2 = nI 1) ∧ Q v2 σ) := h
  refine v_iload_n hC 0 dX7_in_0 rfl ?_
  refine v_iload_n hC 1 dX7_in_1 rfl ?_
  have J1 : ∀ (v2 : Int32) (ev2 : v2 = (if x0 < x1 then (nI 0) else (if x2 < x0 then (nI 0) else (nI 1)))), V X 3 15 [] [.int v2] σ := by
    intro v2 ev2
    replace h := h v2 ev2
    obtain ⟨hb, h⟩ := h
    exact v_zret hC hR (nar_bool hb) h dX7_in_15
  refine v_icmp_lt hC 14 dX7_in_2 (by decide) (fun c1 => ?_) (fun c1 => ?_)
  · refine v_iconst hC (nI 0) dX7_in_14 rfl ?_
    exact V.sub [] rfl (J1 _ (by rw [if_pos c1]))
  · refine v_iload_n hC 0 dX7_in_5 rfl ?_
    refine v_iload_n hC 2 dX7_in_6 rfl ?_
    have J3 : V X 3 15 [] [.int (if x2 < x0 then (nI 0) else (nI 1))] σ := by
      exact V.sub [] rfl (J1 _ (by rw [if_neg c1]))
    refine v_icmp_gt hC 14 dX7_in_7 (by decide) (fun c3 => ?_) (fun c3 => ?_)
    · refine v_iconst hC (nI 0) dX7_in_14 rfl ?_
      rw [if_pos c3] at J3
      exact V.sub [] rfl J3
    · refine v_iconst hC (nI 1) dX7_in_10 rfl ?_
      refine v_goto hC 15 dX7_in_11 (by decide) ?_
      rw [if_neg c3] at J3
      exact V.sub [] rfl J3
theorem cmM_in : CM yX7_in cX7_in 3 (some .boolean) rmM_in 3 := ⟨kw82, kw1052, rfl, rfl, by decide, by decide, by decide +kernel⟩
def rmM_isRow : Room := { frames := 1, cells := 0, slots := 0, locals := 22 }
def wM_isRow (x0 : Int32) (σ : gM) (Q : Int32 → gM → Prop) : Prop :=
    wM_in x0 (nI 0) (nI 7) σ (fun (r2 : Int32) (σ2 : gM) => (r2 = nI 0 ∨ r2 = nI 1) ∧ Q r2 σ2)
set_option maxHeartbeats 4000000 in
set_option maxRecDepth 100000 in
theorem kM_isRow (x0 : Int32) (σ : gM) (Q : Int32 → gM → Prop) (h : wM_isRow x0 σ Q) : CT yX7_isRow cX7_isRow 1 (some .boolean) rmM_isRow (fun G => [.int x0]) σ (gPi Q) := by
  refine c_enter (by decide) (fun _ => Nat.le_of_ble_eq_true rfl) (fun X hC hR => ?_)
  show V X 1 0 [(0, .int x0)] [] σ
  replace h : wM_in x0 (nI 0) (nI 7) σ (fun (r2 : Int32) (σ2 : gM) => (r2 = nI 0 ∨ r2 = nI 1) ∧ Q r2 σ2) := h
  refine v_iload_n hC 0 dX7_isRow_0 rfl ?_
  refine v_iconst hC (nI 0) dX7_isRow_1 rfl ?_
  refine v_bipush hC (nI 7) dX7_isRow_2 rfl ?_
  refine v_callS hC (kM_in _ _ _ _ _ h) cmM_in kw1051 kw1050 ⟨Nat.le_of_ble_eq_true rfl, Nat.le_of_ble_eq_true rfl⟩ (fun _ => rfl) (st := []) (Nat.le_of_ble_eq_true rfl) rfl dX7_isRow_4 (kk_i (fun r2 σ2 h => ?_))
  obtain ⟨hb, h⟩ := h
  exact v_zret hC hR (nar_bool hb) h dX7_isRow_7
theorem cmM_isRow : CM yX7_isRow cX7_isRow 1 (some .boolean) rmM_isRow 1 := ⟨kw82, kw1049, rfl, rfl, by decide, by decide, by decide +kernel⟩
def rmM_did : Room := { frames := 0, cells := 0, slots := 0, locals := 0 }
def wM_did (x1 : Int32) (σ : gM) (Q : Int32 → gM → Prop) : Prop :=
    ∀ σ1 : gM, σ1 = gU σ 82 3 (nI 0) → (Q x1 σ1)
set_option maxHeartbeats 4000000 in
set_option maxRecDepth 100000 in
theorem kM_did (x1 : Int32) (σ : gM) (Q : Int32 → gM → Prop) (h : wM_did x1 σ Q) : CT yX7_did cX7_did 2 (some .int) rmM_did (fun G => [.ref (gad G 82), .int x1]) σ (gPi Q) := by
  refine c_enter (by decide) (fun _ => Nat.le_of_ble_eq_true rfl) (fun X hC hR => ?_)
  show V X 2 0 [(0, .ref (xad X 82)), (1, .int x1)] [] σ
  replace h : ∀ σ1 : gM, σ1 = gU σ 82 3 (nI 0) → (Q x1 σ1) := h
  refine v_aload_n hC 0 dX7_did_0 rfl ?_
  refine v_iconst hC (nI 0) dX7_did_1 rfl ?_
  refine pf_X7_62 hC dX7_did_2 (fun σ1 e1 => ?_)
  replace h := h σ1 e1
  refine v_iload_n hC 1 dX7_did_5 rfl ?_
  exact v_iret hC hR h dX7_did_6
theorem cmM_did : CM yX7_did cX7_did 2 (some .int) rmM_did 1 := ⟨kw82, kw1062, rfl, rfl, by decide, by decide, by decide +kernel⟩
def rmM_finds : Room := { frames := 0, cells := 0, slots := 0, locals := 0 }
def wM_finds (x1 : Int32) (σ : gM) (Q : Int32 → gM → Prop) : Prop :=
    ∀ σ1 : gM, σ1 = gU σ 82 3 x1 → (Q ((-1000010 : Int32) - x1) σ1)
set_option maxHeartbeats 4000000 in
set_option maxRecDepth 100000 in
theorem kM_finds (x1 : Int32) (σ : gM) (Q : Int32 → gM → Prop) (h : wM_finds x1 σ Q) : CT yX7_finds cX7_finds 2 (some .int) rmM_finds (fun G => [.ref (gad G 82), .int x1]) σ (gPi Q) := by
  refine c_enter (by decide) (fun _ => Nat.le_of_ble_eq_true rfl) (fun X hC hR => ?_)
  show V X 2 0 [(0, .ref (xad X 82)), (1, .int x1)] [] σ
  replace h : ∀ σ1 : gM, σ1 = gU σ 82 3 x1 → (Q ((-1000010 : Int32) - x1) σ1) := h
  refine v_aload_n hC 0 dX7_finds_0 rfl ?_
  refine v_iload_n hC 1 dX7_finds_1 rfl ?_
  refine pf_X7_62 hC dX7_finds_2 (fun σ1 e1 => ?_)
  replace h := h σ1 e1
  refine v_ldc hC kw1058 dX7_finds_5 ?_
  refine v_iload_n hC 1 dX7_finds_7 rfl ?_
  refine v_isub hC dX7_finds_8 ?_
  exact v_iret hC hR h dX7_finds_9
theorem cmM_finds : CM yX7_finds cX7_finds 2 (some .int) rmM_finds 1 := ⟨kw82, kw1057, rfl, rfl, by decide, by decide, by decide +kernel⟩
def rmM_row : Room := { frames := 2, cells := 0, slots := 0, locals := 42 }
def wM_row_l52 (Q : Int32 → gM → Prop)  : Nat → Int32 → Int32 → Int32 → gM → Prop
  | 0, _, _, _, _ => False
  | n + 1, x1, x3, x4, σ =>
    (x3 ≤ x4 → (wM_did x3 σ (fun (r13 : Int32) (σ13 : gM) => Q r13 σ13))) ∧ (¬ (x3 ≤ x4) → (vp_in (((nI 40) * x1) + x4) 320 ∧ (∀ σ14 : gM, σ14 = gU σ 85 (((nI 40) * x1) + x4).toNatClampNeg (nI 0) → (∀ x4_15 : Int32, x4_15 = x4 + (nI 1) → (wM_row_l52 Q n x1 x3 x4_15 σ14)))))
def wM_row (x1 : Int32) (x2 : Int32) (x3 : Int32) (σ : gM) (Q : Int32 → gM → Prop) : Prop :=
    wM_isRow x1 σ (fun (r2 : Int32) (σ2 : gM) => (r2 = nI 0 → (Q (-1000001 : Int32) σ2)) ∧ (¬ (r2 = nI 0) → (wM_in x2 (nI 0) (nI 2) σ2 (fun (r5 : Int32) (σ5 : gM) => (r5 = nI 0 → (Q (-1000001 : Int32) σ5)) ∧ (¬ (r5 = nI 0) → ((x3 ≤ (nI 40) → ((nI 0 ≤ x3 → (vp_in x1 8 ∧ (∀ σ9 : gM, σ9 = gU σ5 83 x1.toNatClampNeg x2 → (vp_in x1 8 ∧ (∀ σ10 : gM, σ10 = gU σ9 84 x1.toNatClampNeg x3 → (∃ n16 : Nat, wM_row_l52 Q n16 x1 x3 (nI 0) σ10)))))) ∧ (¬ (nI 0 ≤ x3) → (wM_finds (nI 4) σ5 (fun (r18 : Int32) (σ18 : gM) => Q r18 σ18))))) ∧ (¬ (x3 ≤ (nI 40)) → (Q (-1000001 : Int32) σ5))))))))
set_option maxHeartbeats 4000000 in
set_option maxRecDepth 100000 in
theorem tM_row_l52 {X : gX} {Q : Int32 → gM → Prop} (hC : VC X cX7_row RX7 5 rmM_row) (hR : VR X (some .int) (gPi Q))  : ∀ (n : Nat) (x1 : Int32) (x3 : Int32) (x4 : Int32) (σ : gM), wM_row_l52 Q  n x1 x3 x4 σ → V X 5 52 [(0, .ref (xad X 82)), (1, .int x1), (3, .int x3), (4, .int x4)] [] σ := by
  intro n
  induction n with
  | zero => intro x1 x3 x4 σ h; exact h.elim
  | succ n ih =>
    intro x1 x3 x4 σ h
    replace h : (x3 ≤ x4 → (wM_did x3 σ (fun (r13 : Int32) (σ13 : gM) => Q r13 σ13))) ∧ (¬ (x3 ≤ x4) → (vp_in (((nI 40) * x1) + x4) 320 ∧ (∀ σ14 : gM, σ14 = gU σ 85 (((nI 40) * x1) + x4).toNatClampNeg (nI 0) → (∀ x4_15 : Int32, x4_15 = x4 + (nI 1) → (wM_row_l52 Q n x1 x3 x4_15 σ14))))) := h
    refine v_iload hC 3 dX7_row_52 rfl ?_
    refine v_iload_n hC 2 dX7_row_54 rfl ?_
    refine v_icmp_ge hC 77 dX7_row_55 (by decide) (fun c11 => ?_) (fun c11 => ?_)
    · replace h := h.1 c11
      refine v_aload_n hC 0 dX7_row_77 rfl ?_
      refine v_iload_n hC 2 dX7_row_78 rfl ?_
      refine v_callV hC (kM_did _ _ _ h) cmM_did ⟨kw1061, kw42⟩ kw1059 ⟨Nat.le_of_ble_eq_true rfl, Nat.le_of_ble_eq_true rfl⟩ (Nat.le_of_ble_eq_true rfl) rfl (ci := 7) (T := TX7) (N := 30) rfl (As := fun G => [.int x3]) (fun _ => rfl) (fun _ => rfl) (st := []) (Nat.le_of_ble_eq_true rfl) rfl dX7_row_79 (kk_i (fun r13 σ13 h => ?_))
      exact v_iret hC hR h dX7_row_82
    · replace h := h.2 c11
      refine v_aload_n hC 0 dX7_row_58 rfl ?_
      refine gf_X7_16 hC dX7_row_59 ?_
      refine v_bipush hC (nI 40) dX7_row_62 rfl ?_
      refine v_iload_n hC 1 dX7_row_64 rfl ?_
      refine v_imul hC dX7_row_65 ?_
      refine v_iload hC 3 dX7_row_66 rfl ?_
      refine v_iadd hC dX7_row_68 ?_
      refine v_iconst hC (nI 0) dX7_row_69 rfl ?_
      obtain ⟨hi14, h⟩ := h
      refine v_iast hC (Nat.le_of_ble_eq_true rfl) rfl rfl hi14 dX7_row_70 (fun σ14 e14 => ?_)
      replace h := h σ14 e14
      refine v_iincN hC (nI 1) 3 dX7_row_71 rfl rfl (by decide) (lo2 := fun x4_15 => [(4, .int x4_15), (0, .ref (xad X 82)), (1, .int x1), (3, .int x3)]) (fun _ => rfl) (fun x4_15 e15 => ?_)
      replace h := h x4_15 e15
      refine v_goto hC 52 dX7_row_74 (by decide) ?_
      exact V.sub [1, 2, 3, 0] rfl (ih _ _ _ _ h)
set_option maxHeartbeats 4000000 in
set_option maxRecDepth 100000 in
theorem kM_row (x1 : Int32) (x2 : Int32) (x3 : Int32) (σ : gM) (Q : Int32 → gM → Prop) (h : wM_row x1 x2 x3 σ Q) : CT yX7_row cX7_row 5 (some .int) rmM_row (fun G => [.ref (gad G 82), .int x1, .int x2, .int x3]) σ (gPi Q) := by
  refine c_enter (by decide) (fun _ => Nat.le_of_ble_eq_true rfl) (fun X hC hR => ?_)
  show V X 5 0 [(0, .ref (xad X 82)), (1, .int x1), (2, .int x2), (3, .int x3)] [] σ
  replace h : wM_isRow x1 σ (fun (r2 : Int32) (σ2 : gM) => (r2 = nI 0 → (Q (-1000001 : Int32) σ2)) ∧ (¬ (r2 = nI 0) → (wM_in x2 (nI 0) (nI 2) σ2 (fun (r5 : Int32) (σ5 : gM) => (r5 = nI 0 → (Q (-1000001 : Int32) σ5)) ∧ (¬ (r5 = nI 0) → ((x3 ≤ (nI 40) → ((nI 0 ≤ x3 → (vp_in x1 8 ∧ (∀ σ9 : gM, σ9 = gU σ5 83 x1.toNatClampNeg x2 → (vp_in x1 8 ∧ (∀ σ10 : gM, σ10 = gU σ9 84 x1.toNatClampNeg x3 → (∃ n16 : Nat, wM_row_l52 Q n16 x1 x3 (nI 0) σ10)))))) ∧ (¬ (nI 0 ≤ x3) → (wM_finds (nI 4) σ5 (fun (r18 : Int32) (σ18 : gM) => Q r18 σ18))))) ∧ (¬ (x3 ≤ (nI 40)) → (Q (-1000001 : Int32) σ5)))))))) := h
  refine v_iload_n hC 1 dX7_row_0 rfl ?_
  refine v_callS hC (kM_isRow _ _ _ h) cmM_isRow kw1048 kw1047 ⟨Nat.le_of_ble_eq_true rfl, Nat.le_of_ble_eq_true rfl⟩ (fun _ => rfl) (st := []) (Nat.le_of_ble_eq_true rfl) rfl dX7_row_1 (kk_i (fun r2 σ2 h => ?_))
  refine v_if_eq hC 22 dX7_row_4 (by decide) (fun c3 => ?_) (fun c3 => ?_)
  · replace h := h.1 c3
    refine v_ldc hC kw1053 dX7_row_22 ?_
    exact v_iret hC hR h dX7_row_24
  · replace h := h.2 c3
    refine v_iload_n hC 2 dX7_row_7 rfl ?_
    refine v_iconst hC (nI 0) dX7_row_8 rfl ?_
    refine v_iconst hC (nI 2) dX7_row_9 rfl ?_
    refine v_callS hC (kM_in _ _ _ _ _ h) cmM_in kw1051 kw1050 ⟨Nat.le_of_ble_eq_true rfl, Nat.le_of_ble_eq_true rfl⟩ (fun _ => rfl) (st := []) (Nat.le_of_ble_eq_true rfl) rfl dX7_row_10 (kk_i (fun r5 σ5 h => ?_))
    refine v_if_eq hC 22 dX7_row_13 (by decide) (fun c6 => ?_) (fun c6 => ?_)
    · replace h := h.1 c6
      refine v_ldc hC kw1053 dX7_row_22 ?_
      exact v_iret hC hR h dX7_row_24
    · replace h := h.2 c6
      refine v_iload_n hC 3 dX7_row_16 rfl ?_
      refine v_bipush hC (nI 40) dX7_row_17 rfl ?_
      refine v_icmp_le hC 25 dX7_row_19 (by decide) (fun c7 => ?_) (fun c7 => ?_)
      · replace h := h.1 c7
        refine v_iload_n hC 3 dX7_row_25 rfl ?_
        refine v_if_ge hC 35 dX7_row_26 (by decide) (fun c8 => ?_) (fun c8 => ?_)
        · replace h := h.1 c8
          refine v_aload_n hC 0 dX7_row_35 rfl ?_
          refine gf_X7_7 hC dX7_row_36 ?_
          refine v_iload_n hC 1 dX7_row_39 rfl ?_
          refine v_iload_n hC 2 dX7_row_40 rfl ?_
          obtain ⟨hi9, h⟩ := h
          refine v_iast hC (Nat.le_of_ble_eq_true rfl) rfl rfl hi9 dX7_row_41 (fun σ9 e9 => ?_)
          replace h := h σ9 e9
          refine v_aload_n hC 0 dX7_row_42 rfl ?_
          refine gf_X7_13 hC dX7_row_43 ?_
          refine v_iload_n hC 1 dX7_row_46 rfl ?_
          refine v_iload_n hC 3 dX7_row_47 rfl ?_
          obtain ⟨hi10, h⟩ := h
          refine v_iast hC (Nat.le_of_ble_eq_true rfl) rfl rfl hi10 dX7_row_48 (fun σ10 e10 => ?_)
          replace h := h σ10 e10
          refine v_iconst hC (nI 0) dX7_row_49 rfl ?_
          refine v_istore hC dX7_row_50 (by decide) rfl ?_
          obtain ⟨n16, h⟩ := h
          exact V.sub [1, 2, 4, 0] rfl (tM_row_l52 hC hR  n16 _ _ _ _ h)
        · replace h := h.2 c8
          refine v_aload_n hC 0 dX7_row_29 rfl ?_
          refine v_iconst hC (nI 4) dX7_row_30 rfl ?_
          refine v_callV hC (kM_finds _ _ _ h) cmM_finds ⟨kw1056, kw41⟩ kw1054 ⟨Nat.le_of_ble_eq_true rfl, Nat.le_of_ble_eq_true rfl⟩ (Nat.le_of_ble_eq_true rfl) rfl (ci := 7) (T := TX7) (N := 30) rfl (As := fun G => [.int (nI 4)]) (fun _ => rfl) (fun _ => rfl) (st := []) (Nat.le_of_ble_eq_true rfl) rfl dX7_row_31 (kk_i (fun r18 σ18 h => ?_))
          exact v_iret hC hR h dX7_row_34
      · replace h := h.2 c7
        refine v_ldc hC kw1053 dX7_row_22 ?_
        exact v_iret hC hR h dX7_row_24
theorem cmM_row : CM yX7_row cX7_row 5 (some .int) rmM_row 3 := ⟨kw82, kw1046, rfl, rfl, by decide, by decide, by decide +kernel⟩
def rmM_isNull : Room := { frames := 0, cells := 0, slots := 0, locals := 0 }
def wM_isNull (x1 : Int32) (σ : gM) (Q : Int32 → gM → Prop) : Prop :=
    vp_in x1 8 ∧ (∀ v3 : Int32, v3 = (if nI 0 ≤ (σ 83 x1.toNatClampNeg) then (nI 0) else (nI 1)) → ((v3 = nI 0 ∨ v3 = nI 1) ∧ Q v3 σ))
set_option maxHeartbeats 4000000 in
set_option maxRecDepth 100000 in
theorem kM_isNull (x1 : Int32) (σ : gM) (Q : Int32 → gM → Prop) (h : wM_isNull x1 σ Q) : CT yX7_isNull cX7_isNull 2 (some .boolean) rmM_isNull (fun G => [.ref (gad G 82), .int x1]) σ (gPi Q) := by
  refine c_enter (by decide) (fun _ => Nat.le_of_ble_eq_true rfl) (fun X hC hR => ?_)
  show V X 2 0 [(0, .ref (xad X 82)), (1, .int x1)] [] σ
  replace h : vp_in x1 8 ∧ (∀ v3 : Int32, v3 = (if nI 0 ≤ (σ 83 x1.toNatClampNeg) then (nI 0) else (nI 1)) → ((v3 = nI 0 ∨ v3 = nI 1) ∧ Q v3 σ)) := h
  refine v_aload_n hC 0 dX7_isNull_0 rfl ?_
  refine gf_X7_7 hC dX7_isNull_1 ?_
  refine v_iload_n hC 1 dX7_isNull_4 rfl ?_
  obtain ⟨hi1, h⟩ := h
  refine v_iald hC (Nat.le_of_ble_eq_true rfl) rfl rfl hi1 dX7_isNull_5 ?_
  have J2 : ∀ (v3 : Int32) (ev3 : v3 = (if nI 0 ≤ (σ 83 x1.toNatClampNeg) then (nI 0) else (nI 1))), V X 2 14 [] [.int v3] σ := by
    intro v3 ev3
    replace h := h v3 ev3
    obtain ⟨hb, h⟩ := h
    exact v_zret hC hR (nar_bool hb) h dX7_isNull_14
  refine v_if_ge hC 13 dX7_isNull_6 (by decide) (fun c2 => ?_) (fun c2 => ?_)
  · refine v_iconst hC (nI 0) dX7_isNull_13 rfl ?_
    exact V.sub [] rfl (J2 _ (by rw [if_pos c2]))
  · refine v_iconst hC (nI 1) dX7_isNull_9 rfl ?_
    refine v_goto hC 14 dX7_isNull_10 (by decide) ?_
    exact V.sub [] rfl (J2 _ (by rw [if_neg c2]))
theorem cmM_isNull : CM yX7_isNull cX7_isNull 2 (some .boolean) rmM_isNull 1 := ⟨kw82, kw1070, rfl, rfl, by decide, by decide, by decide +kernel⟩
def rmM_set : Room := { frames := 2, cells := 0, slots := 0, locals := 42 }
def wM_set (x1 : Int32) (x2 : Int32) (x3 : Int32) (σ : gM) (Q : Int32 → gM → Prop) : Prop :=
    wM_isRow x1 σ (fun (r2 : Int32) (σ2 : gM) => (r2 = nI 0 → (Q (-1000001 : Int32) σ2)) ∧ (¬ (r2 = nI 0) → (wM_isNull x1 σ2 (fun (r5 : Int32) (σ5 : gM) => (r5 = nI 0 → (vp_in x1 8 ∧ (wM_in x2 (nI 0) ((σ5 84 x1.toNatClampNeg) - (nI 1)) σ5 (fun (r9 : Int32) (σ9 : gM) => (r9 = nI 0 → (wM_finds (nI 2) σ9 (fun (r12 : Int32) (σ12 : gM) => Q r12 σ12))) ∧ (¬ (r9 = nI 0) → (vp_in x1 8 ∧ ((((σ9 83 x1.toNatClampNeg) = nI 0 → (True)) ∧ (¬ ((σ9 83 x1.toNatClampNeg) = nI 0) → (vp_in x1 8 ∧ True))) ∧ (∀ v16 : Int32, v16 = (if (σ9 83 x1.toNatClampNeg) = nI 0 then (x3.toInt8.toInt32) else (if (σ9 83 x1.toNatClampNeg) = (nI 1) then (x3.toInt16.toInt32) else x3)) → (vp_in (((nI 40) * x1) + x2) 320 ∧ (∀ σ17 : gM, σ17 = gU σ9 85 (((nI 40) * x1) + x2).toNatClampNeg v16 → (vp_in (((nI 40) * x1) + x2) 320 ∧ (wM_did (σ17 85 (((nI 40) * x1) + x2).toNatClampNeg) σ17 (fun (r20 : Int32) (σ20 : gM) => Q r20 σ20))))))))))))) ∧ (¬ (r5 = nI 0) → (wM_finds (nI 1) σ5 (fun (r24 : Int32) (σ24 : gM) => Q r24 σ24)))))))
set_option maxHeartbeats 4000000 in
set_option maxRecDepth 100000 in
theorem kM_set (x1 : Int32) (x2 : Int32) (x3 : Int32) (σ : gM) (Q : Int32 → gM → Prop) (h : wM_set x1 x2 x3 σ Q) : CT yX7_set cX7_set 4 (some .int) rmM_set (fun G => [.ref (gad G 82), .int x1, .int x2, .int x3]) σ (gPi Q) := by
  refine c_enter (by decide) (fun _ => Nat.le_of_ble_eq_true rfl) (fun X hC hR => ?_)
  show V X 4 0 [(0, .ref (xad X 82)), (1, .int x1), (2, .int x2), (3, .int x3)] [] σ
  replace h : wM_isRow x1 σ (fun (r2 : Int32) (σ2 : gM) => (r2 = nI 0 → (Q (-1000001 : Int32) σ2)) ∧ (¬ (r2 = nI 0) → (wM_isNull x1 σ2 (fun (r5 : Int32) (σ5 : gM) => (r5 = nI 0 → (vp_in x1 8 ∧ (wM_in x2 (nI 0) ((σ5 84 x1.toNatClampNeg) - (nI 1)) σ5 (fun (r9 : Int32) (σ9 : gM) => (r9 = nI 0 → (wM_finds (nI 2) σ9 (fun (r12 : Int32) (σ12 : gM) => Q r12 σ12))) ∧ (¬ (r9 = nI 0) → (vp_in x1 8 ∧ ((((σ9 83 x1.toNatClampNeg) = nI 0 → (True)) ∧ (¬ ((σ9 83 x1.toNatClampNeg) = nI 0) → (vp_in x1 8 ∧ True))) ∧ (∀ v16 : Int32, v16 = (if (σ9 83 x1.toNatClampNeg) = nI 0 then (x3.toInt8.toInt32) else (if (σ9 83 x1.toNatClampNeg) = (nI 1) then (x3.toInt16.toInt32) else x3)) → (vp_in (((nI 40) * x1) + x2) 320 ∧ (∀ σ17 : gM, σ17 = gU σ9 85 (((nI 40) * x1) + x2).toNatClampNeg v16 → (vp_in (((nI 40) * x1) + x2) 320 ∧ (wM_did (σ17 85 (((nI 40) * x1) + x2).toNatClampNeg) σ17 (fun (r20 : Int32) (σ20 : gM) => Q r20 σ20))))))))))))) ∧ (¬ (r5 = nI 0) → (wM_finds (nI 1) σ5 (fun (r24 : Int32) (σ24 : gM) => Q r24 σ24))))))) := h
  refine v_iload_n hC 1 dX7_set_0 rfl ?_
  refine v_callS hC (kM_isRow _ _ _ h) cmM_isRow kw1048 kw1047 ⟨Nat.le_of_ble_eq_true rfl, Nat.le_of_ble_eq_true rfl⟩ (fun _ => rfl) (st := []) (Nat.le_of_ble_eq_true rfl) rfl dX7_set_1 (kk_i (fun r2 σ2 h => ?_))
  refine v_if_ne hC 10 dX7_set_4 (by decide) (fun c3 => ?_) (fun c3 => ?_)
  · replace h := h.2 c3
    refine v_aload_n hC 0 dX7_set_10 rfl ?_
    refine v_iload_n hC 1 dX7_set_11 rfl ?_
    refine v_callV hC (kM_isNull _ _ _ h) cmM_isNull ⟨kw1069, kw43⟩ kw1067 ⟨Nat.le_of_ble_eq_true rfl, Nat.le_of_ble_eq_true rfl⟩ (Nat.le_of_ble_eq_true rfl) rfl (ci := 7) (T := TX7) (N := 30) rfl (As := fun G => [.int x1]) (fun _ => rfl) (fun _ => rfl) (st := []) (Nat.le_of_ble_eq_true rfl) rfl dX7_set_12 (kk_i (fun r5 σ5 h => ?_))
    refine v_if_eq hC 24 dX7_set_15 (by decide) (fun c6 => ?_) (fun c6 => ?_)
    · replace h := h.1 c6
      refine v_iload_n hC 2 dX7_set_24 rfl ?_
      refine v_iconst hC (nI 0) dX7_set_25 rfl ?_
      refine v_aload_n hC 0 dX7_set_26 rfl ?_
      refine gf_X7_13 hC dX7_set_27 ?_
      refine v_iload_n hC 1 dX7_set_30 rfl ?_
      obtain ⟨hi7, h⟩ := h
      refine v_iald hC (Nat.le_of_ble_eq_true rfl) rfl rfl hi7 dX7_set_31 ?_
      refine v_iconst hC (nI 1) dX7_set_32 rfl ?_
      refine v_isub hC dX7_set_33 ?_
      refine v_callS hC (kM_in _ _ _ _ _ h) cmM_in kw1051 kw1050 ⟨Nat.le_of_ble_eq_true rfl, Nat.le_of_ble_eq_true rfl⟩ (fun _ => rfl) (st := []) (Nat.le_of_ble_eq_true rfl) rfl dX7_set_34 (kk_i (fun r9 σ9 h => ?_))
      refine v_if_ne hC 46 dX7_set_37 (by decide) (fun c10 => ?_) (fun c10 => ?_)
      · replace h := h.2 c10
        refine v_aload_n hC 0 dX7_set_46 rfl ?_
        refine gf_X7_16 hC dX7_set_47 ?_
        refine v_bipush hC (nI 40) dX7_set_50 rfl ?_
        refine v_iload_n hC 1 dX7_set_52 rfl ?_
        refine v_imul hC dX7_set_53 ?_
        refine v_iload_n hC 2 dX7_set_54 rfl ?_
        refine v_iadd hC dX7_set_55 ?_
        refine v_aload_n hC 0 dX7_set_56 rfl ?_
        refine gf_X7_7 hC dX7_set_57 ?_
        refine v_iload_n hC 1 dX7_set_60 rfl ?_
        obtain ⟨hi13, h⟩ := h
        refine v_iald hC (Nat.le_of_ble_eq_true rfl) rfl rfl hi13 dX7_set_61 ?_
        obtain ⟨hO14, h⟩ := h
        have J14 : ∀ (v16 : Int32) (ev16 : v16 = (if (σ9 83 x1.toNatClampNeg) = nI 0 then (x3.toInt8.toInt32) else (if (σ9 83 x1.toNatClampNeg) = (nI 1) then (x3.toInt16.toInt32) else x3))), V X 4 86 [(0, .ref (xad X 82)), (1, .int x1), (2, .int x2)] [.int v16, .int (((nI 40) * x1) + x2), .ref (xad X 85)] σ9 := by
          intro v16 ev16
          replace h := h v16 ev16
          obtain ⟨hi17, h⟩ := h
          refine v_iast hC (Nat.le_of_ble_eq_true rfl) rfl rfl hi17 dX7_set_86 (fun σ17 e17 => ?_)
          replace h := h σ17 e17
          refine v_aload_n hC 0 dX7_set_87 rfl ?_
          refine v_aload_n hC 0 dX7_set_88 rfl ?_
          refine gf_X7_16 hC dX7_set_89 ?_
          refine v_bipush hC (nI 40) dX7_set_92 rfl ?_
          refine v_iload_n hC 1 dX7_set_94 rfl ?_
          refine v_imul hC dX7_set_95 ?_
          refine v_iload_n hC 2 dX7_set_96 rfl ?_
          refine v_iadd hC dX7_set_97 ?_
          obtain ⟨hi18, h⟩ := h
          refine v_iald hC (Nat.le_of_ble_eq_true rfl) rfl rfl hi18 dX7_set_98 ?_
          refine v_callV hC (kM_did _ _ _ h) cmM_did ⟨kw1061, kw42⟩ kw1059 ⟨Nat.le_of_ble_eq_true rfl, Nat.le_of_ble_eq_true rfl⟩ (Nat.le_of_ble_eq_true rfl) rfl (ci := 7) (T := TX7) (N := 30) rfl (As := fun G => [.int (σ17 85 (((nI 40) * x1) + x2).toNatClampNeg)]) (fun _ => rfl) (fun _ => rfl) (st := []) (Nat.le_of_ble_eq_true rfl) rfl dX7_set_99 (kk_i (fun r20 σ20 h => ?_))
          exact v_iret hC hR h dX7_set_102
        refine v_if_ne hC 70 dX7_set_62 (by decide) (fun c14 => ?_) (fun c14 => ?_)
        · replace h := hO14.2 c14
          refine v_aload_n hC 0 dX7_set_70 rfl ?_
          refine gf_X7_7 hC dX7_set_71 ?_
          refine v_iload_n hC 1 dX7_set_74 rfl ?_
          obtain ⟨hi21, h⟩ := h
          refine v_iald hC (Nat.le_of_ble_eq_true rfl) rfl rfl hi21 dX7_set_75 ?_
          refine v_iconst hC (nI 1) dX7_set_76 rfl ?_
          have J22 : V X 4 86 [(0, .ref (xad X 82)), (1, .int x1), (2, .int x2)] [.int (if (σ9 83 x1.toNatClampNeg) = (nI 1) then (x3.toInt16.toInt32) else x3), .int (((nI 40) * x1) + x2), .ref (xad X 85)] σ9 := by
            exact V.sub [0, 1, 2] rfl (J14 _ (by rw [if_neg c14]))
          refine v_icmp_ne hC 85 dX7_set_77 (by decide) (fun c22 => ?_) (fun c22 => ?_)
          · refine v_iload_n hC 3 dX7_set_85 rfl ?_
            rw [if_neg c22] at J22
            exact V.sub [0, 1, 2] rfl J22
          · refine v_iload_n hC 3 dX7_set_80 rfl ?_
            refine v_i2s hC dX7_set_81 ?_
            refine v_goto hC 86 dX7_set_82 (by decide) ?_
            rw [if_pos c22] at J22
            exact V.sub [0, 1, 2] rfl J22
        · replace h := hO14.1 c14
          refine v_iload_n hC 3 dX7_set_65 rfl ?_
          refine v_i2b hC dX7_set_66 ?_
          refine v_goto hC 86 dX7_set_67 (by decide) ?_
          exact V.sub [0, 1, 2] rfl (J14 _ (by rw [if_pos c14]))
      · replace h := h.1 c10
        refine v_aload_n hC 0 dX7_set_40 rfl ?_
        refine v_iconst hC (nI 2) dX7_set_41 rfl ?_
        refine v_callV hC (kM_finds _ _ _ h) cmM_finds ⟨kw1056, kw41⟩ kw1054 ⟨Nat.le_of_ble_eq_true rfl, Nat.le_of_ble_eq_true rfl⟩ (Nat.le_of_ble_eq_true rfl) rfl (ci := 7) (T := TX7) (N := 30) rfl (As := fun G => [.int (nI 2)]) (fun _ => rfl) (fun _ => rfl) (st := []) (Nat.le_of_ble_eq_true rfl) rfl dX7_set_42 (kk_i (fun r12 σ12 h => ?_))
        exact v_iret hC hR h dX7_set_45
    · replace h := h.2 c6
      refine v_aload_n hC 0 dX7_set_18 rfl ?_
      refine v_iconst hC (nI 1) dX7_set_19 rfl ?_
      refine v_callV hC (kM_finds _ _ _ h) cmM_finds ⟨kw1056, kw41⟩ kw1054 ⟨Nat.le_of_ble_eq_true rfl, Nat.le_of_ble_eq_true rfl⟩ (Nat.le_of_ble_eq_true rfl) rfl (ci := 7) (T := TX7) (N := 30) rfl (As := fun G => [.int (nI 1)]) (fun _ => rfl) (fun _ => rfl) (st := []) (Nat.le_of_ble_eq_true rfl) rfl dX7_set_20 (kk_i (fun r24 σ24 h => ?_))
      exact v_iret hC hR h dX7_set_23
  · replace h := h.1 c3
    refine v_ldc hC kw1053 dX7_set_7 ?_
    exact v_iret hC hR h dX7_set_9
theorem cmM_set : CM yX7_set cX7_set 4 (some .int) rmM_set 3 := ⟨kw82, kw1066, rfl, rfl, by decide, by decide, by decide +kernel⟩
def rmM_copy : Room := { frames := 2, cells := 0, slots := 0, locals := 42 }
def wM_copy_l175 (Q : Int32 → gM → Prop)  : Nat → Int32 → Int32 → Int32 → Int32 → Int32 → Int32 → gM → Prop
  | 0, _, _, _, _, _, _, _ => False
  | n + 1, x1, x2, x3, x4, x5, x6, σ =>
    (x5 ≤ x6 → (wM_did x5 σ (fun (r34 : Int32) (σ34 : gM) => Q r34 σ34))) ∧ (¬ (x5 ≤ x6) → (vp_in ((((nI 40) * x1) + x2) + x6) 320 ∧ (vp_in ((((nI 40) * x3) + x4) + x6) 320 ∧ (∀ σ36 : gM, σ36 = gU σ 85 ((((nI 40) * x3) + x4) + x6).toNatClampNeg (σ 85 ((((nI 40) * x1) + x2) + x6).toNatClampNeg) → (∀ x6_37 : Int32, x6_37 = x6 + (nI 1) → (wM_copy_l175 Q n x1 x2 x3 x4 x5 x6_37 σ36))))))
def wM_copy_l129 (Q : Int32 → gM → Prop)  : Nat → Int32 → Int32 → Int32 → Int32 → Int32 → Int32 → gM → Prop
  | 0, _, _, _, _, _, _, _ => False
  | n + 1, x1, x2, x3, x4, x5, x6, σ =>
    (x6 < nI 0 → (wM_did x5 σ (fun (r42 : Int32) (σ42 : gM) => Q r42 σ42))) ∧ (¬ (x6 < nI 0) → (vp_in ((((nI 40) * x1) + x2) + x6) 320 ∧ (vp_in ((((nI 40) * x3) + x4) + x6) 320 ∧ (∀ σ44 : gM, σ44 = gU σ 85 ((((nI 40) * x3) + x4) + x6).toNatClampNeg (σ 85 ((((nI 40) * x1) + x2) + x6).toNatClampNeg) → (∀ x6_45 : Int32, x6_45 = x6 + (-1 : Int32) → (wM_copy_l129 Q n x1 x2 x3 x4 x5 x6_45 σ44))))))
def wM_copy (x1 : Int32) (x2 : Int32) (x3 : Int32) (x4 : Int32) (x5 : Int32) (σ : gM) (Q : Int32 → gM → Prop) : Prop :=
    wM_isRow x1 σ (fun (r2 : Int32) (σ2 : gM) => (r2 = nI 0 → (Q (-1000001 : Int32) σ2)) ∧ (¬ (r2 = nI 0) → (wM_isRow x3 σ2 (fun (r5 : Int32) (σ5 : gM) => (r5 = nI 0 → (Q (-1000001 : Int32) σ5)) ∧ (¬ (r5 = nI 0) → (wM_isNull x1 σ5 (fun (r8 : Int32) (σ8 : gM) => (r8 = nI 0 → (wM_isNull x3 σ8 (fun (r11 : Int32) (σ11 : gM) => (r11 = nI 0 → (vp_in x1 8 ∧ (vp_in x3 8 ∧ (((σ11 83 x1.toNatClampNeg) = (σ11 83 x3.toNatClampNeg) → ((x2 < nI 0 → (wM_finds (nI 2) σ11 (fun (r18 : Int32) (σ18 : gM) => Q r18 σ18))) ∧ (¬ (x2 < nI 0) → ((x4 < nI 0 → (wM_finds (nI 2) σ11 (fun (r21 : Int32) (σ21 : gM) => Q r21 σ21))) ∧ (¬ (x4 < nI 0) → ((x5 < nI 0 → (wM_finds (nI 2) σ11 (fun (r24 : Int32) (σ24 : gM) => Q r24 σ24))) ∧ (¬ (x5 < nI 0) → (vp_in x1 8 ∧ ((((σ11 84 x1.toNatClampNeg) - x2) < x5 → (wM_finds (nI 2) σ11 (fun (r28 : Int32) (σ28 : gM) => Q r28 σ28))) ∧ (¬ (((σ11 84 x1.toNatClampNeg) - x2) < x5) → (vp_in x3 8 ∧ ((x5 ≤ ((σ11 84 x3.toNatClampNeg) - x4) → (((((nI 40) * x3) + x4) ≤ (((nI 40) * x1) + x2) → (∃ n38 : Nat, wM_copy_l175 Q n38 x1 x2 x3 x4 x5 (nI 0) σ11)) ∧ (¬ ((((nI 40) * x3) + x4) ≤ (((nI 40) * x1) + x2)) → (∀ x6_39 : Int32, x6_39 = (x5 - (nI 1)) → (∃ n46 : Nat, wM_copy_l129 Q n46 x1 x2 x3 x4 x5 x6_39 σ11))))) ∧ (¬ (x5 ≤ ((σ11 84 x3.toNatClampNeg) - x4)) → (wM_finds (nI 2) σ11 (fun (r48 : Int32) (σ48 : gM) => Q r48 σ48))))))))))))))) ∧ (¬ ((σ11 83 x1.toNatClampNeg) = (σ11 83 x3.toNatClampNeg)) → (wM_finds (nI 5) σ11 (fun (r50 : Int32) (σ50 : gM) => Q r50 σ50))))))) ∧ (¬ (r11 = nI 0) → (wM_finds (nI 1) σ11 (fun (r52 : Int32) (σ52 : gM) => Q r52 σ52)))))) ∧ (¬ (r8 = nI 0) → (wM_finds (nI 1) σ8 (fun (r54 : Int32) (σ54 : gM) => Q r54 σ54))))))))))
set_option maxHeartbeats 4000000 in
set_option maxRecDepth 100000 in
theorem tM_copy_l175 {X : gX} {Q : Int32 → gM → Prop} (hC : VC X cX7_copy RX7 7 rmM_copy) (hR : VR X (some .int) (gPi Q))  : ∀ (n : Nat) (x1 : Int32) (x2 : Int32) (x3 : Int32) (x4 : Int32) (x5 : Int32) (x6 : Int32) (σ : gM), wM_copy_l175 Q  n x1 x2 x3 x4 x5 x6 σ → V X 7 175 [(0, .ref (xad X 82)), (1, .int x1), (2, .int x2), (3, .int x3), (4, .int x4), (5, .int x5), (6, .int x6)] [] σ := by
  intro n
  induction n with
  | zero => intro x1 x2 x3 x4 x5 x6 σ h; exact h.elim
  | succ n ih =>
    intro x1 x2 x3 x4 x5 x6 σ h
    replace h : (x5 ≤ x6 → (wM_did x5 σ (fun (r34 : Int32) (σ34 : gM) => Q r34 σ34))) ∧ (¬ (x5 ≤ x6) → (vp_in ((((nI 40) * x1) + x2) + x6) 320 ∧ (vp_in ((((nI 40) * x3) + x4) + x6) 320 ∧ (∀ σ36 : gM, σ36 = gU σ 85 ((((nI 40) * x3) + x4) + x6).toNatClampNeg (σ 85 ((((nI 40) * x1) + x2) + x6).toNatClampNeg) → (∀ x6_37 : Int32, x6_37 = x6 + (nI 1) → (wM_copy_l175 Q n x1 x2 x3 x4 x5 x6_37 σ36)))))) := h
    refine v_iload hC 6 dX7_copy_175 rfl ?_
    refine v_iload hC 5 dX7_copy_177 rfl ?_
    refine v_icmp_ge hC 217 dX7_copy_179 (by decide) (fun c32 => ?_) (fun c32 => ?_)
    · replace h := h.1 c32
      refine v_aload_n hC 0 dX7_copy_217 rfl ?_
      refine v_iload hC 5 dX7_copy_218 rfl ?_
      refine v_callV hC (kM_did _ _ _ h) cmM_did ⟨kw1061, kw42⟩ kw1059 ⟨Nat.le_of_ble_eq_true rfl, Nat.le_of_ble_eq_true rfl⟩ (Nat.le_of_ble_eq_true rfl) rfl (ci := 7) (T := TX7) (N := 30) rfl (As := fun G => [.int x5]) (fun _ => rfl) (fun _ => rfl) (st := []) (Nat.le_of_ble_eq_true rfl) rfl dX7_copy_220 (kk_i (fun r34 σ34 h => ?_))
      exact v_iret hC hR h dX7_copy_223
    · replace h := h.2 c32
      refine v_aload_n hC 0 dX7_copy_182 rfl ?_
      refine gf_X7_16 hC dX7_copy_183 ?_
      refine v_bipush hC (nI 40) dX7_copy_186 rfl ?_
      refine v_iload_n hC 3 dX7_copy_188 rfl ?_
      refine v_imul hC dX7_copy_189 ?_
      refine v_iload hC 4 dX7_copy_190 rfl ?_
      refine v_iadd hC dX7_copy_192 ?_
      refine v_iload hC 6 dX7_copy_193 rfl ?_
      refine v_iadd hC dX7_copy_195 ?_
      refine v_aload_n hC 0 dX7_copy_196 rfl ?_
      refine gf_X7_16 hC dX7_copy_197 ?_
      refine v_bipush hC (nI 40) dX7_copy_200 rfl ?_
      refine v_iload_n hC 1 dX7_copy_202 rfl ?_
      refine v_imul hC dX7_copy_203 ?_
      refine v_iload_n hC 2 dX7_copy_204 rfl ?_
      refine v_iadd hC dX7_copy_205 ?_
      refine v_iload hC 6 dX7_copy_206 rfl ?_
      refine v_iadd hC dX7_copy_208 ?_
      obtain ⟨hi35, h⟩ := h
      refine v_iald hC (Nat.le_of_ble_eq_true rfl) rfl rfl hi35 dX7_copy_209 ?_
      obtain ⟨hi36, h⟩ := h
      refine v_iast hC (Nat.le_of_ble_eq_true rfl) rfl rfl hi36 dX7_copy_210 (fun σ36 e36 => ?_)
      replace h := h σ36 e36
      refine v_iincN hC (nI 1) 6 dX7_copy_211 rfl rfl (by decide) (lo2 := fun x6_37 => [(6, .int x6_37), (0, .ref (xad X 82)), (1, .int x1), (2, .int x2), (3, .int x3), (4, .int x4), (5, .int x5)]) (fun _ => rfl) (fun x6_37 e37 => ?_)
      replace h := h x6_37 e37
      refine v_goto hC 175 dX7_copy_214 (by decide) ?_
      exact V.sub [1, 2, 3, 4, 5, 6, 0] rfl (ih _ _ _ _ _ _ _ h)
set_option maxHeartbeats 4000000 in
set_option maxRecDepth 100000 in
theorem tM_copy_l129 {X : gX} {Q : Int32 → gM → Prop} (hC : VC X cX7_copy RX7 7 rmM_copy) (hR : VR X (some .int) (gPi Q))  : ∀ (n : Nat) (x1 : Int32) (x2 : Int32) (x3 : Int32) (x4 : Int32) (x5 : Int32) (x6 : Int32) (σ : gM), wM_copy_l129 Q  n x1 x2 x3 x4 x5 x6 σ → V X 7 129 [(0, .ref (xad X 82)), (1, .int x1), (2, .int x2), (3, .int x3), (4, .int x4), (5, .int x5), (6, .int x6)] [] σ := by
  intro n
  induction n with
  | zero => intro x1 x2 x3 x4 x5 x6 σ h; exact h.elim
  | succ n ih =>
    intro x1 x2 x3 x4 x5 x6 σ h
    replace h : (x6 < nI 0 → (wM_did x5 σ (fun (r42 : Int32) (σ42 : gM) => Q r42 σ42))) ∧ (¬ (x6 < nI 0) → (vp_in ((((nI 40) * x1) + x2) + x6) 320 ∧ (vp_in ((((nI 40) * x3) + x4) + x6) 320 ∧ (∀ σ44 : gM, σ44 = gU σ 85 ((((nI 40) * x3) + x4) + x6).toNatClampNeg (σ 85 ((((nI 40) * x1) + x2) + x6).toNatClampNeg) → (∀ x6_45 : Int32, x6_45 = x6 + (-1 : Int32) → (wM_copy_l129 Q n x1 x2 x3 x4 x5 x6_45 σ44)))))) := h
    refine v_iload hC 6 dX7_copy_129 rfl ?_
    refine v_if_lt hC 169 dX7_copy_131 (by decide) (fun c40 => ?_) (fun c40 => ?_)
    · replace h := h.1 c40
      refine v_goto hC 217 dX7_copy_169 (by decide) ?_
      refine v_aload_n hC 0 dX7_copy_217 rfl ?_
      refine v_iload hC 5 dX7_copy_218 rfl ?_
      refine v_callV hC (kM_did _ _ _ h) cmM_did ⟨kw1061, kw42⟩ kw1059 ⟨Nat.le_of_ble_eq_true rfl, Nat.le_of_ble_eq_true rfl⟩ (Nat.le_of_ble_eq_true rfl) rfl (ci := 7) (T := TX7) (N := 30) rfl (As := fun G => [.int x5]) (fun _ => rfl) (fun _ => rfl) (st := []) (Nat.le_of_ble_eq_true rfl) rfl dX7_copy_220 (kk_i (fun r42 σ42 h => ?_))
      exact v_iret hC hR h dX7_copy_223
    · replace h := h.2 c40
      refine v_aload_n hC 0 dX7_copy_134 rfl ?_
      refine gf_X7_16 hC dX7_copy_135 ?_
      refine v_bipush hC (nI 40) dX7_copy_138 rfl ?_
      refine v_iload_n hC 3 dX7_copy_140 rfl ?_
      refine v_imul hC dX7_copy_141 ?_
      refine v_iload hC 4 dX7_copy_142 rfl ?_
      refine v_iadd hC dX7_copy_144 ?_
      refine v_iload hC 6 dX7_copy_145 rfl ?_
      refine v_iadd hC dX7_copy_147 ?_
      refine v_aload_n hC 0 dX7_copy_148 rfl ?_
      refine gf_X7_16 hC dX7_copy_149 ?_
      refine v_bipush hC (nI 40) dX7_copy_152 rfl ?_
      refine v_iload_n hC 1 dX7_copy_154 rfl ?_
      refine v_imul hC dX7_copy_155 ?_
      refine v_iload_n hC 2 dX7_copy_156 rfl ?_
      refine v_iadd hC dX7_copy_157 ?_
      refine v_iload hC 6 dX7_copy_158 rfl ?_
      refine v_iadd hC dX7_copy_160 ?_
      obtain ⟨hi43, h⟩ := h
      refine v_iald hC (Nat.le_of_ble_eq_true rfl) rfl rfl hi43 dX7_copy_161 ?_
      obtain ⟨hi44, h⟩ := h
      refine v_iast hC (Nat.le_of_ble_eq_true rfl) rfl rfl hi44 dX7_copy_162 (fun σ44 e44 => ?_)
      replace h := h σ44 e44
      refine v_iincN hC (-1 : Int32) 6 dX7_copy_163 rfl rfl (by decide) (lo2 := fun x6_45 => [(6, .int x6_45), (0, .ref (xad X 82)), (1, .int x1), (2, .int x2), (3, .int x3), (4, .int x4), (5, .int x5)]) (fun _ => rfl) (fun x6_45 e45 => ?_)
      replace h := h x6_45 e45
      refine v_goto hC 129 dX7_copy_166 (by decide) ?_
      exact V.sub [1, 2, 3, 4, 5, 6, 0] rfl (ih _ _ _ _ _ _ _ h)
set_option maxHeartbeats 4000000 in
set_option maxRecDepth 100000 in
theorem kM_copy (x1 : Int32) (x2 : Int32) (x3 : Int32) (x4 : Int32) (x5 : Int32) (σ : gM) (Q : Int32 → gM → Prop) (h : wM_copy x1 x2 x3 x4 x5 σ Q) : CT yX7_copy cX7_copy 7 (some .int) rmM_copy (fun G => [.ref (gad G 82), .int x1, .int x2, .int x3, .int x4, .int x5]) σ (gPi Q) := by
  refine c_enter (by decide) (fun _ => Nat.le_of_ble_eq_true rfl) (fun X hC hR => ?_)
  show V X 7 0 [(0, .ref (xad X 82)), (1, .int x1), (2, .int x2), (3, .int x3), (4, .int x4), (5, .int x5)] [] σ
  replace h : wM_isRow x1 σ (fun (r2 : Int32) (σ2 : gM) => (r2 = nI 0 → (Q (-1000001 : Int32) σ2)) ∧ (¬ (r2 = nI 0) → (wM_isRow x3 σ2 (fun (r5 : Int32) (σ5 : gM) => (r5 = nI 0 → (Q (-1000001 : Int32) σ5)) ∧ (¬ (r5 = nI 0) → (wM_isNull x1 σ5 (fun (r8 : Int32) (σ8 : gM) => (r8 = nI 0 → (wM_isNull x3 σ8 (fun (r11 : Int32) (σ11 : gM) => (r11 = nI 0 → (vp_in x1 8 ∧ (vp_in x3 8 ∧ (((σ11 83 x1.toNatClampNeg) = (σ11 83 x3.toNatClampNeg) → ((x2 < nI 0 → (wM_finds (nI 2) σ11 (fun (r18 : Int32) (σ18 : gM) => Q r18 σ18))) ∧ (¬ (x2 < nI 0) → ((x4 < nI 0 → (wM_finds (nI 2) σ11 (fun (r21 : Int32) (σ21 : gM) => Q r21 σ21))) ∧ (¬ (x4 < nI 0) → ((x5 < nI 0 → (wM_finds (nI 2) σ11 (fun (r24 : Int32) (σ24 : gM) => Q r24 σ24))) ∧ (¬ (x5 < nI 0) → (vp_in x1 8 ∧ ((((σ11 84 x1.toNatClampNeg) - x2) < x5 → (wM_finds (nI 2) σ11 (fun (r28 : Int32) (σ28 : gM) => Q r28 σ28))) ∧ (¬ (((σ11 84 x1.toNatClampNeg) - x2) < x5) → (vp_in x3 8 ∧ ((x5 ≤ ((σ11 84 x3.toNatClampNeg) - x4) → (((((nI 40) * x3) + x4) ≤ (((nI 40) * x1) + x2) → (∃ n38 : Nat, wM_copy_l175 Q n38 x1 x2 x3 x4 x5 (nI 0) σ11)) ∧ (¬ ((((nI 40) * x3) + x4) ≤ (((nI 40) * x1) + x2)) → (∀ x6_39 : Int32, x6_39 = (x5 - (nI 1)) → (∃ n46 : Nat, wM_copy_l129 Q n46 x1 x2 x3 x4 x5 x6_39 σ11))))) ∧ (¬ (x5 ≤ ((σ11 84 x3.toNatClampNeg) - x4)) → (wM_finds (nI 2) σ11 (fun (r48 : Int32) (σ48 : gM) => Q r48 σ48))))))))))))))) ∧ (¬ ((σ11 83 x1.toNatClampNeg) = (σ11 83 x3.toNatClampNeg)) → (wM_finds (nI 5) σ11 (fun (r50 : Int32) (σ50 : gM) => Q r50 σ50))))))) ∧ (¬ (r11 = nI 0) → (wM_finds (nI 1) σ11 (fun (r52 : Int32) (σ52 : gM) => Q r52 σ52)))))) ∧ (¬ (r8 = nI 0) → (wM_finds (nI 1) σ8 (fun (r54 : Int32) (σ54 : gM) => Q r54 σ54)))))))))) := h
  refine v_iload_n hC 1 dX7_copy_0 rfl ?_
  refine v_callS hC (kM_isRow _ _ _ h) cmM_isRow kw1048 kw1047 ⟨Nat.le_of_ble_eq_true rfl, Nat.le_of_ble_eq_true rfl⟩ (fun _ => rfl) (st := []) (Nat.le_of_ble_eq_true rfl) rfl dX7_copy_1 (kk_i (fun r2 σ2 h => ?_))
  refine v_if_eq hC 14 dX7_copy_4 (by decide) (fun c3 => ?_) (fun c3 => ?_)
  · replace h := h.1 c3
    refine v_ldc hC kw1053 dX7_copy_14 ?_
    exact v_iret hC hR h dX7_copy_16
  · replace h := h.2 c3
    refine v_iload_n hC 3 dX7_copy_7 rfl ?_
    refine v_callS hC (kM_isRow _ _ _ h) cmM_isRow kw1048 kw1047 ⟨Nat.le_of_ble_eq_true rfl, Nat.le_of_ble_eq_true rfl⟩ (fun _ => rfl) (st := []) (Nat.le_of_ble_eq_true rfl) rfl dX7_copy_8 (kk_i (fun r5 σ5 h => ?_))
    refine v_if_ne hC 17 dX7_copy_11 (by decide) (fun c6 => ?_) (fun c6 => ?_)
    · replace h := h.2 c6
      refine v_aload_n hC 0 dX7_copy_17 rfl ?_
      refine v_iload_n hC 1 dX7_copy_18 rfl ?_
      refine v_callV hC (kM_isNull _ _ _ h) cmM_isNull ⟨kw1069, kw43⟩ kw1067 ⟨Nat.le_of_ble_eq_true rfl, Nat.le_of_ble_eq_true rfl⟩ (Nat.le_of_ble_eq_true rfl) rfl (ci := 7) (T := TX7) (N := 30) rfl (As := fun G => [.int x1]) (fun _ => rfl) (fun _ => rfl) (st := []) (Nat.le_of_ble_eq_true rfl) rfl dX7_copy_19 (kk_i (fun r8 σ8 h => ?_))
      refine v_if_ne hC 33 dX7_copy_22 (by decide) (fun c9 => ?_) (fun c9 => ?_)
      · replace h := h.2 c9
        refine v_aload_n hC 0 dX7_copy_33 rfl ?_
        refine v_iconst hC (nI 1) dX7_copy_34 rfl ?_
        refine v_callV hC (kM_finds _ _ _ h) cmM_finds ⟨kw1056, kw41⟩ kw1054 ⟨Nat.le_of_ble_eq_true rfl, Nat.le_of_ble_eq_true rfl⟩ (Nat.le_of_ble_eq_true rfl) rfl (ci := 7) (T := TX7) (N := 30) rfl (As := fun G => [.int (nI 1)]) (fun _ => rfl) (fun _ => rfl) (st := []) (Nat.le_of_ble_eq_true rfl) rfl dX7_copy_35 (kk_i (fun r54 σ54 h => ?_))
        exact v_iret hC hR h dX7_copy_38
      · replace h := h.1 c9
        refine v_aload_n hC 0 dX7_copy_25 rfl ?_
        refine v_iload_n hC 3 dX7_copy_26 rfl ?_
        refine v_callV hC (kM_isNull _ _ _ h) cmM_isNull ⟨kw1069, kw43⟩ kw1067 ⟨Nat.le_of_ble_eq_true rfl, Nat.le_of_ble_eq_true rfl⟩ (Nat.le_of_ble_eq_true rfl) rfl (ci := 7) (T := TX7) (N := 30) rfl (As := fun G => [.int x3]) (fun _ => rfl) (fun _ => rfl) (st := []) (Nat.le_of_ble_eq_true rfl) rfl dX7_copy_27 (kk_i (fun r11 σ11 h => ?_))
        refine v_if_eq hC 39 dX7_copy_30 (by decide) (fun c12 => ?_) (fun c12 => ?_)
        · replace h := h.1 c12
          refine v_aload_n hC 0 dX7_copy_39 rfl ?_
          refine gf_X7_7 hC dX7_copy_40 ?_
          refine v_iload_n hC 1 dX7_copy_43 rfl ?_
          obtain ⟨hi13, h⟩ := h
          refine v_iald hC (Nat.le_of_ble_eq_true rfl) rfl rfl hi13 dX7_copy_44 ?_
          refine v_aload_n hC 0 dX7_copy_45 rfl ?_
          refine gf_X7_7 hC dX7_copy_46 ?_
          refine v_iload_n hC 3 dX7_copy_49 rfl ?_
          obtain ⟨hi14, h⟩ := h
          refine v_iald hC (Nat.le_of_ble_eq_true rfl) rfl rfl hi14 dX7_copy_50 ?_
          refine v_icmp_eq hC 60 dX7_copy_51 (by decide) (fun c15 => ?_) (fun c15 => ?_)
          · replace h := h.1 c15
            refine v_iload_n hC 2 dX7_copy_60 rfl ?_
            refine v_if_lt hC 101 dX7_copy_61 (by decide) (fun c16 => ?_) (fun c16 => ?_)
            · replace h := h.1 c16
              refine v_aload_n hC 0 dX7_copy_101 rfl ?_
              refine v_iconst hC (nI 2) dX7_copy_102 rfl ?_
              refine v_callV hC (kM_finds _ _ _ h) cmM_finds ⟨kw1056, kw41⟩ kw1054 ⟨Nat.le_of_ble_eq_true rfl, Nat.le_of_ble_eq_true rfl⟩ (Nat.le_of_ble_eq_true rfl) rfl (ci := 7) (T := TX7) (N := 30) rfl (As := fun G => [.int (nI 2)]) (fun _ => rfl) (fun _ => rfl) (st := []) (Nat.le_of_ble_eq_true rfl) rfl dX7_copy_103 (kk_i (fun r18 σ18 h => ?_))
              exact v_iret hC hR h dX7_copy_106
            · replace h := h.2 c16
              refine v_iload hC 4 dX7_copy_64 rfl ?_
              refine v_if_lt hC 101 dX7_copy_66 (by decide) (fun c19 => ?_) (fun c19 => ?_)
              · replace h := h.1 c19
                refine v_aload_n hC 0 dX7_copy_101 rfl ?_
                refine v_iconst hC (nI 2) dX7_copy_102 rfl ?_
                refine v_callV hC (kM_finds _ _ _ h) cmM_finds ⟨kw1056, kw41⟩ kw1054 ⟨Nat.le_of_ble_eq_true rfl, Nat.le_of_ble_eq_true rfl⟩ (Nat.le_of_ble_eq_true rfl) rfl (ci := 7) (T := TX7) (N := 30) rfl (As := fun G => [.int (nI 2)]) (fun _ => rfl) (fun _ => rfl) (st := []) (Nat.le_of_ble_eq_true rfl) rfl dX7_copy_103 (kk_i (fun r21 σ21 h => ?_))
                exact v_iret hC hR h dX7_copy_106
              · replace h := h.2 c19
                refine v_iload hC 5 dX7_copy_69 rfl ?_
                refine v_if_lt hC 101 dX7_copy_71 (by decide) (fun c22 => ?_) (fun c22 => ?_)
                · replace h := h.1 c22
                  refine v_aload_n hC 0 dX7_copy_101 rfl ?_
                  refine v_iconst hC (nI 2) dX7_copy_102 rfl ?_
                  refine v_callV hC (kM_finds _ _ _ h) cmM_finds ⟨kw1056, kw41⟩ kw1054 ⟨Nat.le_of_ble_eq_true rfl, Nat.le_of_ble_eq_true rfl⟩ (Nat.le_of_ble_eq_true rfl) rfl (ci := 7) (T := TX7) (N := 30) rfl (As := fun G => [.int (nI 2)]) (fun _ => rfl) (fun _ => rfl) (st := []) (Nat.le_of_ble_eq_true rfl) rfl dX7_copy_103 (kk_i (fun r24 σ24 h => ?_))
                  exact v_iret hC hR h dX7_copy_106
                · replace h := h.2 c22
                  refine v_iload hC 5 dX7_copy_74 rfl ?_
                  refine v_aload_n hC 0 dX7_copy_76 rfl ?_
                  refine gf_X7_13 hC dX7_copy_77 ?_
                  refine v_iload_n hC 1 dX7_copy_80 rfl ?_
                  obtain ⟨hi25, h⟩ := h
                  refine v_iald hC (Nat.le_of_ble_eq_true rfl) rfl rfl hi25 dX7_copy_81 ?_
                  refine v_iload_n hC 2 dX7_copy_82 rfl ?_
                  refine v_isub hC dX7_copy_83 ?_
                  refine v_icmp_gt hC 101 dX7_copy_84 (by decide) (fun c26 => ?_) (fun c26 => ?_)
                  · replace h := h.1 c26
                    refine v_aload_n hC 0 dX7_copy_101 rfl ?_
                    refine v_iconst hC (nI 2) dX7_copy_102 rfl ?_
                    refine v_callV hC (kM_finds _ _ _ h) cmM_finds ⟨kw1056, kw41⟩ kw1054 ⟨Nat.le_of_ble_eq_true rfl, Nat.le_of_ble_eq_true rfl⟩ (Nat.le_of_ble_eq_true rfl) rfl (ci := 7) (T := TX7) (N := 30) rfl (As := fun G => [.int (nI 2)]) (fun _ => rfl) (fun _ => rfl) (st := []) (Nat.le_of_ble_eq_true rfl) rfl dX7_copy_103 (kk_i (fun r28 σ28 h => ?_))
                    exact v_iret hC hR h dX7_copy_106
                  · replace h := h.2 c26
                    refine v_iload hC 5 dX7_copy_87 rfl ?_
                    refine v_aload_n hC 0 dX7_copy_89 rfl ?_
                    refine gf_X7_13 hC dX7_copy_90 ?_
                    refine v_iload_n hC 3 dX7_copy_93 rfl ?_
                    obtain ⟨hi29, h⟩ := h
                    refine v_iald hC (Nat.le_of_ble_eq_true rfl) rfl rfl hi29 dX7_copy_94 ?_
                    refine v_iload hC 4 dX7_copy_95 rfl ?_
                    refine v_isub hC dX7_copy_97 ?_
                    refine v_icmp_le hC 107 dX7_copy_98 (by decide) (fun c30 => ?_) (fun c30 => ?_)
                    · replace h := h.1 c30
                      refine v_bipush hC (nI 40) dX7_copy_107 rfl ?_
                      refine v_iload_n hC 1 dX7_copy_109 rfl ?_
                      refine v_imul hC dX7_copy_110 ?_
                      refine v_iload_n hC 2 dX7_copy_111 rfl ?_
                      refine v_iadd hC dX7_copy_112 ?_
                      refine v_bipush hC (nI 40) dX7_copy_113 rfl ?_
                      refine v_iload_n hC 3 dX7_copy_115 rfl ?_
                      refine v_imul hC dX7_copy_116 ?_
                      refine v_iload hC 4 dX7_copy_117 rfl ?_
                      refine v_iadd hC dX7_copy_119 ?_
                      refine v_icmp_ge hC 172 dX7_copy_120 (by decide) (fun c31 => ?_) (fun c31 => ?_)
                      · replace h := h.1 c31
                        refine v_iconst hC (nI 0) dX7_copy_172 rfl ?_
                        refine v_istore hC dX7_copy_173 (by decide) rfl ?_
                        obtain ⟨n38, h⟩ := h
                        exact V.sub [1, 2, 3, 4, 5, 6, 0] rfl (tM_copy_l175 hC hR  n38 _ _ _ _ _ _ _ h)
                      · replace h := h.2 c31
                        refine v_iload hC 5 dX7_copy_123 rfl ?_
                        refine v_iconst hC (nI 1) dX7_copy_125 rfl ?_
                        refine v_isub hC dX7_copy_126 ?_
                        refine v_istoreN hC dX7_copy_127 (by decide) (lo2 := fun x6_39 => [(6, .int x6_39), (0, .ref (xad X 82)), (1, .int x1), (2, .int x2), (3, .int x3), (4, .int x4), (5, .int x5)]) (fun _ => rfl) (fun x6_39 e39 => ?_)
                        replace h := h x6_39 e39
                        obtain ⟨n46, h⟩ := h
                        exact V.sub [1, 2, 3, 4, 5, 6, 0] rfl (tM_copy_l129 hC hR  n46 _ _ _ _ _ _ _ h)
                    · replace h := h.2 c30
                      refine v_aload_n hC 0 dX7_copy_101 rfl ?_
                      refine v_iconst hC (nI 2) dX7_copy_102 rfl ?_
                      refine v_callV hC (kM_finds _ _ _ h) cmM_finds ⟨kw1056, kw41⟩ kw1054 ⟨Nat.le_of_ble_eq_true rfl, Nat.le_of_ble_eq_true rfl⟩ (Nat.le_of_ble_eq_true rfl) rfl (ci := 7) (T := TX7) (N := 30) rfl (As := fun G => [.int (nI 2)]) (fun _ => rfl) (fun _ => rfl) (st := []) (Nat.le_of_ble_eq_true rfl) rfl dX7_copy_103 (kk_i (fun r48 σ48 h => ?_))
                      exact v_iret hC hR h dX7_copy_106
          · replace h := h.2 c15
            refine v_aload_n hC 0 dX7_copy_54 rfl ?_
            refine v_iconst hC (nI 5) dX7_copy_55 rfl ?_
            refine v_callV hC (kM_finds _ _ _ h) cmM_finds ⟨kw1056, kw41⟩ kw1054 ⟨Nat.le_of_ble_eq_true rfl, Nat.le_of_ble_eq_true rfl⟩ (Nat.le_of_ble_eq_true rfl) rfl (ci := 7) (T := TX7) (N := 30) rfl (As := fun G => [.int (nI 5)]) (fun _ => rfl) (fun _ => rfl) (st := []) (Nat.le_of_ble_eq_true rfl) rfl dX7_copy_56 (kk_i (fun r50 σ50 h => ?_))
            exact v_iret hC hR h dX7_copy_59
        · replace h := h.2 c12
          refine v_aload_n hC 0 dX7_copy_33 rfl ?_
          refine v_iconst hC (nI 1) dX7_copy_34 rfl ?_
          refine v_callV hC (kM_finds _ _ _ h) cmM_finds ⟨kw1056, kw41⟩ kw1054 ⟨Nat.le_of_ble_eq_true rfl, Nat.le_of_ble_eq_true rfl⟩ (Nat.le_of_ble_eq_true rfl) rfl (ci := 7) (T := TX7) (N := 30) rfl (As := fun G => [.int (nI 1)]) (fun _ => rfl) (fun _ => rfl) (st := []) (Nat.le_of_ble_eq_true rfl) rfl dX7_copy_35 (kk_i (fun r52 σ52 h => ?_))
          exact v_iret hC hR h dX7_copy_38
    · replace h := h.1 c6
      refine v_ldc hC kw1053 dX7_copy_14 ?_
      exact v_iret hC hR h dX7_copy_16
theorem cmM_copy : CM yX7_copy cX7_copy 7 (some .int) rmM_copy 5 := ⟨kw82, kw1074, rfl, rfl, by decide, by decide, by decide +kernel⟩
def rmM_drop : Room := { frames := 2, cells := 0, slots := 0, locals := 42 }
def wM_drop (x1 : Int32) (σ : gM) (Q : Int32 → gM → Prop) : Prop :=
    wM_isRow x1 σ (fun (r2 : Int32) (σ2 : gM) => (r2 = nI 0 → (Q (-1000001 : Int32) σ2)) ∧ (¬ (r2 = nI 0) → (wM_isNull x1 σ2 (fun (r5 : Int32) (σ5 : gM) => (r5 = nI 0 → (vp_in x1 8 ∧ (∀ σ7 : gM, σ7 = gU σ5 83 x1.toNatClampNeg (-1 : Int32) → (vp_in x1 8 ∧ (wM_did (σ7 84 x1.toNatClampNeg) σ7 (fun (r10 : Int32) (σ10 : gM) => Q r10 σ10)))))) ∧ (¬ (r5 = nI 0) → (wM_finds (nI 1) σ5 (fun (r12 : Int32) (σ12 : gM) => Q r12 σ12)))))))
set_option maxHeartbeats 4000000 in
set_option maxRecDepth 100000 in
theorem kM_drop (x1 : Int32) (σ : gM) (Q : Int32 → gM → Prop) (h : wM_drop x1 σ Q) : CT yX7_drop cX7_drop 2 (some .int) rmM_drop (fun G => [.ref (gad G 82), .int x1]) σ (gPi Q) := by
  refine c_enter (by decide) (fun _ => Nat.le_of_ble_eq_true rfl) (fun X hC hR => ?_)
  show V X 2 0 [(0, .ref (xad X 82)), (1, .int x1)] [] σ
  replace h : wM_isRow x1 σ (fun (r2 : Int32) (σ2 : gM) => (r2 = nI 0 → (Q (-1000001 : Int32) σ2)) ∧ (¬ (r2 = nI 0) → (wM_isNull x1 σ2 (fun (r5 : Int32) (σ5 : gM) => (r5 = nI 0 → (vp_in x1 8 ∧ (∀ σ7 : gM, σ7 = gU σ5 83 x1.toNatClampNeg (-1 : Int32) → (vp_in x1 8 ∧ (wM_did (σ7 84 x1.toNatClampNeg) σ7 (fun (r10 : Int32) (σ10 : gM) => Q r10 σ10)))))) ∧ (¬ (r5 = nI 0) → (wM_finds (nI 1) σ5 (fun (r12 : Int32) (σ12 : gM) => Q r12 σ12))))))) := h
  refine v_iload_n hC 1 dX7_drop_0 rfl ?_
  refine v_callS hC (kM_isRow _ _ _ h) cmM_isRow kw1048 kw1047 ⟨Nat.le_of_ble_eq_true rfl, Nat.le_of_ble_eq_true rfl⟩ (fun _ => rfl) (st := []) (Nat.le_of_ble_eq_true rfl) rfl dX7_drop_1 (kk_i (fun r2 σ2 h => ?_))
  refine v_if_ne hC 10 dX7_drop_4 (by decide) (fun c3 => ?_) (fun c3 => ?_)
  · replace h := h.2 c3
    refine v_aload_n hC 0 dX7_drop_10 rfl ?_
    refine v_iload_n hC 1 dX7_drop_11 rfl ?_
    refine v_callV hC (kM_isNull _ _ _ h) cmM_isNull ⟨kw1069, kw43⟩ kw1067 ⟨Nat.le_of_ble_eq_true rfl, Nat.le_of_ble_eq_true rfl⟩ (Nat.le_of_ble_eq_true rfl) rfl (ci := 7) (T := TX7) (N := 30) rfl (As := fun G => [.int x1]) (fun _ => rfl) (fun _ => rfl) (st := []) (Nat.le_of_ble_eq_true rfl) rfl dX7_drop_12 (kk_i (fun r5 σ5 h => ?_))
    refine v_if_eq hC 24 dX7_drop_15 (by decide) (fun c6 => ?_) (fun c6 => ?_)
    · replace h := h.1 c6
      refine v_aload_n hC 0 dX7_drop_24 rfl ?_
      refine gf_X7_7 hC dX7_drop_25 ?_
      refine v_iload_n hC 1 dX7_drop_28 rfl ?_
      refine v_iconst hC (-1 : Int32) dX7_drop_29 rfl ?_
      obtain ⟨hi7, h⟩ := h
      refine v_iast hC (Nat.le_of_ble_eq_true rfl) rfl rfl hi7 dX7_drop_30 (fun σ7 e7 => ?_)
      replace h := h σ7 e7
      refine v_aload_n hC 0 dX7_drop_31 rfl ?_
      refine v_aload_n hC 0 dX7_drop_32 rfl ?_
      refine gf_X7_13 hC dX7_drop_33 ?_
      refine v_iload_n hC 1 dX7_drop_36 rfl ?_
      obtain ⟨hi8, h⟩ := h
      refine v_iald hC (Nat.le_of_ble_eq_true rfl) rfl rfl hi8 dX7_drop_37 ?_
      refine v_callV hC (kM_did _ _ _ h) cmM_did ⟨kw1061, kw42⟩ kw1059 ⟨Nat.le_of_ble_eq_true rfl, Nat.le_of_ble_eq_true rfl⟩ (Nat.le_of_ble_eq_true rfl) rfl (ci := 7) (T := TX7) (N := 30) rfl (As := fun G => [.int (σ7 84 x1.toNatClampNeg)]) (fun _ => rfl) (fun _ => rfl) (st := []) (Nat.le_of_ble_eq_true rfl) rfl dX7_drop_38 (kk_i (fun r10 σ10 h => ?_))
      exact v_iret hC hR h dX7_drop_41
    · replace h := h.2 c6
      refine v_aload_n hC 0 dX7_drop_18 rfl ?_
      refine v_iconst hC (nI 1) dX7_drop_19 rfl ?_
      refine v_callV hC (kM_finds _ _ _ h) cmM_finds ⟨kw1056, kw41⟩ kw1054 ⟨Nat.le_of_ble_eq_true rfl, Nat.le_of_ble_eq_true rfl⟩ (Nat.le_of_ble_eq_true rfl) rfl (ci := 7) (T := TX7) (N := 30) rfl (As := fun G => [.int (nI 1)]) (fun _ => rfl) (fun _ => rfl) (st := []) (Nat.le_of_ble_eq_true rfl) rfl dX7_drop_20 (kk_i (fun r12 σ12 h => ?_))
      exact v_iret hC hR h dX7_drop_23
  · replace h := h.1 c3
    refine v_ldc hC kw1053 dX7_drop_7 ?_
    exact v_iret hC hR h dX7_drop_9
theorem cmM_drop : CM yX7_drop cX7_drop 2 (some .int) rmM_drop 1 := ⟨kw82, kw1078, rfl, rfl, by decide, by decide, by decide +kernel⟩
def rmM_feed : Room := { frames := 1, cells := 0, slots := 0, locals := 22 }
def wM_feed_l31 (Q : Int32 → gM → Prop)  : Nat → Int64 → Int32 → Int32 → gM → Prop
  | 0, _, _, _, _ => False
  | n + 1, x1, x3, x4, σ =>
    (x3 ≤ x4 → (∀ σ6 : gM, σ6 = gU σ 82 4 ((σ 82 4) + x3) → (Q (σ6 82 4) σ6))) ∧ (¬ (x3 ≤ x4) → (vp_in ((σ 82 4) + x4) 400 ∧ (∀ σ7 : gM, σ7 = gU σ 86 ((σ 82 4) + x4).toNatClampNeg (((x1 >>> (((nI 8) * ((x3 - (nI 1)) - x4)).toInt64 &&& 63)) &&& (255 : Int64)).toInt32) → (∀ x4_8 : Int32, x4_8 = x4 + (nI 1) → (wM_feed_l31 Q n x1 x3 x4_8 σ7)))))
def wM_feed (x1 : Int64) (x3 : Int32) (σ : gM) (Q : Int32 → gM → Prop) : Prop :=
    wM_in x3 (nI 1) (nI 8) σ (fun (r2 : Int32) (σ2 : gM) => (r2 = nI 0 → (Q (-1000001 : Int32) σ2)) ∧ (¬ (r2 = nI 0) → ((((σ2 82 4) + x3) ≤ (nI 400) → (∃ n9 : Nat, wM_feed_l31 Q n9 x1 x3 (nI 0) σ2)) ∧ (¬ (((σ2 82 4) + x3) ≤ (nI 400)) → (Q (-1000003 : Int32) σ2)))))
set_option maxHeartbeats 4000000 in
set_option maxRecDepth 100000 in
theorem tM_feed_l31 {X : gX} {Q : Int32 → gM → Prop} (hC : VC X cX7_feed RX7 5 rmM_feed) (hR : VR X (some .int) (gPi Q))  : ∀ (n : Nat) (x1 : Int64) (x3 : Int32) (x4 : Int32) (σ : gM), wM_feed_l31 Q  n x1 x3 x4 σ → V X 5 31 [(0, .ref (xad X 82)), (1, .long x1), (3, .int x3), (4, .int x4)] [] σ := by
  intro n
  induction n with
  | zero => intro x1 x3 x4 σ h; exact h.elim
  | succ n ih =>
    intro x1 x3 x4 σ h
    replace h : (x3 ≤ x4 → (∀ σ6 : gM, σ6 = gU σ 82 4 ((σ 82 4) + x3) → (Q (σ6 82 4) σ6))) ∧ (¬ (x3 ≤ x4) → (vp_in ((σ 82 4) + x4) 400 ∧ (∀ σ7 : gM, σ7 = gU σ 86 ((σ 82 4) + x4).toNatClampNeg (((x1 >>> (((nI 8) * ((x3 - (nI 1)) - x4)).toInt64 &&& 63)) &&& (255 : Int64)).toInt32) → (∀ x4_8 : Int32, x4_8 = x4 + (nI 1) → (wM_feed_l31 Q n x1 x3 x4_8 σ7))))) := h
    refine v_iload hC 3 dX7_feed_31 rfl ?_
    refine v_iload_n hC 2 dX7_feed_33 rfl ?_
    refine v_icmp_ge hC 71 dX7_feed_34 (by decide) (fun c5 => ?_) (fun c5 => ?_)
    · replace h := h.1 c5
      refine v_aload_n hC 0 dX7_feed_71 rfl ?_
      refine v_dup hC dX7_feed_72 rfl ?_
      refine gf_X7_86 hC dX7_feed_73 ?_
      refine v_iload_n hC 2 dX7_feed_76 rfl ?_
      refine v_iadd hC dX7_feed_77 ?_
      refine pf_X7_86 hC dX7_feed_78 (fun σ6 e6 => ?_)
      replace h := h σ6 e6
      refine v_aload_n hC 0 dX7_feed_81 rfl ?_
      refine gf_X7_86 hC dX7_feed_82 ?_
      exact v_iret hC hR h dX7_feed_85
    · replace h := h.2 c5
      refine v_aload_n hC 0 dX7_feed_37 rfl ?_
      refine gf_X7_19 hC dX7_feed_38 ?_
      refine v_aload_n hC 0 dX7_feed_41 rfl ?_
      refine gf_X7_86 hC dX7_feed_42 ?_
      refine v_iload hC 3 dX7_feed_45 rfl ?_
      refine v_iadd hC dX7_feed_47 ?_
      refine v_lload_n hC 1 dX7_feed_48 rfl ?_
      refine v_bipush hC (nI 8) dX7_feed_49 rfl ?_
      refine v_iload_n hC 2 dX7_feed_51 rfl ?_
      refine v_iconst hC (nI 1) dX7_feed_52 rfl ?_
      refine v_isub hC dX7_feed_53 ?_
      refine v_iload hC 3 dX7_feed_54 rfl ?_
      refine v_isub hC dX7_feed_56 ?_
      refine v_imul hC dX7_feed_57 ?_
      refine v_lshr hC dX7_feed_58 ?_
      refine v_ldc2 hC kw1084 dX7_feed_59 ?_
      refine v_land hC dX7_feed_62 ?_
      refine v_l2i hC dX7_feed_63 ?_
      obtain ⟨hi7, h⟩ := h
      refine v_iast hC (Nat.le_of_ble_eq_true rfl) rfl rfl hi7 dX7_feed_64 (fun σ7 e7 => ?_)
      replace h := h σ7 e7
      refine v_iincN hC (nI 1) 3 dX7_feed_65 rfl rfl (by decide) (lo2 := fun x4_8 => [(4, .int x4_8), (0, .ref (xad X 82)), (1, .long x1), (3, .int x3)]) (fun _ => rfl) (fun x4_8 e8 => ?_)
      replace h := h x4_8 e8
      refine v_goto hC 31 dX7_feed_68 (by decide) ?_
      exact V.sub [1, 2, 3, 0] rfl (ih _ _ _ _ h)
set_option maxHeartbeats 4000000 in
set_option maxRecDepth 100000 in
theorem kM_feed (x1 : Int64) (x3 : Int32) (σ : gM) (Q : Int32 → gM → Prop) (h : wM_feed x1 x3 σ Q) : CT yX7_feed cX7_feed 5 (some .int) rmM_feed (fun G => [.ref (gad G 82), .long x1, .int x3]) σ (gPi Q) := by
  refine c_enter (by decide) (fun _ => Nat.le_of_ble_eq_true rfl) (fun X hC hR => ?_)
  show V X 5 0 [(0, .ref (xad X 82)), (1, .long x1), (3, .int x3)] [] σ
  replace h : wM_in x3 (nI 1) (nI 8) σ (fun (r2 : Int32) (σ2 : gM) => (r2 = nI 0 → (Q (-1000001 : Int32) σ2)) ∧ (¬ (r2 = nI 0) → ((((σ2 82 4) + x3) ≤ (nI 400) → (∃ n9 : Nat, wM_feed_l31 Q n9 x1 x3 (nI 0) σ2)) ∧ (¬ (((σ2 82 4) + x3) ≤ (nI 400)) → (Q (-1000003 : Int32) σ2))))) := h
  refine v_iload_n hC 2 dX7_feed_0 rfl ?_
  refine v_iconst hC (nI 1) dX7_feed_1 rfl ?_
  refine v_bipush hC (nI 8) dX7_feed_2 rfl ?_
  refine v_callS hC (kM_in _ _ _ _ _ h) cmM_in kw1051 kw1050 ⟨Nat.le_of_ble_eq_true rfl, Nat.le_of_ble_eq_true rfl⟩ (fun _ => rfl) (st := []) (Nat.le_of_ble_eq_true rfl) rfl dX7_feed_4 (kk_i (fun r2 σ2 h => ?_))
  refine v_if_ne hC 13 dX7_feed_7 (by decide) (fun c3 => ?_) (fun c3 => ?_)
  · replace h := h.2 c3
    refine v_aload_n hC 0 dX7_feed_13 rfl ?_
    refine gf_X7_86 hC dX7_feed_14 ?_
    refine v_iload_n hC 2 dX7_feed_17 rfl ?_
    refine v_iadd hC dX7_feed_18 ?_
    refine v_sipush hC (nI 400) dX7_feed_19 rfl ?_
    refine v_icmp_le hC 28 dX7_feed_22 (by decide) (fun c4 => ?_) (fun c4 => ?_)
    · replace h := h.1 c4
      refine v_iconst hC (nI 0) dX7_feed_28 rfl ?_
      refine v_istore hC dX7_feed_29 (by decide) rfl ?_
      obtain ⟨n9, h⟩ := h
      exact V.sub [1, 2, 3, 0] rfl (tM_feed_l31 hC hR  n9 _ _ _ _ h)
    · replace h := h.2 c4
      refine v_ldc hC kw1083 dX7_feed_25 ?_
      exact v_iret hC hR h dX7_feed_27
  · replace h := h.1 c3
    refine v_ldc hC kw1053 dX7_feed_10 ?_
    exact v_iret hC hR h dX7_feed_12
theorem cmM_feed : CM yX7_feed cX7_feed 5 (some .int) rmM_feed 2 := ⟨kw82, kw1082, rfl, rfl, by decide, by decide, by decide +kernel⟩
