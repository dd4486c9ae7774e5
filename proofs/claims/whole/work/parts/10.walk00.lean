def rmH_isNoRow : Room := { frames := 0, cells := 0, slots := 0, locals := 0 }
def wH_isNoRow (x1 : Int32) (σ : gM) (Q : Int32 → gM → Prop) : Prop :=
    ∀ v2 : Int32, v2 = (if x1 < nI 0 then (nI 1) else (if x1 < (nI 8) then (nI 0) else (nI 1))) → ((v2 = nI 0 ∨ v2 = nI 1) ∧ Q v2 σ)
set_option maxHeartbeats 4000000 in
set_option maxRecDepth 100000 in
theorem kH_isNoRow (x1 : Int32) (σ : gM) (Q : Int32 → gM → Prop) (h : wH_isNoRow x1 σ Q) : CT yX6_isNoRow cX6_isNoRow 2 (some .boolean) rmH_isNoRow (fun G => [.ref (gad G 0), .int x1]) σ (gPi Q) := by
  refine c_enter (by decide) (fun _ => Nat.le_of_ble_eq_true rfl) (fun X hC hR => ?_)
  show V X 2 0 [(0, .ref (xad X 0)), (1, .int x1)] [] σ
  replace h : ∀ v2 : Int32, v2 = (if x1 < nI 0 then (nI 1) else (if x1 < (nI 8) then (nI 0) else (nI 1))) → ((v2 = nI 0 ∨ v2 = nI 1) ∧ Q v2 σ) := h
  refine v_iload_n hC 1 dX6_isNoRow_0 rfl ?_
  have J1 : ∀ (v2 : Int32) (ev2 : v2 = (if x1 < nI 0 then (nI 1) else (if x1 < (nI 8) then (nI 0) else (nI 1)))), V X 2 15 [] [.int v2] σ := by
    intro v2 ev2
    replace h := h v2 ev2
    obtain ⟨hb, h⟩ := h
    exact v_zret hC hR (nar_bool hb) h dX6_isNoRow_15
  refine v_if_lt hC 10 dX6_isNoRow_1 (by decide) (fun c1 => ?_) (fun c1 => ?_)
  · refine v_iconst hC (nI 1) dX6_isNoRow_10 rfl ?_
    refine v_goto hC 15 dX6_isNoRow_11 (by decide) ?_
    exact V.sub [] rfl (J1 _ (by rw [if_pos c1]))
  · refine v_iload_n hC 1 dX6_isNoRow_4 rfl ?_
    refine v_bipush hC (nI 8) dX6_isNoRow_5 rfl ?_
    have J3 : V X 2 15 [] [.int (if x1 < (nI 8) then (nI 0) else (nI 1))] σ := by
      exact V.sub [] rfl (J1 _ (by rw [if_neg c1]))
    refine v_icmp_lt hC 14 dX6_isNoRow_7 (by decide) (fun c3 => ?_) (fun c3 => ?_)
    · refine v_iconst hC (nI 0) dX6_isNoRow_14 rfl ?_
      rw [if_pos c3] at J3
      exact V.sub [] rfl J3
    · refine v_iconst hC (nI 1) dX6_isNoRow_10 rfl ?_
      refine v_goto hC 15 dX6_isNoRow_11 (by decide) ?_
      rw [if_neg c3] at J3
      exact V.sub [] rfl J3
theorem cmH_isNoRow : CM yX6_isNoRow cX6_isNoRow 2 (some .boolean) rmH_isNoRow 1 := ⟨kw75, kw376, rfl, rfl, by decide, by decide, by decide +kernel⟩
def rmJA_fill : Room := { frames := 0, cells := 0, slots := 0, locals := 0 }
def wJA_fill_row_l5 (r : Nat) (Q : gM → Prop)  : Nat → Int32 → Int32 → Int32 → gM → Prop
  | 0, _, _, _, _ => False
  | n + 1, x1, x2, x3, σ =>
    (x3 ≤ x2 → (Q σ)) ∧ (¬ (x3 ≤ x2) → (vp_in x2 40 ∧ (∀ σ2 : gM, σ2 = gU σ (2 + 2 * r + 1) x2.toNatClampNeg x1 → (∀ x2_3 : Int32, x2_3 = x2 + (nI 1) → (wJA_fill_row_l5 r Q n x1 x2_3 x3 σ2)))))
def wJA_fill_row (r : Nat) (x1 : Int32) (σ : gM) (Q : gM → Prop) : Prop :=
    ∃ n4 : Nat, wJA_fill_row_l5 r Q n4 x1 (nI 0) (nI 40) σ
set_option maxHeartbeats 4000000 in
set_option maxRecDepth 100000 in
theorem tJA_fill_row_l5 {X : gX} {Q : gM → Prop} (hC : VC X cJ7_fill_53178 RJ7 4 rmJA_fill) (hR : VR X none (gPv Q)) {r : Nat} (hr : r < 8)  : ∀ (n : Nat) (x1 : Int32) (x2 : Int32) (x3 : Int32) (σ : gM), wJA_fill_row_l5 r Q  n x1 x2 x3 σ → V X 4 5 [(0, .ref (xad X (2 + 2 * r + 1))), (1, .int x1), (2, .int x2), (3, .int x3)] [] σ := by
  intro n
  induction n with
  | zero => intro x1 x2 x3 σ h; exact h.elim
  | succ n ih =>
    intro x1 x2 x3 σ h
    replace h : (x3 ≤ x2 → (Q σ)) ∧ (¬ (x3 ≤ x2) → (vp_in x2 40 ∧ (∀ σ2 : gM, σ2 = gU σ (2 + 2 * r + 1) x2.toNatClampNeg x1 → (∀ x2_3 : Int32, x2_3 = x2 + (nI 1) → (wJA_fill_row_l5 r Q n x1 x2_3 x3 σ2))))) := h
    refine v_iload_n hC 2 dJ7_fill_53178_5 rfl ?_
    refine v_iload_n hC 3 dJ7_fill_53178_6 rfl ?_
    refine v_icmp_ge hC 20 dJ7_fill_53178_7 (by decide) (fun c1 => ?_) (fun c1 => ?_)
    · replace h := h.1 c1
      exact v_vret hC hR h dJ7_fill_53178_20
    · replace h := h.2 c1
      refine v_aload_n hC 0 dJ7_fill_53178_10 rfl ?_
      refine v_iload_n hC 2 dJ7_fill_53178_11 rfl ?_
      refine v_iload_n hC 1 dJ7_fill_53178_12 rfl ?_
      obtain ⟨hi2, h⟩ := h
      refine v_iast hC (rowi_lt hr) (gSh_row _ hr).2 rfl hi2 dJ7_fill_53178_13 (fun σ2 e2 => ?_)
      replace h := h σ2 e2
      refine v_iincN hC (nI 1) 2 dJ7_fill_53178_14 rfl rfl (by decide) (lo2 := fun x2_3 => [(2, .int x2_3), (0, .ref (xad X (2 + 2 * r + 1))), (1, .int x1), (3, .int x3)]) (fun _ => rfl) (fun x2_3 e3 => ?_)
      replace h := h x2_3 e3
      refine v_goto hC 5 dJ7_fill_53178_17 (by decide) ?_
      exact V.sub [1, 2, 0, 3] rfl (ih _ _ _ _ h)
set_option maxHeartbeats 4000000 in
set_option maxRecDepth 100000 in
theorem kJA_fill_row {r : Nat} (hr : r < 8) (x1 : Int32) (σ : gM) (Q : gM → Prop) (h : wJA_fill_row r x1 σ Q) : CT yJ7_fill_53178 cJ7_fill_53178 4 none rmJA_fill (fun G => [.ref (gad G (2 + 2 * r + 1)), .int x1]) σ (gPv Q) := by
  refine c_enter (by decide) (fun _ => Nat.le_of_ble_eq_true rfl) (fun X hC hR => ?_)
  show V X 4 0 [(0, .ref (xad X (2 + 2 * r + 1))), (1, .int x1)] [] σ
  replace h : ∃ n4 : Nat, wJA_fill_row_l5 r Q n4 x1 (nI 0) (nI 40) σ := h
  refine v_iconst hC (nI 0) dJ7_fill_53178_0 rfl ?_
  refine v_istore_n hC dJ7_fill_53178_1 (by decide) rfl ?_
  refine v_aload_n hC 1 dJ7_fill_53178_2 rfl ?_
  refine v_alen hC (nI 40) (rowi_lt hr) (gSh_row _ hr).2 rfl dJ7_fill_53178_3 ?_
  refine v_istore_n hC dJ7_fill_53178_4 (by decide) rfl ?_
  obtain ⟨n4, h⟩ := h
  exact V.sub [2, 3, 1, 0] rfl (tJA_fill_row_l5 hC hR hr  n4 _ _ _ _ h)
theorem cmJA_fill : CM yJ7_fill_53178 cJ7_fill_53178 4 none rmJA_fill 2 := ⟨kw83, kw389, rfl, rfl, by decide, by decide, by decide +kernel⟩
def rmR_begin : Room := { frames := 1, cells := 0, slots := 0, locals := 23 }
def wR_begin (r : Nat) (x1 : Int32) (x2 : Int32) (σ : gM) (Q : gM → Prop) : Prop :=
    ∀ σ1 : gM, σ1 = gU σ (2 + 2 * r) 1 (nI 1) → (∀ σ2 : gM, σ2 = gU σ1 (2 + 2 * r) 2 x1 → (∀ σ3 : gM, σ3 = gU σ2 (2 + 2 * r) 3 x2 → (wJA_fill_row r (nI 0) σ3 (fun (σ5 : gM) => Q σ5))))
set_option maxHeartbeats 4000000 in
set_option maxRecDepth 100000 in
theorem kR_begin {r : Nat} (hr : r < 8) (x1 : Int32) (x2 : Int32) (σ : gM) (Q : gM → Prop) (h : wR_begin r x1 x2 σ Q) : CT yX3_begin cX3_begin 3 none rmR_begin (fun G => [.ref (gad G (2 + 2 * r)), .int x1, .int x2]) σ (gPv Q) := by
  refine c_enter (by decide) (fun _ => Nat.le_of_ble_eq_true rfl) (fun X hC hR => ?_)
  show V X 3 0 [(0, .ref (xad X (2 + 2 * r))), (1, .int x1), (2, .int x2)] [] σ
  replace h : ∀ σ1 : gM, σ1 = gU σ (2 + 2 * r) 1 (nI 1) → (∀ σ2 : gM, σ2 = gU σ1 (2 + 2 * r) 2 x1 → (∀ σ3 : gM, σ3 = gU σ2 (2 + 2 * r) 3 x2 → (wJA_fill_row r (nI 0) σ3 (fun (σ5 : gM) => Q σ5)))) := h
  refine v_aload_n hC 0 dX3_begin_0 rfl ?_
  refine v_iconst hC (nI 1) dX3_begin_1 rfl ?_
  refine pf_X3_15 hC hr (Or.inr rfl) dX3_begin_2 (fun σ1 e1 => ?_)
  replace h := h σ1 e1
  refine v_aload_n hC 0 dX3_begin_5 rfl ?_
  refine v_iload_n hC 1 dX3_begin_6 rfl ?_
  refine pf_X3_19 hC hr dX3_begin_7 (fun σ2 e2 => ?_)
  replace h := h σ2 e2
  refine v_aload_n hC 0 dX3_begin_10 rfl ?_
  refine v_iload_n hC 2 dX3_begin_11 rfl ?_
  refine pf_X3_23 hC hr dX3_begin_12 (fun σ3 e3 => ?_)
  replace h := h σ3 e3
  refine v_aload_n hC 0 dX3_begin_15 rfl ?_
  refine gf_X3_9 hC hr dX3_begin_16 ?_
  refine v_iconst hC (nI 0) dX3_begin_19 rfl ?_
  refine v_callS hC (kJA_fill_row hr _ _ _ h) cmJA_fill kw388 kw387 ⟨Nat.le_of_ble_eq_true rfl, Nat.le_of_ble_eq_true rfl⟩ (fun _ => rfl) (st := []) (Nat.le_of_ble_eq_true rfl) rfl dX3_begin_20 (kk_v (fun σ5 h => ?_))
  exact v_vret hC hR h dX3_begin_23
theorem cmR_begin : CM yX3_begin cX3_begin 3 none rmR_begin 2 := ⟨kw81, kw386, rfl, rfl, by decide, by decide, by decide +kernel⟩
def rmH_unfound : Room := { frames := 0, cells := 0, slots := 0, locals := 0 }
def wH_unfound (x1 : Int32) (σ : gM) (Q : Int32 → gM → Prop) : Prop :=
    ∀ σ1 : gM, σ1 = gU σ 0 11 (nI 0) → (Q x1 σ1)
set_option maxHeartbeats 4000000 in
set_option maxRecDepth 100000 in
theorem kH_unfound (x1 : Int32) (σ : gM) (Q : Int32 → gM → Prop) (h : wH_unfound x1 σ Q) : CT yX6_unfound cX6_unfound 2 (some .int) rmH_unfound (fun G => [.ref (gad G 0), .int x1]) σ (gPi Q) := by
  refine c_enter (by decide) (fun _ => Nat.le_of_ble_eq_true rfl) (fun X hC hR => ?_)
  show V X 2 0 [(0, .ref (xad X 0)), (1, .int x1)] [] σ
  replace h : ∀ σ1 : gM, σ1 = gU σ 0 11 (nI 0) → (Q x1 σ1) := h
  refine v_aload_n hC 0 dX6_unfound_0 rfl ?_
  refine v_iconst hC (nI 0) dX6_unfound_1 rfl ?_
  refine pf_X6_351 hC dX6_unfound_2 (fun σ1 e1 => ?_)
  replace h := h σ1 e1
  refine v_iload_n hC 1 dX6_unfound_5 rfl ?_
  exact v_iret hC hR h dX6_unfound_6
theorem cmH_unfound : CM yX6_unfound cX6_unfound 2 (some .int) rmH_unfound 1 := ⟨kw75, kw393, rfl, rfl, by decide, by decide, by decide +kernel⟩
def rmH_found : Room := { frames := 0, cells := 0, slots := 0, locals := 0 }
def wH_found (x1 : Int32) (σ : gM) (Q : Int32 → gM → Prop) : Prop :=
    ∀ σ1 : gM, σ1 = gU σ 0 11 x1 → (Q ((-1000010 : Int32) - x1) σ1)
set_option maxHeartbeats 4000000 in
set_option maxRecDepth 100000 in
theorem kH_found (x1 : Int32) (σ : gM) (Q : Int32 → gM → Prop) (h : wH_found x1 σ Q) : CT yX6_found cX6_found 2 (some .int) rmH_found (fun G => [.ref (gad G 0), .int x1]) σ (gPi Q) := by
  refine c_enter (by decide) (fun _ => Nat.le_of_ble_eq_true rfl) (fun X hC hR => ?_)
  show V X 2 0 [(0, .ref (xad X 0)), (1, .int x1)] [] σ
  replace h : ∀ σ1 : gM, σ1 = gU σ 0 11 x1 → (Q ((-1000010 : Int32) - x1) σ1) := h
  refine v_aload_n hC 0 dX6_found_0 rfl ?_
  refine v_iload_n hC 1 dX6_found_1 rfl ?_
  refine pf_X6_351 hC dX6_found_2 (fun σ1 e1 => ?_)
  replace h := h σ1 e1
  refine v_ldcw hC kw382 dX6_found_5 ?_
  refine v_iload_n hC 1 dX6_found_8 rfl ?_
  refine v_isub hC dX6_found_9 ?_
  exact v_iret hC hR h dX6_found_10
theorem cmH_found : CM yX6_found cX6_found 2 (some .int) rmH_found 1 := ⟨kw75, kw381, rfl, rfl, by decide, by decide, by decide +kernel⟩
def rmH_row : Room := { frames := 2, cells := 0, slots := 0, locals := 45 }
def wH_row (x1 : Int32) (x2 : Int32) (x3 : Int32) (σ : gM) (Q : Int32 → gM → Prop) : Prop :=
    wH_isNoRow x1 σ (fun (r2 : Int32) (σ2 : gM) => (r2 = nI 0 → ((x2 < nI 0 → (Q (-1000001 : Int32) σ2)) ∧ (¬ (x2 < nI 0) → (((nI 2) < x2 → (Q (-1000001 : Int32) σ2)) ∧ (¬ ((nI 2) < x2) → ((x3 ≤ (nI 40) → ((nI 0 ≤ x3 → (vp_in x1 8 ∧ (wR_begin x1.toNatClampNeg x2 x3 σ2 (fun (σ10 : gM) => wH_unfound x3 σ10 (fun (r12 : Int32) (σ12 : gM) => Q r12 σ12))))) ∧ (¬ (nI 0 ≤ x3) → (wH_found (nI 4) σ2 (fun (r14 : Int32) (σ14 : gM) => Q r14 σ14))))) ∧ (¬ (x3 ≤ (nI 40)) → (Q (-1000001 : Int32) σ2)))))))) ∧ (¬ (r2 = nI 0) → (Q (-1000001 : Int32) σ2)))
set_option maxHeartbeats 4000000 in
set_option maxRecDepth 100000 in
theorem kH_row (x1 : Int32) (x2 : Int32) (x3 : Int32) (σ : gM) (Q : Int32 → gM → Prop) (h : wH_row x1 x2 x3 σ Q) : CT yX6_row cX6_row 4 (some .int) rmH_row (fun G => [.ref (gad G 0), .int x1, .int x2, .int x3]) σ (gPi Q) := by
  refine c_enter (by decide) (fun _ => Nat.le_of_ble_eq_true rfl) (fun X hC hR => ?_)
  show V X 4 0 [(0, .ref (xad X 0)), (1, .int x1), (2, .int x2), (3, .int x3)] [] σ
  replace h : wH_isNoRow x1 σ (fun (r2 : Int32) (σ2 : gM) => (r2 = nI 0 → ((x2 < nI 0 → (Q (-1000001 : Int32) σ2)) ∧ (¬ (x2 < nI 0) → (((nI 2) < x2 → (Q (-1000001 : Int32) σ2)) ∧ (¬ ((nI 2) < x2) → ((x3 ≤ (nI 40) → ((nI 0 ≤ x3 → (vp_in x1 8 ∧ (wR_begin x1.toNatClampNeg x2 x3 σ2 (fun (σ10 : gM) => wH_unfound x3 σ10 (fun (r12 : Int32) (σ12 : gM) => Q r12 σ12))))) ∧ (¬ (nI 0 ≤ x3) → (wH_found (nI 4) σ2 (fun (r14 : Int32) (σ14 : gM) => Q r14 σ14))))) ∧ (¬ (x3 ≤ (nI 40)) → (Q (-1000001 : Int32) σ2)))))))) ∧ (¬ (r2 = nI 0) → (Q (-1000001 : Int32) σ2))) := h
  refine v_aload_n hC 0 dX6_row_0 rfl ?_
  refine v_iload_n hC 1 dX6_row_1 rfl ?_
  refine v_callV hC (kH_isNoRow _ _ _ h) cmH_isNoRow ⟨kw375, kw0⟩ kw373 ⟨Nat.le_of_ble_eq_true rfl, Nat.le_of_ble_eq_true rfl⟩ (Nat.le_of_ble_eq_true rfl) rfl (ci := 6) (T := TX6) (N := 12) rfl (As := fun G => [.int x1]) (fun _ => rfl) (fun _ => rfl) (st := []) (Nat.le_of_ble_eq_true rfl) rfl dX6_row_2 (kk_i (fun r2 σ2 h => ?_))
  refine v_if_ne hC 23 dX6_row_5 (by decide) (fun c3 => ?_) (fun c3 => ?_)
  · replace h := h.2 c3
    refine v_ldc hC kw377 dX6_row_23 ?_
    exact v_iret hC hR h dX6_row_25
  · replace h := h.1 c3
    refine v_iload_n hC 2 dX6_row_8 rfl ?_
    refine v_if_lt hC 23 dX6_row_9 (by decide) (fun c4 => ?_) (fun c4 => ?_)
    · replace h := h.1 c4
      refine v_ldc hC kw377 dX6_row_23 ?_
      exact v_iret hC hR h dX6_row_25
    · replace h := h.2 c4
      refine v_iload_n hC 2 dX6_row_12 rfl ?_
      refine v_iconst hC (nI 2) dX6_row_13 rfl ?_
      refine v_icmp_gt hC 23 dX6_row_14 (by decide) (fun c5 => ?_) (fun c5 => ?_)
      · replace h := h.1 c5
        refine v_ldc hC kw377 dX6_row_23 ?_
        exact v_iret hC hR h dX6_row_25
      · replace h := h.2 c5
        refine v_iload_n hC 3 dX6_row_17 rfl ?_
        refine v_bipush hC (nI 40) dX6_row_18 rfl ?_
        refine v_icmp_le hC 26 dX6_row_20 (by decide) (fun c6 => ?_) (fun c6 => ?_)
        · replace h := h.1 c6
          refine v_iload_n hC 3 dX6_row_26 rfl ?_
          refine v_if_ge hC 36 dX6_row_27 (by decide) (fun c7 => ?_) (fun c7 => ?_)
          · replace h := h.1 c7
            refine v_aload_n hC 0 dX6_row_36 rfl ?_
            refine gf_X6_11 hC dX6_row_37 ?_
            refine v_iload_n hC 1 dX6_row_40 rfl ?_
            obtain ⟨hi8, h⟩ := h
            have hr8 := vin_lt hi8
            refine v_aald hC (Or.inl rfl) (o := 1) (Nat.le_of_ble_eq_true rfl) rfl hi8 dX6_row_41 ?_
            refine v_iload_n hC 2 dX6_row_42 rfl ?_
            refine v_iload_n hC 3 dX6_row_43 rfl ?_
            refine v_callV hC (kR_begin hr8 _ _ _ _ h) cmR_begin ⟨kw384, kw385⟩ kw383 ⟨Nat.le_of_ble_eq_true rfl, Nat.le_of_ble_eq_true rfl⟩ (row_lt hr8) (gSh_row _ hr8).1 (ci := 3) (T := TX3) (N := 4) rfl (As := fun G => [.int x2, .int x3]) (fun _ => rfl) (fun _ => rfl) (st := []) (Nat.le_of_ble_eq_true rfl) rfl dX6_row_44 (kk_v (fun σ10 h => ?_))
            refine v_aload_n hC 0 dX6_row_47 rfl ?_
            refine v_iload_n hC 3 dX6_row_48 rfl ?_
            refine v_callV hC (kH_unfound _ _ _ h) cmH_unfound ⟨kw392, kw2⟩ kw390 ⟨Nat.le_of_ble_eq_true rfl, Nat.le_of_ble_eq_true rfl⟩ (Nat.le_of_ble_eq_true rfl) rfl (ci := 6) (T := TX6) (N := 12) rfl (As := fun G => [.int x3]) (fun _ => rfl) (fun _ => rfl) (st := []) (Nat.le_of_ble_eq_true rfl) rfl dX6_row_49 (kk_i (fun r12 σ12 h => ?_))
            exact v_iret hC hR h dX6_row_52
          · replace h := h.2 c7
            refine v_aload_n hC 0 dX6_row_30 rfl ?_
            refine v_iconst hC (nI 4) dX6_row_31 rfl ?_
            refine v_callV hC (kH_found _ _ _ h) cmH_found ⟨kw380, kw1⟩ kw378 ⟨Nat.le_of_ble_eq_true rfl, Nat.le_of_ble_eq_true rfl⟩ (Nat.le_of_ble_eq_true rfl) rfl (ci := 6) (T := TX6) (N := 12) rfl (As := fun G => [.int (nI 4)]) (fun _ => rfl) (fun _ => rfl) (st := []) (Nat.le_of_ble_eq_true rfl) rfl dX6_row_32 (kk_i (fun r14 σ14 h => ?_))
            exact v_iret hC hR h dX6_row_35
        · replace h := h.2 c6
          refine v_ldc hC kw377 dX6_row_23 ?_
          exact v_iret hC hR h dX6_row_25
theorem cmH_row : CM yX6_row cX6_row 4 (some .int) rmH_row 3 := ⟨kw75, kw372, rfl, rfl, by decide, by decide, by decide +kernel⟩
def rmR_reaches : Room := { frames := 0, cells := 0, slots := 0, locals := 0 }
def wR_reaches (r : Nat) (x1 : Int32) (x2 : Int32) (σ : gM) (Q : Int32 → gM → Prop) : Prop :=
    ∀ v2 : Int32, v2 = (if x1 < nI 0 then (nI 0) else (if x2 < nI 0 then (nI 0) else (if (σ (2 + 2 * r) 3) < x1 then (nI 0) else (if ((σ (2 + 2 * r) 3) - x1) < x2 then (nI 0) else (nI 1))))) → ((v2 = nI 0 ∨ v2 = nI 1) ∧ Q v2 σ)
set_option maxHeartbeats 4000000 in
set_option maxRecDepth 100000 in
theorem kR_reaches {r : Nat} (hr : r < 8) (x1 : Int32) (x2 : Int32) (σ : gM) (Q : Int32 → gM → Prop) (h : wR_reaches r x1 x2 σ Q) : CT yX3_reaches cX3_reaches 3 (some .boolean) rmR_reaches (fun G => [.ref (gad G (2 + 2 * r)), .int x1, .int x2]) σ (gPi Q) := by
  refine c_enter (by decide) (fun _ => Nat.le_of_ble_eq_true rfl) (fun X hC hR => ?_)
  show V X 3 0 [(0, .ref (xad X (2 + 2 * r))), (1, .int x1), (2, .int x2)] [] σ
  replace h : ∀ v2 : Int32, v2 = (if x1 < nI 0 then (nI 0) else (if x2 < nI 0 then (nI 0) else (if (σ (2 + 2 * r) 3) < x1 then (nI 0) else (if ((σ (2 + 2 * r) 3) - x1) < x2 then (nI 0) else (nI 1))))) → ((v2 = nI 0 ∨ v2 = nI 1) ∧ Q v2 σ) := h
  refine v_iload_n hC 1 dX3_reaches_0 rfl ?_
  have J1 : ∀ (v2 : Int32) (ev2 : v2 = (if x1 < nI 0 then (nI 0) else (if x2 < nI 0 then (nI 0) else (if (σ (2 + 2 * r) 3) < x1 then (nI 0) else (if ((σ (2 + 2 * r) 3) - x1) < x2 then (nI 0) else (nI 1)))))), V X 3 31 [] [.int v2] σ := by
    intro v2 ev2
    replace h := h v2 ev2
    obtain ⟨hb, h⟩ := h
    exact v_zret hC hR (nar_bool hb) h dX3_reaches_31
  refine v_if_lt hC 30 dX3_reaches_1 (by decide) (fun c1 => ?_) (fun c1 => ?_)
  · refine v_iconst hC (nI 0) dX3_reaches_30 rfl ?_
    exact V.sub [] rfl (J1 _ (by rw [if_pos c1]))
  · refine v_iload_n hC 2 dX3_reaches_4 rfl ?_
    have J3 : V X 3 31 [] [.int (if x2 < nI 0 then (nI 0) else (if (σ (2 + 2 * r) 3) < x1 then (nI 0) else (if ((σ (2 + 2 * r) 3) - x1) < x2 then (nI 0) else (nI 1))))] σ := by
      exact V.sub [] rfl (J1 _ (by rw [if_neg c1]))
    refine v_if_lt hC 30 dX3_reaches_5 (by decide) (fun c3 => ?_) (fun c3 => ?_)
    · refine v_iconst hC (nI 0) dX3_reaches_30 rfl ?_
      rw [if_pos c3] at J3
      exact V.sub [] rfl J3
    · refine v_iload_n hC 1 dX3_reaches_8 rfl ?_
      refine v_aload_n hC 0 dX3_reaches_9 rfl ?_
      refine gf_X3_23 hC hr dX3_reaches_10 ?_
      have J4 : V X 3 31 [] [.int (if (σ (2 + 2 * r) 3) < x1 then (nI 0) else (if ((σ (2 + 2 * r) 3) - x1) < x2 then (nI 0) else (nI 1)))] σ := by
        rw [if_neg c3] at J3
        exact V.sub [] rfl J3
      refine v_icmp_gt hC 30 dX3_reaches_13 (by decide) (fun c4 => ?_) (fun c4 => ?_)
      · refine v_iconst hC (nI 0) dX3_reaches_30 rfl ?_
        rw [if_pos c4] at J4
        exact V.sub [] rfl J4
      · refine v_iload_n hC 2 dX3_reaches_16 rfl ?_
        refine v_aload_n hC 0 dX3_reaches_17 rfl ?_
        refine gf_X3_23 hC hr dX3_reaches_18 ?_
        refine v_iload_n hC 1 dX3_reaches_21 rfl ?_
        refine v_isub hC dX3_reaches_22 ?_
        have J5 : V X 3 31 [] [.int (if ((σ (2 + 2 * r) 3) - x1) < x2 then (nI 0) else (nI 1))] σ := by
          rw [if_neg c4] at J4
          exact V.sub [] rfl J4
        refine v_icmp_gt hC 30 dX3_reaches_23 (by decide) (fun c5 => ?_) (fun c5 => ?_)
        · refine v_iconst hC (nI 0) dX3_reaches_30 rfl ?_
          rw [if_pos c5] at J5
          exact V.sub [] rfl J5
        · refine v_iconst hC (nI 1) dX3_reaches_26 rfl ?_
          refine v_goto hC 31 dX3_reaches_27 (by decide) ?_
          rw [if_neg c5] at J5
          exact V.sub [] rfl J5
theorem cmR_reaches : CM yX3_reaches cX3_reaches 3 (some .boolean) rmR_reaches 2 := ⟨kw81, kw405, rfl, rfl, by decide, by decide, by decide +kernel⟩
def rmH_findingOf : Room := { frames := 1, cells := 0, slots := 0, locals := 22 }
def wH_findingOf (x1 : Int32) (x2 : Int32) (x3 : Int32) (σ : gM) (Q : Int32 → gM → Prop) : Prop :=
    vp_in x1 8 ∧ (((σ (2 + 2 * x1.toNatClampNeg) 1) = nI 0 → (Q (nI 1) σ)) ∧ (¬ ((σ (2 + 2 * x1.toNatClampNeg) 1) = nI 0) → (vp_in x1 8 ∧ (wR_reaches x1.toNatClampNeg x2 x3 σ (fun (r5 : Int32) (σ5 : gM) => ∀ v7 : Int32, v7 = (if r5 = nI 0 then (nI 2) else (nI 0)) → (Q v7 σ5))))))
set_option maxHeartbeats 4000000 in
set_option maxRecDepth 100000 in
theorem kH_findingOf (x1 : Int32) (x2 : Int32) (x3 : Int32) (σ : gM) (Q : Int32 → gM → Prop) (h : wH_findingOf x1 x2 x3 σ Q) : CT yX6_findingOf cX6_findingOf 4 (some .int) rmH_findingOf (fun G => [.ref (gad G 0), .int x1, .int x2, .int x3]) σ (gPi Q) := by
  refine c_enter (by decide) (fun _ => Nat.le_of_ble_eq_true rfl) (fun X hC hR => ?_)
  show V X 4 0 [(0, .ref (xad X 0)), (1, .int x1), (2, .int x2), (3, .int x3)] [] σ
  replace h : vp_in x1 8 ∧ (((σ (2 + 2 * x1.toNatClampNeg) 1) = nI 0 → (Q (nI 1) σ)) ∧ (¬ ((σ (2 + 2 * x1.toNatClampNeg) 1) = nI 0) → (vp_in x1 8 ∧ (wR_reaches x1.toNatClampNeg x2 x3 σ (fun (r5 : Int32) (σ5 : gM) => ∀ v7 : Int32, v7 = (if r5 = nI 0 then (nI 2) else (nI 0)) → (Q v7 σ5)))))) := h
  refine v_aload_n hC 0 dX6_findingOf_0 rfl ?_
  refine gf_X6_11 hC dX6_findingOf_1 ?_
  refine v_iload_n hC 1 dX6_findingOf_4 rfl ?_
  obtain ⟨hi1, h⟩ := h
  have hr1 := vin_lt hi1
  refine v_aald hC (Or.inl rfl) (o := 1) (Nat.le_of_ble_eq_true rfl) rfl hi1 dX6_findingOf_5 ?_
  refine gf_X6_86 hC hr1 dX6_findingOf_6 ?_
  refine v_if_ne hC 14 dX6_findingOf_9 (by decide) (fun c2 => ?_) (fun c2 => ?_)
  · replace h := h.2 c2
    refine v_aload_n hC 0 dX6_findingOf_14 rfl ?_
    refine gf_X6_11 hC dX6_findingOf_15 ?_
    refine v_iload_n hC 1 dX6_findingOf_18 rfl ?_
    obtain ⟨hi3, h⟩ := h
    have hr3 := vin_lt hi3
    refine v_aald hC (Or.inl rfl) (o := 1) (Nat.le_of_ble_eq_true rfl) rfl hi3 dX6_findingOf_19 ?_
    refine v_iload_n hC 2 dX6_findingOf_20 rfl ?_
    refine v_iload_n hC 3 dX6_findingOf_21 rfl ?_
    refine v_callV hC (kR_reaches hr3 _ _ _ _ h) cmR_reaches ⟨kw403, kw404⟩ kw402 ⟨Nat.le_of_ble_eq_true rfl, Nat.le_of_ble_eq_true rfl⟩ (row_lt hr3) (gSh_row _ hr3).1 (ci := 3) (T := TX3) (N := 4) rfl (As := fun G => [.int x2, .int x3]) (fun _ => rfl) (fun _ => rfl) (st := []) (Nat.le_of_ble_eq_true rfl) rfl dX6_findingOf_22 (kk_i (fun r5 σ5 h => ?_))
    have J6 : ∀ (v7 : Int32) (ev7 : v7 = (if r5 = nI 0 then (nI 2) else (nI 0))), V X 4 33 [] [.int v7] σ5 := by
      intro v7 ev7
      replace h := h v7 ev7
      exact v_iret hC hR h dX6_findingOf_33
    refine v_if_eq hC 32 dX6_findingOf_25 (by decide) (fun c6 => ?_) (fun c6 => ?_)
    · refine v_iconst hC (nI 2) dX6_findingOf_32 rfl ?_
      exact V.sub [] rfl (J6 _ (by rw [if_pos c6]))
    · refine v_iconst hC (nI 0) dX6_findingOf_28 rfl ?_
      refine v_goto hC 33 dX6_findingOf_29 (by decide) ?_
      exact V.sub [] rfl (J6 _ (by rw [if_neg c6]))
  · replace h := h.1 c2
    refine v_iconst hC (nI 1) dX6_findingOf_12 rfl ?_
    exact v_iret hC hR h dX6_findingOf_13
theorem cmH_findingOf : CM yX6_findingOf cX6_findingOf 4 (some .int) rmH_findingOf 3 := ⟨kw75, kw401, rfl, rfl, by decide, by decide, by decide +kernel⟩
def rmR_cutToLane : Room := { frames := 0, cells := 0, slots := 0, locals := 0 }
def wR_cutToLane (r : Nat) (x1 : Int32) (σ : gM) (Q : Int32 → gM → Prop) : Prop :=
    ((σ (2 + 2 * r) 2) = (nI 0) → (Q (x1.toInt8.toInt32) σ)) ∧ ((σ (2 + 2 * r) 2) = (nI 1) → (Q (x1.toInt16.toInt32) σ)) ∧ ((¬ (σ (2 + 2 * r) 2) = (nI 0) ∧ ¬ (σ (2 + 2 * r) 2) = (nI 1)) → (Q x1 σ))
set_option maxHeartbeats 4000000 in
set_option maxRecDepth 100000 in
theorem kR_cutToLane {r : Nat} (hr : r < 8) (x1 : Int32) (σ : gM) (Q : Int32 → gM → Prop) (h : wR_cutToLane r x1 σ Q) : CT yX3_cutToLane cX3_cutToLane 2 (some .int) rmR_cutToLane (fun G => [.ref (gad G (2 + 2 * r)), .int x1]) σ (gPi Q) := by
  refine c_enter (by decide) (fun _ => Nat.le_of_ble_eq_true rfl) (fun X hC hR => ?_)
  show V X 2 0 [(0, .ref (xad X (2 + 2 * r))), (1, .int x1)] [] σ
  replace h : ((σ (2 + 2 * r) 2) = (nI 0) → (Q (x1.toInt8.toInt32) σ)) ∧ ((σ (2 + 2 * r) 2) = (nI 1) → (Q (x1.toInt16.toInt32) σ)) ∧ ((¬ (σ (2 + 2 * r) 2) = (nI 0) ∧ ¬ (σ (2 + 2 * r) 2) = (nI 1)) → (Q x1 σ)) := h
  refine v_aload_n hC 0 dX3_cutToLane_0 rfl ?_
  refine gf_X3_19 hC hr dX3_cutToLane_1 ?_
  by_cases q1_0 : (σ (2 + 2 * r) 2) = (nI 0)
  · replace h := h.1 q1_0
    refine v_lookup hC 32 dX3_cutToLane_4 (by decide) (by rw [q1_0]; try decide) (by decide) ?_
    refine v_iload_n hC 1 dX3_cutToLane_32 rfl ?_
    refine v_i2b hC dX3_cutToLane_33 ?_
    exact v_iret hC hR h dX3_cutToLane_34
  · by_cases q1_1 : (σ (2 + 2 * r) 2) = (nI 1)
    · replace h := h.2.1 q1_1
      refine v_lookup hC 35 dX3_cutToLane_4 (by decide) (by rw [q1_1]; try decide) (by decide) ?_
      refine v_iload_n hC 1 dX3_cutToLane_35 rfl ?_
      refine v_i2s hC dX3_cutToLane_36 ?_
      exact v_iret hC hR h dX3_cutToLane_37
    · replace h := h.2.2 ⟨q1_0, q1_1⟩
      refine v_lookup hC 38 dX3_cutToLane_4 (by decide) (lk_out2 q1_0 q1_1) (by decide) ?_
      refine v_iload_n hC 1 dX3_cutToLane_38 rfl ?_
      exact v_iret hC hR h dX3_cutToLane_39
theorem cmR_cutToLane : CM yX3_cutToLane cX3_cutToLane 2 (some .int) rmR_cutToLane 1 := ⟨kw81, kw413, rfl, rfl, by decide, by decide, by decide +kernel⟩
def rmR_put : Room := { frames := 1, cells := 0, slots := 0, locals := 21 }
def wR_put (r : Nat) (x1 : Int32) (x2 : Int32) (σ : gM) (Q : Int32 → gM → Prop) : Prop :=
    wR_cutToLane r x2 σ (fun (r2 : Int32) (σ2 : gM) => vp_in x1 40 ∧ (∀ σ3 : gM, σ3 = gU σ2 (2 + 2 * r + 1) x1.toNatClampNeg r2 → (vp_in x1 40 ∧ (Q (σ3 (2 + 2 * r + 1) x1.toNatClampNeg) σ3))))
set_option maxHeartbeats 4000000 in
set_option maxRecDepth 100000 in
theorem kR_put {r : Nat} (hr : r < 8) (x1 : Int32) (x2 : Int32) (σ : gM) (Q : Int32 → gM → Prop) (h : wR_put r x1 x2 σ Q) : CT yX3_put cX3_put 3 (some .int) rmR_put (fun G => [.ref (gad G (2 + 2 * r)), .int x1, .int x2]) σ (gPi Q) := by
  refine c_enter (by decide) (fun _ => Nat.le_of_ble_eq_true rfl) (fun X hC hR => ?_)
  show V X 3 0 [(0, .ref (xad X (2 + 2 * r))), (1, .int x1), (2, .int x2)] [] σ
  replace h : wR_cutToLane r x2 σ (fun (r2 : Int32) (σ2 : gM) => vp_in x1 40 ∧ (∀ σ3 : gM, σ3 = gU σ2 (2 + 2 * r + 1) x1.toNatClampNeg r2 → (vp_in x1 40 ∧ (Q (σ3 (2 + 2 * r + 1) x1.toNatClampNeg) σ3)))) := h
  refine v_aload_n hC 0 dX3_put_0 rfl ?_
  refine gf_X3_9 hC hr dX3_put_1 ?_
  refine v_iload_n hC 1 dX3_put_4 rfl ?_
  refine v_aload_n hC 0 dX3_put_5 rfl ?_
  refine v_iload_n hC 2 dX3_put_6 rfl ?_
  refine v_callV hC (kR_cutToLane hr _ _ _ h) cmR_cutToLane ⟨kw412, kw4⟩ kw410 ⟨Nat.le_of_ble_eq_true rfl, Nat.le_of_ble_eq_true rfl⟩ (row_lt hr) (gSh_row _ hr).1 (ci := 3) (T := TX3) (N := 4) rfl (As := fun G => [.int x2]) (fun _ => rfl) (fun _ => rfl) (st := [.int x1, .ref (xad X (2 + 2 * r + 1))]) (Nat.le_of_ble_eq_true rfl) rfl dX3_put_7 (kk_i (fun r2 σ2 h => ?_))
  obtain ⟨hi3, h⟩ := h
  refine v_iast hC (rowi_lt hr) (gSh_row _ hr).2 rfl hi3 dX3_put_10 (fun σ3 e3 => ?_)
  replace h := h σ3 e3
  refine v_aload_n hC 0 dX3_put_11 rfl ?_
  refine gf_X3_9 hC hr dX3_put_12 ?_
  refine v_iload_n hC 1 dX3_put_15 rfl ?_
  obtain ⟨hi4, h⟩ := h
  refine v_iald hC (rowi_lt hr) (gSh_row _ hr).2 rfl hi4 dX3_put_16 ?_
  exact v_iret hC hR h dX3_put_17
theorem cmR_put : CM yX3_put cX3_put 3 (some .int) rmR_put 2 := ⟨kw81, kw409, rfl, rfl, by decide, by decide, by decide +kernel⟩
def rmH_set : Room := { frames := 2, cells := 0, slots := 0, locals := 45 }
def wH_set (x1 : Int32) (x2 : Int32) (x3 : Int32) (σ : gM) (Q : Int32 → gM → Prop) : Prop :=
    wH_isNoRow x1 σ (fun (r2 : Int32) (σ2 : gM) => (r2 = nI 0 → (wH_findingOf x1 x2 (nI 1) σ2 (fun (r5 : Int32) (σ5 : gM) => (r5 = nI 0 → (vp_in x1 8 ∧ (wR_put x1.toNatClampNeg x2 x3 σ5 (fun (r9 : Int32) (σ9 : gM) => wH_unfound r9 σ9 (fun (r11 : Int32) (σ11 : gM) => Q r11 σ11))))) ∧ (¬ (r5 = nI 0) → (wH_found r5 σ5 (fun (r13 : Int32) (σ13 : gM) => Q r13 σ13)))))) ∧ (¬ (r2 = nI 0) → (Q (-1000001 : Int32) σ2)))
set_option maxHeartbeats 4000000 in
set_option maxRecDepth 100000 in
theorem kH_set (x1 : Int32) (x2 : Int32) (x3 : Int32) (σ : gM) (Q : Int32 → gM → Prop) (h : wH_set x1 x2 x3 σ Q) : CT yX6_set cX6_set 5 (some .int) rmH_set (fun G => [.ref (gad G 0), .int x1, .int x2, .int x3]) σ (gPi Q) := by
  refine c_enter (by decide) (fun _ => Nat.le_of_ble_eq_true rfl) (fun X hC hR => ?_)
  show V X 5 0 [(0, .ref (xad X 0)), (1, .int x1), (2, .int x2), (3, .int x3)] [] σ
  replace h : wH_isNoRow x1 σ (fun (r2 : Int32) (σ2 : gM) => (r2 = nI 0 → (wH_findingOf x1 x2 (nI 1) σ2 (fun (r5 : Int32) (σ5 : gM) => (r5 = nI 0 → (vp_in x1 8 ∧ (wR_put x1.toNatClampNeg x2 x3 σ5 (fun (r9 : Int32) (σ9 : gM) => wH_unfound r9 σ9 (fun (r11 : Int32) (σ11 : gM) => Q r11 σ11))))) ∧ (¬ (r5 = nI 0) → (wH_found r5 σ5 (fun (r13 : Int32) (σ13 : gM) => Q r13 σ13)))))) ∧ (¬ (r2 = nI 0) → (Q (-1000001 : Int32) σ2))) := h
  refine v_aload_n hC 0 dX6_set_0 rfl ?_
  refine v_iload_n hC 1 dX6_set_1 rfl ?_
  refine v_callV hC (kH_isNoRow _ _ _ h) cmH_isNoRow ⟨kw375, kw0⟩ kw373 ⟨Nat.le_of_ble_eq_true rfl, Nat.le_of_ble_eq_true rfl⟩ (Nat.le_of_ble_eq_true rfl) rfl (ci := 6) (T := TX6) (N := 12) rfl (As := fun G => [.int x1]) (fun _ => rfl) (fun _ => rfl) (st := []) (Nat.le_of_ble_eq_true rfl) rfl dX6_set_2 (kk_i (fun r2 σ2 h => ?_))
  refine v_if_eq hC 11 dX6_set_5 (by decide) (fun c3 => ?_) (fun c3 => ?_)
  · replace h := h.1 c3
    refine v_aload_n hC 0 dX6_set_11 rfl ?_
    refine v_iload_n hC 1 dX6_set_12 rfl ?_
    refine v_iload_n hC 2 dX6_set_13 rfl ?_
    refine v_iconst hC (nI 1) dX6_set_14 rfl ?_
    refine v_callV hC (kH_findingOf _ _ _ _ _ h) cmH_findingOf ⟨kw400, kw3⟩ kw398 ⟨Nat.le_of_ble_eq_true rfl, Nat.le_of_ble_eq_true rfl⟩ (Nat.le_of_ble_eq_true rfl) rfl (ci := 6) (T := TX6) (N := 12) rfl (As := fun G => [.int x1, .int x2, .int (nI 1)]) (fun _ => rfl) (fun _ => rfl) (st := []) (Nat.le_of_ble_eq_true rfl) rfl dX6_set_15 (kk_i (fun r5 σ5 h => ?_))
    refine v_istore hC dX6_set_18 (by decide) rfl ?_
    refine v_iload hC 0 dX6_set_20 rfl ?_
    refine v_if_eq hC 32 dX6_set_22 (by decide) (fun c6 => ?_) (fun c6 => ?_)
    · replace h := h.1 c6
      refine v_aload_n hC 1 dX6_set_32 rfl ?_
      refine v_aload_n hC 1 dX6_set_33 rfl ?_
      refine gf_X6_11 hC dX6_set_34 ?_
      refine v_iload_n hC 2 dX6_set_37 rfl ?_
      obtain ⟨hi7, h⟩ := h
      have hr7 := vin_lt hi7
      refine v_aald hC (Or.inl rfl) (o := 1) (Nat.le_of_ble_eq_true rfl) rfl hi7 dX6_set_38 ?_
      refine v_iload_n hC 3 dX6_set_39 rfl ?_
      refine v_iload_n hC 4 dX6_set_40 rfl ?_
      refine v_callV hC (kR_put hr7 _ _ _ _ h) cmR_put ⟨kw407, kw408⟩ kw406 ⟨Nat.le_of_ble_eq_true rfl, Nat.le_of_ble_eq_true rfl⟩ (row_lt hr7) (gSh_row _ hr7).1 (ci := 3) (T := TX3) (N := 4) rfl (As := fun G => [.int x2, .int x3]) (fun _ => rfl) (fun _ => rfl) (st := [.ref (xad X 0)]) (Nat.le_of_ble_eq_true rfl) rfl dX6_set_41 (kk_i (fun r9 σ9 h => ?_))
      refine v_callV hC (kH_unfound _ _ _ h) cmH_unfound ⟨kw392, kw2⟩ kw390 ⟨Nat.le_of_ble_eq_true rfl, Nat.le_of_ble_eq_true rfl⟩ (Nat.le_of_ble_eq_true rfl) rfl (ci := 6) (T := TX6) (N := 12) rfl (As := fun G => [.int r9]) (fun _ => rfl) (fun _ => rfl) (st := []) (Nat.le_of_ble_eq_true rfl) rfl dX6_set_44 (kk_i (fun r11 σ11 h => ?_))
      exact v_iret hC hR h dX6_set_47
    · replace h := h.2 c6
      refine v_aload_n hC 1 dX6_set_25 rfl ?_
      refine v_iload hC 0 dX6_set_26 rfl ?_
      refine v_callV hC (kH_found _ _ _ h) cmH_found ⟨kw380, kw1⟩ kw378 ⟨Nat.le_of_ble_eq_true rfl, Nat.le_of_ble_eq_true rfl⟩ (Nat.le_of_ble_eq_true rfl) rfl (ci := 6) (T := TX6) (N := 12) rfl (As := fun G => [.int r5]) (fun _ => rfl) (fun _ => rfl) (st := []) (Nat.le_of_ble_eq_true rfl) rfl dX6_set_28 (kk_i (fun r13 σ13 h => ?_))
      exact v_iret hC hR h dX6_set_31
  · replace h := h.2 c3
    refine v_ldc hC kw377 dX6_set_8 ?_
    exact v_iret hC hR h dX6_set_10
theorem cmH_set : CM yX6_set cX6_set 5 (some .int) rmH_set 3 := ⟨kw75, kw397, rfl, rfl, by decide, by decide, by decide +kernel⟩
def rmH_copy : Room := { frames := 1, cells := 0, slots := 0, locals := 60 }
def wH_copy (x1 : Int32) (x2 : Int32) (x3 : Int32) (x4 : Int32) (x5 : Int32) (σ : gM) (Q : Int32 → gM → Prop) : Prop :=
    wH_isNoRow x1 σ (fun (r2 : Int32) (σ2 : gM) => (r2 = nI 0 → (wH_isNoRow x3 σ2 (fun (r5 : Int32) (σ5 : gM) => (r5 = nI 0 → (vp_in x1 8 ∧ (vp_in x3 8 ∧ (((σ5 (2 + 2 * x1.toNatClampNeg) 1) = nI 0 → (wH_found (nI 1) σ5 (fun (r11 : Int32) (σ11 : gM) => Q r11 σ11))) ∧ (¬ ((σ5 (2 + 2 * x1.toNatClampNeg) 1) = nI 0) → (((σ5 (2 + 2 * x3.toNatClampNeg) 1) = nI 0 → (wH_found (nI 1) σ5 (fun (r14 : Int32) (σ14 : gM) => Q r14 σ14))) ∧ (¬ ((σ5 (2 + 2 * x3.toNatClampNeg) 1) = nI 0) → (((σ5 (2 + 2 * x1.toNatClampNeg) 2) = (σ5 (2 + 2 * x3.toNatClampNeg) 2) → (wR_reaches x1.toNatClampNeg x2 x5 σ5 (fun (r17 : Int32) (σ17 : gM) => (r17 = nI 0 → (wH_found (nI 2) σ17 (fun (r20 : Int32) (σ20 : gM) => Q r20 σ20))) ∧ (¬ (r17 = nI 0) → (wR_reaches x3.toNatClampNeg x4 x5 σ17 (fun (r22 : Int32) (σ22 : gM) => (r22 = nI 0 → (wH_found (nI 2) σ22 (fun (r25 : Int32) (σ25 : gM) => Q r25 σ25))) ∧ (¬ (r22 = nI 0) → ((¬ x2 < nI 0 ∧ ¬ x4 < nI 0 ∧ ¬ x5 < nI 0 ∧ x2.toNatClampNeg + x5.toNatClampNeg ≤ 40 ∧ x4.toNatClampNeg + x5.toNatClampNeg ≤ 40) ∧ (∀ σ26 : gM, σ26 = gCp σ22 (2 + 2 * x1.toNatClampNeg + 1) x2.toNatClampNeg (2 + 2 * x3.toNatClampNeg + 1) x4.toNatClampNeg x5.toNatClampNeg → (wH_unfound x5 σ26 (fun (r28 : Int32) (σ28 : gM) => Q r28 σ28))))))))))) ∧ (¬ ((σ5 (2 + 2 * x1.toNatClampNeg) 2) = (σ5 (2 + 2 * x3.toNatClampNeg) 2)) → (wH_found (nI 5) σ5 (fun (r30 : Int32) (σ30 : gM) => Q r30 σ30))))))))))) ∧ (¬ (r5 = nI 0) → (Q (-1000001 : Int32) σ5))))) ∧ (¬ (r2 = nI 0) → (Q (-1000001 : Int32) σ2)))
set_option maxHeartbeats 4000000 in
set_option maxRecDepth 100000 in
theorem kH_copy (x1 : Int32) (x2 : Int32) (x3 : Int32) (x4 : Int32) (x5 : Int32) (σ : gM) (Q : Int32 → gM → Prop) (h : wH_copy x1 x2 x3 x4 x5 σ Q) : CT yX6_copy cX6_copy 8 (some .int) rmH_copy (fun G => [.ref (gad G 0), .int x1, .int x2, .int x3, .int x4, .int x5]) σ (gPi Q) := by
  refine c_enter (by decide) (fun _ => Nat.le_of_ble_eq_true rfl) (fun X hC hR => ?_)
  show V X 8 0 [(0, .ref (xad X 0)), (1, .int x1), (2, .int x2), (3, .int x3), (4, .int x4), (5, .int x5)] [] σ
  replace h : wH_isNoRow x1 σ (fun (r2 : Int32) (σ2 : gM) => (r2 = nI 0 → (wH_isNoRow x3 σ2 (fun (r5 : Int32) (σ5 : gM) => (r5 = nI 0 → (vp_in x1 8 ∧ (vp_in x3 8 ∧ (((σ5 (2 + 2 * x1.toNatClampNeg) 1) = nI 0 → (wH_found (nI 1) σ5 (fun (r11 : Int32) (σ11 : gM) => Q r11 σ11))) ∧ (¬ ((σ5 (2 + 2 * x1.toNatClampNeg) 1) = nI 0) → (((σ5 (2 + 2 * x3.toNatClampNeg) 1) = nI 0 → (wH_found (nI 1) σ5 (fun (r14 : Int32) (σ14 : gM) => Q r14 σ14))) ∧ (¬ ((σ5 (2 + 2 * x3.toNatClampNeg) 1) = nI 0) → (((σ5 (2 + 2 * x1.toNatClampNeg) 2) = (σ5 (2 + 2 * x3.toNatClampNeg) 2) → (wR_reaches x1.toNatClampNeg x2 x5 σ5 (fun (r17 : Int32) (σ17 : gM) => (r17 = nI 0 → (wH_found (nI 2) σ17 (fun (r20 : Int32) (σ20 : gM) => Q r20 σ20))) ∧ (¬ (r17 = nI 0) → (wR_reaches x3.toNatClampNeg x4 x5 σ17 (fun (r22 : Int32) (σ22 : gM) => (r22 = nI 0 → (wH_found (nI 2) σ22 (fun (r25 : Int32) (σ25 : gM) => Q r25 σ25))) ∧ (¬ (r22 = nI 0) → ((¬ x2 < nI 0 ∧ ¬ x4 < nI 0 ∧ ¬ x5 < nI 0 ∧ x2.toNatClampNeg + x5.toNatClampNeg ≤ 40 ∧ x4.toNatClampNeg + x5.toNatClampNeg ≤ 40) ∧ (∀ σ26 : gM, σ26 = gCp σ22 (2 + 2 * x1.toNatClampNeg + 1) x2.toNatClampNeg (2 + 2 * x3.toNatClampNeg + 1) x4.toNatClampNeg x5.toNatClampNeg → (wH_unfound x5 σ26 (fun (r28 : Int32) (σ28 : gM) => Q r28 σ28))))))))))) ∧ (¬ ((σ5 (2 + 2 * x1.toNatClampNeg) 2) = (σ5 (2 + 2 * x3.toNatClampNeg) 2)) → (wH_found (nI 5) σ5 (fun (r30 : Int32) (σ30 : gM) => Q r30 σ30))))))))))) ∧ (¬ (r5 = nI 0) → (Q (-1000001 : Int32) σ5))))) ∧ (¬ (r2 = nI 0) → (Q (-1000001 : Int32) σ2))) := h
  refine v_aload_n hC 0 dX6_copy_0 rfl ?_
  refine v_iload_n hC 1 dX6_copy_1 rfl ?_
  refine v_callV hC (kH_isNoRow _ _ _ h) cmH_isNoRow ⟨kw375, kw0⟩ kw373 ⟨Nat.le_of_ble_eq_true rfl, Nat.le_of_ble_eq_true rfl⟩ (Nat.le_of_ble_eq_true rfl) rfl (ci := 6) (T := TX6) (N := 12) rfl (As := fun G => [.int x1]) (fun _ => rfl) (fun _ => rfl) (st := []) (Nat.le_of_ble_eq_true rfl) rfl dX6_copy_2 (kk_i (fun r2 σ2 h => ?_))
  refine v_if_ne hC 16 dX6_copy_5 (by decide) (fun c3 => ?_) (fun c3 => ?_)
  · replace h := h.2 c3
    refine v_ldc hC kw377 dX6_copy_16 ?_
    exact v_iret hC hR h dX6_copy_18
  · replace h := h.1 c3
    refine v_aload_n hC 0 dX6_copy_8 rfl ?_
    refine v_iload_n hC 3 dX6_copy_9 rfl ?_
    refine v_callV hC (kH_isNoRow _ _ _ h) cmH_isNoRow ⟨kw375, kw0⟩ kw373 ⟨Nat.le_of_ble_eq_true rfl, Nat.le_of_ble_eq_true rfl⟩ (Nat.le_of_ble_eq_true rfl) rfl (ci := 6) (T := TX6) (N := 12) rfl (As := fun G => [.int x3]) (fun _ => rfl) (fun _ => rfl) (st := []) (Nat.le_of_ble_eq_true rfl) rfl dX6_copy_10 (kk_i (fun r5 σ5 h => ?_))
    refine v_if_eq hC 19 dX6_copy_13 (by decide) (fun c6 => ?_) (fun c6 => ?_)
    · replace h := h.1 c6
      refine v_aload_n hC 0 dX6_copy_19 rfl ?_
      refine gf_X6_11 hC dX6_copy_20 ?_
      refine v_iload_n hC 1 dX6_copy_23 rfl ?_
      obtain ⟨hi7, h⟩ := h
      have hr7 := vin_lt hi7
      refine v_aald hC (Or.inl rfl) (o := 1) (Nat.le_of_ble_eq_true rfl) rfl hi7 dX6_copy_24 ?_
      refine v_astore hC dX6_copy_25 (by decide) rfl ?_
      refine v_aload_n hC 1 dX6_copy_27 rfl ?_
      refine gf_X6_11 hC dX6_copy_28 ?_
      refine v_iload_n hC 4 dX6_copy_31 rfl ?_
      obtain ⟨hi8, h⟩ := h
      have hr8 := vin_lt hi8
      refine v_aald hC (Or.inl rfl) (o := 1) (Nat.le_of_ble_eq_true rfl) rfl hi8 dX6_copy_32 ?_
      refine v_astore hC dX6_copy_33 (by decide) rfl ?_
      refine v_aload hC 1 dX6_copy_35 rfl ?_
      refine gf_X6_86 hC hr7 dX6_copy_37 ?_
      refine v_if_eq hC 51 dX6_copy_40 (by decide) (fun c9 => ?_) (fun c9 => ?_)
      · replace h := h.1 c9
        refine v_aload_n hC 2 dX6_copy_51 rfl ?_
        refine v_iconst hC (nI 1) dX6_copy_52 rfl ?_
        refine v_callV hC (kH_found _ _ _ h) cmH_found ⟨kw380, kw1⟩ kw378 ⟨Nat.le_of_ble_eq_true rfl, Nat.le_of_ble_eq_true rfl⟩ (Nat.le_of_ble_eq_true rfl) rfl (ci := 6) (T := TX6) (N := 12) rfl (As := fun G => [.int (nI 1)]) (fun _ => rfl) (fun _ => rfl) (st := []) (Nat.le_of_ble_eq_true rfl) rfl dX6_copy_53 (kk_i (fun r11 σ11 h => ?_))
        exact v_iret hC hR h dX6_copy_56
      · replace h := h.2 c9
        refine v_aload hC 0 dX6_copy_43 rfl ?_
        refine gf_X6_86 hC hr8 dX6_copy_45 ?_
        refine v_if_ne hC 57 dX6_copy_48 (by decide) (fun c12 => ?_) (fun c12 => ?_)
        · replace h := h.2 c12
          refine v_aload hC 1 dX6_copy_57 rfl ?_
          refine gf_X6_90 hC hr7 dX6_copy_59 ?_
          refine v_aload hC 0 dX6_copy_62 rfl ?_
          refine gf_X6_90 hC hr8 dX6_copy_64 ?_
          refine v_icmp_eq hC 76 dX6_copy_67 (by decide) (fun c15 => ?_) (fun c15 => ?_)
          · replace h := h.1 c15
            refine v_aload hC 1 dX6_copy_76 rfl ?_
            refine v_iload_n hC 4 dX6_copy_78 rfl ?_
            refine v_iload hC 7 dX6_copy_79 rfl ?_
            refine v_callV hC (kR_reaches hr7 _ _ _ _ h) cmR_reaches ⟨kw403, kw404⟩ kw402 ⟨Nat.le_of_ble_eq_true rfl, Nat.le_of_ble_eq_true rfl⟩ (row_lt hr7) (gSh_row _ hr7).1 (ci := 3) (T := TX3) (N := 4) rfl (As := fun G => [.int x2, .int x5]) (fun _ => rfl) (fun _ => rfl) (st := []) (Nat.le_of_ble_eq_true rfl) rfl dX6_copy_81 (kk_i (fun r17 σ17 h => ?_))
            refine v_if_eq hC 99 dX6_copy_84 (by decide) (fun c18 => ?_) (fun c18 => ?_)
            · replace h := h.1 c18
              refine v_aload_n hC 2 dX6_copy_99 rfl ?_
              refine v_iconst hC (nI 2) dX6_copy_100 rfl ?_
              refine v_callV hC (kH_found _ _ _ h) cmH_found ⟨kw380, kw1⟩ kw378 ⟨Nat.le_of_ble_eq_true rfl, Nat.le_of_ble_eq_true rfl⟩ (Nat.le_of_ble_eq_true rfl) rfl (ci := 6) (T := TX6) (N := 12) rfl (As := fun G => [.int (nI 2)]) (fun _ => rfl) (fun _ => rfl) (st := []) (Nat.le_of_ble_eq_true rfl) rfl dX6_copy_101 (kk_i (fun r20 σ20 h => ?_))
              exact v_iret hC hR h dX6_copy_104
            · replace h := h.2 c18
              refine v_aload hC 0 dX6_copy_87 rfl ?_
              refine v_iload hC 6 dX6_copy_89 rfl ?_
              refine v_iload hC 7 dX6_copy_91 rfl ?_
              refine v_callV hC (kR_reaches hr8 _ _ _ _ h) cmR_reaches ⟨kw403, kw404⟩ kw402 ⟨Nat.le_of_ble_eq_true rfl, Nat.le_of_ble_eq_true rfl⟩ (row_lt hr8) (gSh_row _ hr8).1 (ci := 3) (T := TX3) (N := 4) rfl (As := fun G => [.int x4, .int x5]) (fun _ => rfl) (fun _ => rfl) (st := []) (Nat.le_of_ble_eq_true rfl) rfl dX6_copy_93 (kk_i (fun r22 σ22 h => ?_))
              refine v_if_ne hC 105 dX6_copy_96 (by decide) (fun c23 => ?_) (fun c23 => ?_)
              · replace h := h.2 c23
                refine v_aload hC 1 dX6_copy_105 rfl ?_
                refine gf_X6_98 hC hr7 dX6_copy_107 ?_
                refine v_iload_n hC 4 dX6_copy_110 rfl ?_
                refine v_aload hC 0 dX6_copy_111 rfl ?_
                refine gf_X6_98 hC hr8 dX6_copy_113 ?_
                refine v_iload hC 6 dX6_copy_116 rfl ?_
                refine v_iload hC 7 dX6_copy_118 rfl ?_
                obtain ⟨hk26, h⟩ := h
                refine v_copy hC (rowi_lt hr7) (rowi_lt hr8) (gSh_row _ hr7).2 (gSh_row _ hr8).2 kw418 kw420 kw419 kw84 hk26.1 hk26.2.1 hk26.2.2.1 hk26.2.2.2.1 hk26.2.2.2.2 (Nat.le_of_ble_eq_true rfl) (by decide) dX6_copy_120 (fun σ26 e26 => ?_)
                replace h := h σ26 e26
                refine v_aload_n hC 2 dX6_copy_123 rfl ?_
                refine v_iload hC 7 dX6_copy_124 rfl ?_
                refine v_callV hC (kH_unfound _ _ _ h) cmH_unfound ⟨kw392, kw2⟩ kw390 ⟨Nat.le_of_ble_eq_true rfl, Nat.le_of_ble_eq_true rfl⟩ (Nat.le_of_ble_eq_true rfl) rfl (ci := 6) (T := TX6) (N := 12) rfl (As := fun G => [.int x5]) (fun _ => rfl) (fun _ => rfl) (st := []) (Nat.le_of_ble_eq_true rfl) rfl dX6_copy_126 (kk_i (fun r28 σ28 h => ?_))
                exact v_iret hC hR h dX6_copy_129
              · replace h := h.1 c23
                refine v_aload_n hC 2 dX6_copy_99 rfl ?_
                refine v_iconst hC (nI 2) dX6_copy_100 rfl ?_
                refine v_callV hC (kH_found _ _ _ h) cmH_found ⟨kw380, kw1⟩ kw378 ⟨Nat.le_of_ble_eq_true rfl, Nat.le_of_ble_eq_true rfl⟩ (Nat.le_of_ble_eq_true rfl) rfl (ci := 6) (T := TX6) (N := 12) rfl (As := fun G => [.int (nI 2)]) (fun _ => rfl) (fun _ => rfl) (st := []) (Nat.le_of_ble_eq_true rfl) rfl dX6_copy_101 (kk_i (fun r25 σ25 h => ?_))
                exact v_iret hC hR h dX6_copy_104
          · replace h := h.2 c15
            refine v_aload_n hC 2 dX6_copy_70 rfl ?_
            refine v_iconst hC (nI 5) dX6_copy_71 rfl ?_
            refine v_callV hC (kH_found _ _ _ h) cmH_found ⟨kw380, kw1⟩ kw378 ⟨Nat.le_of_ble_eq_true rfl, Nat.le_of_ble_eq_true rfl⟩ (Nat.le_of_ble_eq_true rfl) rfl (ci := 6) (T := TX6) (N := 12) rfl (As := fun G => [.int (nI 5)]) (fun _ => rfl) (fun _ => rfl) (st := []) (Nat.le_of_ble_eq_true rfl) rfl dX6_copy_72 (kk_i (fun r30 σ30 h => ?_))
            exact v_iret hC hR h dX6_copy_75
        · replace h := h.1 c12
          refine v_aload_n hC 2 dX6_copy_51 rfl ?_
          refine v_iconst hC (nI 1) dX6_copy_52 rfl ?_
          refine v_callV hC (kH_found _ _ _ h) cmH_found ⟨kw380, kw1⟩ kw378 ⟨Nat.le_of_ble_eq_true rfl, Nat.le_of_ble_eq_true rfl⟩ (Nat.le_of_ble_eq_true rfl) rfl (ci := 6) (T := TX6) (N := 12) rfl (As := fun G => [.int (nI 1)]) (fun _ => rfl) (fun _ => rfl) (st := []) (Nat.le_of_ble_eq_true rfl) rfl dX6_copy_53 (kk_i (fun r14 σ14 h => ?_))
          exact v_iret hC hR h dX6_copy_56
    · replace h := h.2 c6
      refine v_ldc hC kw377 dX6_copy_16 ?_
      exact v_iret hC hR h dX6_copy_18
theorem cmH_copy : CM yX6_copy cX6_copy 8 (some .int) rmH_copy 5 := ⟨kw75, kw417, rfl, rfl, by decide, by decide, by decide +kernel⟩
def rmH_drop : Room := { frames := 1, cells := 0, slots := 0, locals := 21 }
def wH_drop (x1 : Int32) (σ : gM) (Q : Int32 → gM → Prop) : Prop :=
    wH_isNoRow x1 σ (fun (r2 : Int32) (σ2 : gM) => (r2 = nI 0 → (vp_in x1 8 ∧ (((σ2 (2 + 2 * x1.toNatClampNeg) 1) = nI 0 → (wH_found (nI 1) σ2 (fun (r7 : Int32) (σ7 : gM) => Q r7 σ7))) ∧ (¬ ((σ2 (2 + 2 * x1.toNatClampNeg) 1) = nI 0) → (vp_in x1 8 ∧ (∀ σ9 : gM, σ9 = gU σ2 (2 + 2 * x1.toNatClampNeg) 1 (nI 0) → (vp_in x1 8 ∧ (wH_unfound (σ9 (2 + 2 * x1.toNatClampNeg) 3) σ9 (fun (r12 : Int32) (σ12 : gM) => Q r12 σ12))))))))) ∧ (¬ (r2 = nI 0) → (Q (-1000001 : Int32) σ2)))
set_option maxHeartbeats 4000000 in
set_option maxRecDepth 100000 in
theorem kH_drop (x1 : Int32) (σ : gM) (Q : Int32 → gM → Prop) (h : wH_drop x1 σ Q) : CT yX6_drop cX6_drop 2 (some .int) rmH_drop (fun G => [.ref (gad G 0), .int x1]) σ (gPi Q) := by
  refine c_enter (by decide) (fun _ => Nat.le_of_ble_eq_true rfl) (fun X hC hR => ?_)
  show V X 2 0 [(0, .ref (xad X 0)), (1, .int x1)] [] σ
  replace h : wH_isNoRow x1 σ (fun (r2 : Int32) (σ2 : gM) => (r2 = nI 0 → (vp_in x1 8 ∧ (((σ2 (2 + 2 * x1.toNatClampNeg) 1) = nI 0 → (wH_found (nI 1) σ2 (fun (r7 : Int32) (σ7 : gM) => Q r7 σ7))) ∧ (¬ ((σ2 (2 + 2 * x1.toNatClampNeg) 1) = nI 0) → (vp_in x1 8 ∧ (∀ σ9 : gM, σ9 = gU σ2 (2 + 2 * x1.toNatClampNeg) 1 (nI 0) → (vp_in x1 8 ∧ (wH_unfound (σ9 (2 + 2 * x1.toNatClampNeg) 3) σ9 (fun (r12 : Int32) (σ12 : gM) => Q r12 σ12))))))))) ∧ (¬ (r2 = nI 0) → (Q (-1000001 : Int32) σ2))) := h
  refine v_aload_n hC 0 dX6_drop_0 rfl ?_
  refine v_iload_n hC 1 dX6_drop_1 rfl ?_
  refine v_callV hC (kH_isNoRow _ _ _ h) cmH_isNoRow ⟨kw375, kw0⟩ kw373 ⟨Nat.le_of_ble_eq_true rfl, Nat.le_of_ble_eq_true rfl⟩ (Nat.le_of_ble_eq_true rfl) rfl (ci := 6) (T := TX6) (N := 12) rfl (As := fun G => [.int x1]) (fun _ => rfl) (fun _ => rfl) (st := []) (Nat.le_of_ble_eq_true rfl) rfl dX6_drop_2 (kk_i (fun r2 σ2 h => ?_))
  refine v_if_eq hC 11 dX6_drop_5 (by decide) (fun c3 => ?_) (fun c3 => ?_)
  · replace h := h.1 c3
    refine v_aload_n hC 0 dX6_drop_11 rfl ?_
    refine gf_X6_11 hC dX6_drop_12 ?_
    refine v_iload_n hC 1 dX6_drop_15 rfl ?_
    obtain ⟨hi4, h⟩ := h
    have hr4 := vin_lt hi4
    refine v_aald hC (Or.inl rfl) (o := 1) (Nat.le_of_ble_eq_true rfl) rfl hi4 dX6_drop_16 ?_
    refine gf_X6_86 hC hr4 dX6_drop_17 ?_
    refine v_if_ne hC 29 dX6_drop_20 (by decide) (fun c5 => ?_) (fun c5 => ?_)
    · replace h := h.2 c5
      refine v_aload_n hC 0 dX6_drop_29 rfl ?_
      refine gf_X6_11 hC dX6_drop_30 ?_
      refine v_iload_n hC 1 dX6_drop_33 rfl ?_
      obtain ⟨hi8, h⟩ := h
      have hr8 := vin_lt hi8
      refine v_aald hC (Or.inl rfl) (o := 1) (Nat.le_of_ble_eq_true rfl) rfl hi8 dX6_drop_34 ?_
      refine v_iconst hC (nI 0) dX6_drop_35 rfl ?_
      refine pf_X6_86 hC hr8 (Or.inl rfl) dX6_drop_36 (fun σ9 e9 => ?_)
      replace h := h σ9 e9
      refine v_aload_n hC 0 dX6_drop_39 rfl ?_
      refine v_aload_n hC 0 dX6_drop_40 rfl ?_
      refine gf_X6_11 hC dX6_drop_41 ?_
      refine v_iload_n hC 1 dX6_drop_44 rfl ?_
      obtain ⟨hi10, h⟩ := h
      have hr10 := vin_lt hi10
      refine v_aald hC (Or.inl rfl) (o := 1) (Nat.le_of_ble_eq_true rfl) rfl hi10 dX6_drop_45 ?_
      refine gf_X6_107 hC hr10 dX6_drop_46 ?_
      refine v_callV hC (kH_unfound _ _ _ h) cmH_unfound ⟨kw392, kw2⟩ kw390 ⟨Nat.le_of_ble_eq_true rfl, Nat.le_of_ble_eq_true rfl⟩ (Nat.le_of_ble_eq_true rfl) rfl (ci := 6) (T := TX6) (N := 12) rfl (As := fun G => [.int (σ9 (2 + 2 * x1.toNatClampNeg) 3)]) (fun _ => rfl) (fun _ => rfl) (st := []) (Nat.le_of_ble_eq_true rfl) rfl dX6_drop_49 (kk_i (fun r12 σ12 h => ?_))
      exact v_iret hC hR h dX6_drop_52
    · replace h := h.1 c5
      refine v_aload_n hC 0 dX6_drop_23 rfl ?_
      refine v_iconst hC (nI 1) dX6_drop_24 rfl ?_
      refine v_callV hC (kH_found _ _ _ h) cmH_found ⟨kw380, kw1⟩ kw378 ⟨Nat.le_of_ble_eq_true rfl, Nat.le_of_ble_eq_true rfl⟩ (Nat.le_of_ble_eq_true rfl) rfl (ci := 6) (T := TX6) (N := 12) rfl (As := fun G => [.int (nI 1)]) (fun _ => rfl) (fun _ => rfl) (st := []) (Nat.le_of_ble_eq_true rfl) rfl dX6_drop_25 (kk_i (fun r7 σ7 h => ?_))
      exact v_iret hC hR h dX6_drop_28
  · replace h := h.2 c3
    refine v_ldc hC kw377 dX6_drop_8 ?_
    exact v_iret hC hR h dX6_drop_10
theorem cmH_drop : CM yX6_drop cX6_drop 2 (some .int) rmH_drop 1 := ⟨kw75, kw424, rfl, rfl, by decide, by decide, by decide +kernel⟩
def rmT_append : Room := { frames := 0, cells := 0, slots := 0, locals := 0 }
def wT_append (x1 : Int32) (σ : gM) (Q : gM → Prop) : Prop :=
    ((nI 400) ≤ (σ 18 0) → (Q σ)) ∧ (¬ ((nI 400) ≤ (σ 18 0)) → (vp_in (σ 18 0) 400 ∧ (∀ σ2 : gM, σ2 = gU σ 19 (σ 18 0).toNatClampNeg x1 → (∀ σ3 : gM, σ3 = gU σ2 18 0 ((σ2 18 0) + (nI 1)) → (Q σ3)))))
set_option maxHeartbeats 4000000 in
set_option maxRecDepth 100000 in
theorem kT_append (x1 : Int32) (σ : gM) (Q : gM → Prop) (h : wT_append x1 σ Q) : CT yX5_append cX5_append 2 none rmT_append (fun G => [.ref (gad G 18), .int x1]) σ (gPv Q) := by
  refine c_enter (by decide) (fun _ => Nat.le_of_ble_eq_true rfl) (fun X hC hR => ?_)
  show V X 2 0 [(0, .ref (xad X 18)), (1, .int x1)] [] σ
  replace h : ((nI 400) ≤ (σ 18 0) → (Q σ)) ∧ (¬ ((nI 400) ≤ (σ 18 0)) → (vp_in (σ 18 0) 400 ∧ (∀ σ2 : gM, σ2 = gU σ 19 (σ 18 0).toNatClampNeg x1 → (∀ σ3 : gM, σ3 = gU σ2 18 0 ((σ2 18 0) + (nI 1)) → (Q σ3))))) := h
  refine v_aload_n hC 0 dX5_append_0 rfl ?_
  refine gf_X5_15 hC dX5_append_1 ?_
  refine v_sipush hC (nI 400) dX5_append_4 rfl ?_
  refine v_icmp_ge hC 30 dX5_append_7 (by decide) (fun c1 => ?_) (fun c1 => ?_)
  · replace h := h.1 c1
    exact v_vret hC hR h dX5_append_30
  · replace h := h.2 c1
    refine v_aload_n hC 0 dX5_append_10 rfl ?_
    refine gf_X5_9 hC dX5_append_11 ?_
    refine v_aload_n hC 0 dX5_append_14 rfl ?_
    refine gf_X5_15 hC dX5_append_15 ?_
    refine v_iload_n hC 1 dX5_append_18 rfl ?_
    obtain ⟨hi2, h⟩ := h
    refine v_iast hC (Nat.le_of_ble_eq_true rfl) rfl rfl hi2 dX5_append_19 (fun σ2 e2 => ?_)
    replace h := h σ2 e2
    refine v_aload_n hC 0 dX5_append_20 rfl ?_
    refine v_dup hC dX5_append_21 rfl ?_
    refine gf_X5_15 hC dX5_append_22 ?_
    refine v_iconst hC (nI 1) dX5_append_25 rfl ?_
    refine v_iadd hC dX5_append_26 ?_
    refine pf_X5_15 hC dX5_append_27 (fun σ3 e3 => ?_)
    replace h := h σ3 e3
    exact v_vret hC hR h dX5_append_30
theorem cmT_append : CM yX5_append cX5_append 2 none rmT_append 1 := ⟨kw76, kw433, rfl, rfl, by decide, by decide, by decide +kernel⟩
def rmH_feed : Room := { frames := 1, cells := 0, slots := 0, locals := 21 }
def wH_feed_l37 (Q : Int32 → gM → Prop)  : Nat → Int64 → Int32 → gM → Prop
  | 0, _, _, _ => False
  | n + 1, x1, x4, σ =>
    (x4 < nI 0 → (Q (σ 18 0) σ)) ∧ (¬ (x4 < nI 0) → (wT_append (((x1 >>> (((nI 8) * x4).toInt64 &&& 63)).toInt32) &&& (nI 255)) σ (fun (σ7 : gM) => ∀ x4_8 : Int32, x4_8 = x4 + (-1 : Int32) → (wH_feed_l37 Q n x1 x4_8 σ7))))
def wH_feed (x1 : Int64) (x3 : Int32) (σ : gM) (Q : Int32 → gM → Prop) : Prop :=
    (x3 < (nI 1) → (Q (-1000001 : Int32) σ)) ∧ (¬ (x3 < (nI 1)) → ((x3 ≤ (nI 8) → ((((σ 18 0) + x3) ≤ (nI 400) → (∀ x4_4 : Int32, x4_4 = (x3 - (nI 1)) → (∃ n9 : Nat, wH_feed_l37 Q n9 x1 x4_4 σ))) ∧ (¬ (((σ 18 0) + x3) ≤ (nI 400)) → (Q (-1000003 : Int32) σ)))) ∧ (¬ (x3 ≤ (nI 8)) → (Q (-1000001 : Int32) σ))))
set_option maxHeartbeats 4000000 in
set_option maxRecDepth 100000 in
theorem tH_feed_l37 {X : gX} {Q : Int32 → gM → Prop} (hC : VC X cX6_feed RX6 5 rmH_feed) (hR : VR X (some .int) (gPi Q))  : ∀ (n : Nat) (x1 : Int64) (x4 : Int32) (σ : gM), wH_feed_l37 Q  n x1 x4 σ → V X 5 37 [(0, .ref (xad X 0)), (1, .long x1), (4, .int x4)] [] σ := by
  intro n
  induction n with
  | zero => intro x1 x4 σ h; exact h.elim
  | succ n ih =>
    intro x1 x4 σ h
    replace h : (x4 < nI 0 → (Q (σ 18 0) σ)) ∧ (¬ (x4 < nI 0) → (wT_append (((x1 >>> (((nI 8) * x4).toInt64 &&& 63)).toInt32) &&& (nI 255)) σ (fun (σ7 : gM) => ∀ x4_8 : Int32, x4_8 = x4 + (-1 : Int32) → (wH_feed_l37 Q n x1 x4_8 σ7)))) := h
    refine v_iload hC 2 dX6_feed_37 rfl ?_
    refine v_if_lt hC 67 dX6_feed_39 (by decide) (fun c5 => ?_) (fun c5 => ?_)
    · replace h := h.1 c5
      refine v_aload_n hC 0 dX6_feed_67 rfl ?_
      refine gf_X6_18 hC dX6_feed_68 ?_
      refine gf_X6_110 hC dX6_feed_71 ?_
      exact v_iret hC hR h dX6_feed_74
    · replace h := h.2 c5
      refine v_aload_n hC 0 dX6_feed_42 rfl ?_
      refine gf_X6_18 hC dX6_feed_43 ?_
      refine v_lload_n hC 1 dX6_feed_46 rfl ?_
      refine v_bipush hC (nI 8) dX6_feed_47 rfl ?_
      refine v_iload hC 2 dX6_feed_49 rfl ?_
      refine v_imul hC dX6_feed_51 ?_
      refine v_lshr hC dX6_feed_52 ?_
      refine v_l2i hC dX6_feed_53 ?_
      refine v_sipush hC (nI 255) dX6_feed_54 rfl ?_
      refine v_iand hC dX6_feed_57 ?_
      refine v_callV hC (kT_append _ _ _ h) cmT_append ⟨kw431, kw432⟩ kw430 ⟨Nat.le_of_ble_eq_true rfl, Nat.le_of_ble_eq_true rfl⟩ (Nat.le_of_ble_eq_true rfl) rfl (ci := 5) (T := TX5) (N := 8) rfl (As := fun G => [.int (((x1 >>> (((nI 8) * x4).toInt64 &&& 63)).toInt32) &&& (nI 255))]) (fun _ => rfl) (fun _ => rfl) (st := []) (Nat.le_of_ble_eq_true rfl) rfl dX6_feed_58 (kk_v (fun σ7 h => ?_))
      refine v_iincN hC (-1 : Int32) 2 dX6_feed_61 rfl rfl (by decide) (lo2 := fun x4_8 => [(4, .int x4_8), (0, .ref (xad X 0)), (1, .long x1)]) (fun _ => rfl) (fun x4_8 e8 => ?_)
      replace h := h x4_8 e8
      refine v_goto hC 37 dX6_feed_64 (by decide) ?_
      exact V.sub [1, 2, 0] rfl (ih _ _ _ h)
set_option maxHeartbeats 4000000 in
set_option maxRecDepth 100000 in
theorem kH_feed (x1 : Int64) (x3 : Int32) (σ : gM) (Q : Int32 → gM → Prop) (h : wH_feed x1 x3 σ Q) : CT yX6_feed cX6_feed 5 (some .int) rmH_feed (fun G => [.ref (gad G 0), .long x1, .int x3]) σ (gPi Q) := by
  refine c_enter (by decide) (fun _ => Nat.le_of_ble_eq_true rfl) (fun X hC hR => ?_)
  show V X 5 0 [(0, .ref (xad X 0)), (1, .long x1), (3, .int x3)] [] σ
  replace h : (x3 < (nI 1) → (Q (-1000001 : Int32) σ)) ∧ (¬ (x3 < (nI 1)) → ((x3 ≤ (nI 8) → ((((σ 18 0) + x3) ≤ (nI 400) → (∀ x4_4 : Int32, x4_4 = (x3 - (nI 1)) → (∃ n9 : Nat, wH_feed_l37 Q n9 x1 x4_4 σ))) ∧ (¬ (((σ 18 0) + x3) ≤ (nI 400)) → (Q (-1000003 : Int32) σ)))) ∧ (¬ (x3 ≤ (nI 8)) → (Q (-1000001 : Int32) σ)))) := h
  refine v_iload_n hC 2 dX6_feed_0 rfl ?_
  refine v_iconst hC (nI 1) dX6_feed_1 rfl ?_
  refine v_icmp_lt hC 11 dX6_feed_2 (by decide) (fun c1 => ?_) (fun c1 => ?_)
  · replace h := h.1 c1
    refine v_ldc hC kw377 dX6_feed_11 ?_
    exact v_iret hC hR h dX6_feed_13
  · replace h := h.2 c1
    refine v_iload_n hC 2 dX6_feed_5 rfl ?_
    refine v_bipush hC (nI 8) dX6_feed_6 rfl ?_
    refine v_icmp_le hC 14 dX6_feed_8 (by decide) (fun c2 => ?_) (fun c2 => ?_)
    · replace h := h.1 c2
      refine v_aload_n hC 0 dX6_feed_14 rfl ?_
      refine gf_X6_18 hC dX6_feed_15 ?_
      refine gf_X6_110 hC dX6_feed_18 ?_
      refine v_iload_n hC 2 dX6_feed_21 rfl ?_
      refine v_iadd hC dX6_feed_22 ?_
      refine v_sipush hC (nI 400) dX6_feed_23 rfl ?_
      refine v_icmp_le hC 32 dX6_feed_26 (by decide) (fun c3 => ?_) (fun c3 => ?_)
      · replace h := h.1 c3
        refine v_iload_n hC 2 dX6_feed_32 rfl ?_
        refine v_iconst hC (nI 1) dX6_feed_33 rfl ?_
        refine v_isub hC dX6_feed_34 ?_
        refine v_istoreN hC dX6_feed_35 (by decide) (lo2 := fun x4_4 => [(4, .int x4_4), (0, .ref (xad X 0)), (1, .long x1), (3, .int x3)]) (fun _ => rfl) (fun x4_4 e4 => ?_)
        replace h := h x4_4 e4
        obtain ⟨n9, h⟩ := h
        exact V.sub [1, 2, 0] rfl (tH_feed_l37 hC hR  n9 _ _ _ h)
      · replace h := h.2 c3
        refine v_ldc hC kw429 dX6_feed_29 ?_
        exact v_iret hC hR h dX6_feed_31
    · replace h := h.2 c2
      refine v_ldc hC kw377 dX6_feed_11 ?_
      exact v_iret hC hR h dX6_feed_13
theorem cmH_feed : CM yX6_feed cX6_feed 5 (some .int) rmH_feed 2 := ⟨kw75, kw428, rfl, rfl, by decide, by decide, by decide +kernel⟩
def rmK_clear : Room := { frames := 0, cells := 0, slots := 0, locals := 0 }
def wK52_clear  (σ : gM) (Q : gM → Prop) : Prop :=
    ∀ σ1 : gM, σ1 = gU σ 52 0 (nI 1) → (∀ σ2 : gM, σ2 = gU σ1 52 1 (nI 0) → (∀ σ3 : gM, σ3 = gU σ2 52 2 (nI 0) → (∀ σ4 : gM, σ4 = gU σ3 52 3 (nI 0) → (∀ σ5 : gM, σ5 = gU σ4 52 4 (nI 0) → (∀ σ6 : gM, σ6 = gU σ5 52 5 (nI 0) → (Q σ6))))))
set_option maxHeartbeats 4000000 in
set_option maxRecDepth 100000 in
theorem kK52_clear  (σ : gM) (Q : gM → Prop) (h : wK52_clear  σ Q) : CT yX2_clear cX2_clear 1 none rmK_clear (fun G => [.ref (gad G 52)]) σ (gPv Q) := by
  refine c_enter (by decide) (fun _ => Nat.le_of_ble_eq_true rfl) (fun X hC hR => ?_)
  show V X 1 0 [(0, .ref (xad X 52))] [] σ
  replace h : ∀ σ1 : gM, σ1 = gU σ 52 0 (nI 1) → (∀ σ2 : gM, σ2 = gU σ1 52 1 (nI 0) → (∀ σ3 : gM, σ3 = gU σ2 52 2 (nI 0) → (∀ σ4 : gM, σ4 = gU σ3 52 3 (nI 0) → (∀ σ5 : gM, σ5 = gU σ4 52 4 (nI 0) → (∀ σ6 : gM, σ6 = gU σ5 52 5 (nI 0) → (Q σ6)))))) := h
  refine v_aload_n hC 0 dX2_clear_0 rfl ?_
  refine v_iconst hC (nI 1) dX2_clear_1 rfl ?_
  refine pf_X2_39_52 hC (Or.inr rfl) dX2_clear_2 (fun σ1 e1 => ?_)
  replace h := h σ1 e1
  refine v_aload_n hC 0 dX2_clear_5 rfl ?_
  refine v_iconst hC (nI 0) dX2_clear_6 rfl ?_
  refine pf_X2_43_52 hC dX2_clear_7 (fun σ2 e2 => ?_)
  replace h := h σ2 e2
  refine v_aload_n hC 0 dX2_clear_10 rfl ?_
  refine v_iconst hC (nI 0) dX2_clear_11 rfl ?_
  refine pf_X2_47_52 hC dX2_clear_12 (fun σ3 e3 => ?_)
  replace h := h σ3 e3
  refine v_aload_n hC 0 dX2_clear_15 rfl ?_
  refine v_iconst hC (nI 0) dX2_clear_16 rfl ?_
  refine pf_X2_50_52 hC dX2_clear_17 (fun σ4 e4 => ?_)
  replace h := h σ4 e4
  refine v_aload_n hC 0 dX2_clear_20 rfl ?_
  refine v_iconst hC (nI 0) dX2_clear_21 rfl ?_
  refine pf_X2_53_52 hC dX2_clear_22 (fun σ5 e5 => ?_)
  replace h := h σ5 e5
  refine v_aload_n hC 0 dX2_clear_25 rfl ?_
  refine v_iconst hC (nI 0) dX2_clear_26 rfl ?_
  refine pf_X2_56_52 hC dX2_clear_27 (fun σ6 e6 => ?_)
  replace h := h σ6 e6
  exact v_vret hC hR h dX2_clear_30
theorem cmK_clear : CM yX2_clear cX2_clear 1 none rmK_clear 0 := ⟨kw77, kw445, rfl, rfl, by decide, by decide, by decide +kernel⟩
def rmT_isLetter : Room := { frames := 0, cells := 0, slots := 0, locals := 0 }
def wT_isLetter (x0 : Int32) (σ : gM) (Q : Int32 → gM → Prop) : Prop :=
    ∀ v2 : Int32, v2 = (if x0 < (nI 97) then (nI 0) else (if (nI 122) < x0 then (nI 0) else (nI 1))) → ((v2 = nI 0 ∨ v2 = nI 1) ∧ Q v2 σ)
set_option maxHeartbeats 4000000 in
set_option maxRecDepth 100000 in
theorem kT_isLetter (x0 : Int32) (σ : gM) (Q : Int32 → gM → Prop) (h : wT_isLetter x0 σ Q) : CT yX5_isLetter cX5_isLetter 1 (some .boolean) rmT_isLetter (fun G => [.int x0]) σ (gPi Q) := by
  refine c_enter (by decide) (fun _ => Nat.le_of_ble_eq_true rfl) (fun X hC hR => ?_)
  show V X 1 0 [(0, .int x0)] [] σ
  replace h : ∀ v2 : Int32, v2 = (if x0 < (nI 97) then (nI 0) else (if (nI 122) < x0 then (nI 0) else (nI 1))) → ((v2 = nI 0 ∨ v2 = nI 1) ∧ Q v2 σ) := h
  refine v_iload_n hC 0 dX5_isLetter_0 rfl ?_
  refine v_bipush hC (nI 97) dX5_isLetter_1 rfl ?_
  have J1 : ∀ (v2 : Int32) (ev2 : v2 = (if x0 < (nI 97) then (nI 0) else (if (nI 122) < x0 then (nI 0) else (nI 1)))), V X 1 17 [] [.int v2] σ := by
    intro v2 ev2
    replace h := h v2 ev2
    obtain ⟨hb, h⟩ := h
    exact v_zret hC hR (nar_bool hb) h dX5_isLetter_17
  refine v_icmp_lt hC 16 dX5_isLetter_3 (by decide) (fun c1 => ?_) (fun c1 => ?_)
  · refine v_iconst hC (nI 0) dX5_isLetter_16 rfl ?_
    exact V.sub [] rfl (J1 _ (by rw [if_pos c1]))
  · refine v_iload_n hC 0 dX5_isLetter_6 rfl ?_
    refine v_bipush hC (nI 122) dX5_isLetter_7 rfl ?_
    have J3 : V X 1 17 [] [.int (if (nI 122) < x0 then (nI 0) else (nI 1))] σ := by
      exact V.sub [] rfl (J1 _ (by rw [if_neg c1]))
    refine v_icmp_gt hC 16 dX5_isLetter_9 (by decide) (fun c3 => ?_) (fun c3 => ?_)
    · refine v_iconst hC (nI 0) dX5_isLetter_16 rfl ?_
      rw [if_pos c3] at J3
      exact V.sub [] rfl J3
    · refine v_iconst hC (nI 1) dX5_isLetter_12 rfl ?_
      refine v_goto hC 17 dX5_isLetter_13 (by decide) ?_
      rw [if_neg c3] at J3
      exact V.sub [] rfl J3
theorem cmT_isLetter : CM yX5_isLetter cX5_isLetter 1 (some .boolean) rmT_isLetter 1 := ⟨kw76, kw455, rfl, rfl, by decide, by decide, by decide +kernel⟩
def rmT_isFigure : Room := { frames := 0, cells := 0, slots := 0, locals := 0 }
def wT_isFigure (x0 : Int32) (σ : gM) (Q : Int32 → gM → Prop) : Prop :=
    ∀ v2 : Int32, v2 = (if x0 < (nI 48) then (nI 0) else (if (nI 57) < x0 then (nI 0) else (nI 1))) → ((v2 = nI 0 ∨ v2 = nI 1) ∧ Q v2 σ)
set_option maxHeartbeats 4000000 in
set_option maxRecDepth 100000 in
theorem kT_isFigure (x0 : Int32) (σ : gM) (Q : Int32 → gM → Prop) (h : wT_isFigure x0 σ Q) : CT yX5_isFigure cX5_isFigure 1 (some .boolean) rmT_isFigure (fun G => [.int x0]) σ (gPi Q) := by
  refine c_enter (by decide) (fun _ => Nat.le_of_ble_eq_true rfl) (fun X hC hR => ?_)
  show V X 1 0 [(0, .int x0)] [] σ
  replace h : ∀ v2 : Int32, v2 = (if x0 < (nI 48) then (nI 0) else (if (nI 57) < x0 then (nI 0) else (nI 1))) → ((v2 = nI 0 ∨ v2 = nI 1) ∧ Q v2 σ) := h
  refine v_iload_n hC 0 dX5_isFigure_0 rfl ?_
  refine v_bipush hC (nI 48) dX5_isFigure_1 rfl ?_
  have J1 : ∀ (v2 : Int32) (ev2 : v2 = (if x0 < (nI 48) then (nI 0) else (if (nI 57) < x0 then (nI 0) else (nI 1)))), V X 1 17 [] [.int v2] σ := by
    intro v2 ev2
    replace h := h v2 ev2
    obtain ⟨hb, h⟩ := h
    exact v_zret hC hR (nar_bool hb) h dX5_isFigure_17
  refine v_icmp_lt hC 16 dX5_isFigure_3 (by decide) (fun c1 => ?_) (fun c1 => ?_)
  · refine v_iconst hC (nI 0) dX5_isFigure_16 rfl ?_
    exact V.sub [] rfl (J1 _ (by rw [if_pos c1]))
  · refine v_iload_n hC 0 dX5_isFigure_6 rfl ?_
    refine v_bipush hC (nI 57) dX5_isFigure_7 rfl ?_
    have J3 : V X 1 17 [] [.int (if (nI 57) < x0 then (nI 0) else (nI 1))] σ := by
      exact V.sub [] rfl (J1 _ (by rw [if_neg c1]))
    refine v_icmp_gt hC 16 dX5_isFigure_9 (by decide) (fun c3 => ?_) (fun c3 => ?_)
    · refine v_iconst hC (nI 0) dX5_isFigure_16 rfl ?_
      rw [if_pos c3] at J3
      exact V.sub [] rfl J3
    · refine v_iconst hC (nI 1) dX5_isFigure_12 rfl ?_
      refine v_goto hC 17 dX5_isFigure_13 (by decide) ?_
      rw [if_neg c3] at J3
      exact V.sub [] rfl J3
theorem cmT_isFigure : CM yX5_isFigure cX5_isFigure 1 (some .boolean) rmT_isFigure 1 := ⟨kw76, kw462, rfl, rfl, by decide, by decide, by decide +kernel⟩
def rmT_stepNumber : Room := { frames := 1, cells := 0, slots := 0, locals := 20 }
def wT_stepNumber_l5 (Q : gM → Prop)  : Nat → gM → Prop
  | 0, _ => False
  | n + 1, σ =>
    ((σ 18 0) ≤ (σ 18 5) → (∀ v4 : Int32, v4 = (if (nI 3) < ((σ 18 5) - (σ 18 4)) then (nI 4) else (nI 1)) → (∀ σ5 : gM, σ5 = gU σ 18 6 v4 → (Q σ5)))) ∧ (¬ ((σ 18 0) ≤ (σ 18 5)) → (vp_in (σ 18 5) 400 ∧ (wT_isFigure (σ 19 (σ 18 5).toNatClampNeg) σ (fun (r8 : Int32) (σ8 : gM) => (r8 = nI 0 → (∀ v11 : Int32, v11 = (if (nI 3) < ((σ8 18 5) - (σ8 18 4)) then (nI 4) else (nI 1)) → (∀ σ12 : gM, σ12 = gU σ8 18 6 v11 → (Q σ12)))) ∧ (¬ (r8 = nI 0) → (((nI 3) ≤ ((σ8 18 5) - (σ8 18 4)) → (∀ σ14 : gM, σ14 = gU σ8 18 5 ((σ8 18 5) + (nI 1)) → (wT_stepNumber_l5 Q n σ14))) ∧ (¬ ((nI 3) ≤ ((σ8 18 5) - (σ8 18 4))) → (vp_in (σ8 18 5) 400 ∧ (∀ σ16 : gM, σ16 = gU σ8 18 7 ((((nI 10) * (σ8 18 7)) + (σ8 19 (σ8 18 5).toNatClampNeg)) - (nI 48)) → (∀ σ17 : gM, σ17 = gU σ16 18 5 ((σ16 18 5) + (nI 1)) → (wT_stepNumber_l5 Q n σ17)))))))))))
def wT_stepNumber  (σ : gM) (Q : gM → Prop) : Prop :=
    ∀ σ1 : gM, σ1 = gU σ 18 7 (nI 0) → (∃ n18 : Nat, wT_stepNumber_l5 Q n18 σ1)
set_option maxHeartbeats 4000000 in
set_option maxRecDepth 100000 in
theorem tT_stepNumber_l5 {X : gX} {Q : gM → Prop} (hC : VC X cX5_stepNumber RX5 1 rmT_stepNumber) (hR : VR X none (gPv Q))  : ∀ (n : Nat) (σ : gM), wT_stepNumber_l5 Q  n  σ → V X 1 5 [(0, .ref (xad X 18))] [] σ := by
  intro n
  induction n with
  | zero => intro  σ h; exact h.elim
  | succ n ih =>
    intro  σ h
    replace h : ((σ 18 0) ≤ (σ 18 5) → (∀ v4 : Int32, v4 = (if (nI 3) < ((σ 18 5) - (σ 18 4)) then (nI 4) else (nI 1)) → (∀ σ5 : gM, σ5 = gU σ 18 6 v4 → (Q σ5)))) ∧ (¬ ((σ 18 0) ≤ (σ 18 5)) → (vp_in (σ 18 5) 400 ∧ (wT_isFigure (σ 19 (σ 18 5).toNatClampNeg) σ (fun (r8 : Int32) (σ8 : gM) => (r8 = nI 0 → (∀ v11 : Int32, v11 = (if (nI 3) < ((σ8 18 5) - (σ8 18 4)) then (nI 4) else (nI 1)) → (∀ σ12 : gM, σ12 = gU σ8 18 6 v11 → (Q σ12)))) ∧ (¬ (r8 = nI 0) → (((nI 3) ≤ ((σ8 18 5) - (σ8 18 4)) → (∀ σ14 : gM, σ14 = gU σ8 18 5 ((σ8 18 5) + (nI 1)) → (wT_stepNumber_l5 Q n σ14))) ∧ (¬ ((nI 3) ≤ ((σ8 18 5) - (σ8 18 4))) → (vp_in (σ8 18 5) 400 ∧ (∀ σ16 : gM, σ16 = gU σ8 18 7 ((((nI 10) * (σ8 18 7)) + (σ8 19 (σ8 18 5).toNatClampNeg)) - (nI 48)) → (∀ σ17 : gM, σ17 = gU σ16 18 5 ((σ16 18 5) + (nI 1)) → (wT_stepNumber_l5 Q n σ17))))))))))) := h
    refine v_aload_n hC 0 dX5_stepNumber_5 rfl ?_
    refine gf_X5_27 hC dX5_stepNumber_6 ?_
    refine v_aload_n hC 0 dX5_stepNumber_9 rfl ?_
    refine gf_X5_15 hC dX5_stepNumber_10 ?_
    refine v_icmp_ge hC 81 dX5_stepNumber_13 (by decide) (fun c2 => ?_) (fun c2 => ?_)
    · replace h := h.1 c2
      refine v_aload_n hC 0 dX5_stepNumber_81 rfl ?_
      refine v_aload_n hC 0 dX5_stepNumber_82 rfl ?_
      refine gf_X5_27 hC dX5_stepNumber_83 ?_
      refine v_aload_n hC 0 dX5_stepNumber_86 rfl ?_
      refine gf_X5_105 hC dX5_stepNumber_87 ?_
      refine v_isub hC dX5_stepNumber_90 ?_
      refine v_iconst hC (nI 3) dX5_stepNumber_91 rfl ?_
      have J3 : ∀ (v4 : Int32) (ev4 : v4 = (if (nI 3) < ((σ 18 5) - (σ 18 4)) then (nI 4) else (nI 1))), V X 1 100 [] [.int v4, .ref (xad X 18)] σ := by
        intro v4 ev4
        replace h := h v4 ev4
        refine pf_X5_51 hC dX5_stepNumber_100 (fun σ5 e5 => ?_)
        replace h := h σ5 e5
        exact v_vret hC hR h dX5_stepNumber_103
      refine v_icmp_gt hC 99 dX5_stepNumber_92 (by decide) (fun c3 => ?_) (fun c3 => ?_)
      · refine v_iconst hC (nI 4) dX5_stepNumber_99 rfl ?_
        exact V.sub [] rfl (J3 _ (by rw [if_pos c3]))
      · refine v_iconst hC (nI 1) dX5_stepNumber_95 rfl ?_
        refine v_goto hC 100 dX5_stepNumber_96 (by decide) ?_
        exact V.sub [] rfl (J3 _ (by rw [if_neg c3]))
    · replace h := h.2 c2
      refine v_aload_n hC 0 dX5_stepNumber_16 rfl ?_
      refine gf_X5_9 hC dX5_stepNumber_17 ?_
      refine v_aload_n hC 0 dX5_stepNumber_20 rfl ?_
      refine gf_X5_27 hC dX5_stepNumber_21 ?_
      obtain ⟨hi6, h⟩ := h
      refine v_iald hC (Nat.le_of_ble_eq_true rfl) rfl rfl hi6 dX5_stepNumber_24 ?_
      refine v_callS hC (kT_isFigure _ _ _ h) cmT_isFigure kw461 kw460 ⟨Nat.le_of_ble_eq_true rfl, Nat.le_of_ble_eq_true rfl⟩ (fun _ => rfl) (st := []) (Nat.le_of_ble_eq_true rfl) rfl dX5_stepNumber_25 (kk_i (fun r8 σ8 h => ?_))
      refine v_if_eq hC 81 dX5_stepNumber_28 (by decide) (fun c9 => ?_) (fun c9 => ?_)
      · replace h := h.1 c9
        refine v_aload_n hC 0 dX5_stepNumber_81 rfl ?_
        refine v_aload_n hC 0 dX5_stepNumber_82 rfl ?_
        refine gf_X5_27 hC dX5_stepNumber_83 ?_
        refine v_aload_n hC 0 dX5_stepNumber_86 rfl ?_
        refine gf_X5_105 hC dX5_stepNumber_87 ?_
        refine v_isub hC dX5_stepNumber_90 ?_
        refine v_iconst hC (nI 3) dX5_stepNumber_91 rfl ?_
        have J10 : ∀ (v11 : Int32) (ev11 : v11 = (if (nI 3) < ((σ8 18 5) - (σ8 18 4)) then (nI 4) else (nI 1))), V X 1 100 [] [.int v11, .ref (xad X 18)] σ8 := by
          intro v11 ev11
          replace h := h v11 ev11
          refine pf_X5_51 hC dX5_stepNumber_100 (fun σ12 e12 => ?_)
          replace h := h σ12 e12
          exact v_vret hC hR h dX5_stepNumber_103
        refine v_icmp_gt hC 99 dX5_stepNumber_92 (by decide) (fun c10 => ?_) (fun c10 => ?_)
        · refine v_iconst hC (nI 4) dX5_stepNumber_99 rfl ?_
          exact V.sub [] rfl (J10 _ (by rw [if_pos c10]))
        · refine v_iconst hC (nI 1) dX5_stepNumber_95 rfl ?_
          refine v_goto hC 100 dX5_stepNumber_96 (by decide) ?_
          exact V.sub [] rfl (J10 _ (by rw [if_neg c10]))
      · replace h := h.2 c9
        refine v_aload_n hC 0 dX5_stepNumber_31 rfl ?_
        refine gf_X5_27 hC dX5_stepNumber_32 ?_
        refine v_aload_n hC 0 dX5_stepNumber_35 rfl ?_
        refine gf_X5_105 hC dX5_stepNumber_36 ?_
        refine v_isub hC dX5_stepNumber_39 ?_
        refine v_iconst hC (nI 3) dX5_stepNumber_40 rfl ?_
        refine v_icmp_ge hC 68 dX5_stepNumber_41 (by decide) (fun c13 => ?_) (fun c13 => ?_)
        · replace h := h.1 c13
          refine v_aload_n hC 0 dX5_stepNumber_68 rfl ?_
          refine v_dup hC dX5_stepNumber_69 rfl ?_
          refine gf_X5_27 hC dX5_stepNumber_70 ?_
          refine v_iconst hC (nI 1) dX5_stepNumber_73 rfl ?_
          refine v_iadd hC dX5_stepNumber_74 ?_
          refine pf_X5_27 hC dX5_stepNumber_75 (fun σ14 e14 => ?_)
          replace h := h σ14 e14
          refine v_goto hC 5 dX5_stepNumber_78 (by decide) ?_
          exact V.sub [0] rfl (ih _ h)
        · replace h := h.2 c13
          refine v_aload_n hC 0 dX5_stepNumber_44 rfl ?_
          refine v_bipush hC (nI 10) dX5_stepNumber_45 rfl ?_
          refine v_aload_n hC 0 dX5_stepNumber_47 rfl ?_
          refine gf_X5_102 hC dX5_stepNumber_48 ?_
          refine v_imul hC dX5_stepNumber_51 ?_
          refine v_aload_n hC 0 dX5_stepNumber_52 rfl ?_
          refine gf_X5_9 hC dX5_stepNumber_53 ?_
          refine v_aload_n hC 0 dX5_stepNumber_56 rfl ?_
          refine gf_X5_27 hC dX5_stepNumber_57 ?_
          obtain ⟨hi15, h⟩ := h
          refine v_iald hC (Nat.le_of_ble_eq_true rfl) rfl rfl hi15 dX5_stepNumber_60 ?_
          refine v_iadd hC dX5_stepNumber_61 ?_
          refine v_bipush hC (nI 48) dX5_stepNumber_62 rfl ?_
          refine v_isub hC dX5_stepNumber_64 ?_
          refine pf_X5_102 hC dX5_stepNumber_65 (fun σ16 e16 => ?_)
          replace h := h σ16 e16
          refine v_aload_n hC 0 dX5_stepNumber_68 rfl ?_
          refine v_dup hC dX5_stepNumber_69 rfl ?_
          refine gf_X5_27 hC dX5_stepNumber_70 ?_
          refine v_iconst hC (nI 1) dX5_stepNumber_73 rfl ?_
          refine v_iadd hC dX5_stepNumber_74 ?_
          refine pf_X5_27 hC dX5_stepNumber_75 (fun σ17 e17 => ?_)
          replace h := h σ17 e17
          refine v_goto hC 5 dX5_stepNumber_78 (by decide) ?_
          exact V.sub [0] rfl (ih _ h)
set_option maxHeartbeats 4000000 in
set_option maxRecDepth 100000 in
theorem kT_stepNumber  (σ : gM) (Q : gM → Prop) (h : wT_stepNumber  σ Q) : CT yX5_stepNumber cX5_stepNumber 1 none rmT_stepNumber (fun G => [.ref (gad G 18)]) σ (gPv Q) := by
  refine c_enter (by decide) (fun _ => Nat.le_of_ble_eq_true rfl) (fun X hC hR => ?_)
  show V X 1 0 [(0, .ref (xad X 18))] [] σ
  replace h : ∀ σ1 : gM, σ1 = gU σ 18 7 (nI 0) → (∃ n18 : Nat, wT_stepNumber_l5 Q n18 σ1) := h
  refine v_aload_n hC 0 dX5_stepNumber_0 rfl ?_
  refine v_iconst hC (nI 0) dX5_stepNumber_1 rfl ?_
  refine pf_X5_102 hC dX5_stepNumber_2 (fun σ1 e1 => ?_)
  replace h := h σ1 e1
  obtain ⟨n18, h⟩ := h
  exact V.sub [0] rfl (tT_stepNumber_l5 hC hR  n18 _ h)
theorem cmT_stepNumber : CM yX5_stepNumber cX5_stepNumber 1 none rmT_stepNumber 0 := ⟨kw76, kw466, rfl, rfl, by decide, by decide, by decide +kernel⟩
