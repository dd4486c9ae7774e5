def rmT_stepName : Room := { frames := 1, cells := 0, slots := 0, locals := 20 }
def wT_stepName_l0 (Q : gM → Prop)  : Nat → gM → Prop
  | 0, _ => False
  | n + 1, σ =>
    ((σ 18 0) ≤ (σ 18 5) → (∀ σ2 : gM, σ2 = gU σ 18 6 (nI 0) → (Q σ2))) ∧ (¬ ((σ 18 0) ≤ (σ 18 5)) → (vp_in (σ 18 5) 400 ∧ (wT_isLetter (σ 19 (σ 18 5).toNatClampNeg) σ (fun (r5 : Int32) (σ5 : gM) => (r5 = nI 0 → (∀ σ7 : gM, σ7 = gU σ5 18 6 (nI 0) → (Q σ7))) ∧ (¬ (r5 = nI 0) → (∀ σ8 : gM, σ8 = gU σ5 18 5 ((σ5 18 5) + (nI 1)) → (wT_stepName_l0 Q n σ8)))))))
def wT_stepName  (σ : gM) (Q : gM → Prop) : Prop :=
    ∃ n9 : Nat, wT_stepName_l0 Q n9 σ
set_option maxHeartbeats 4000000 in
set_option maxRecDepth 100000 in
theorem tT_stepName_l0 {X : gX} {Q : gM → Prop} (hC : VC X cX5_stepName RX5 1 rmT_stepName) (hR : VR X none (gPv Q))  : ∀ (n : Nat) (σ : gM), wT_stepName_l0 Q  n  σ → V X 1 0 [(0, .ref (xad X 18))] [] σ := by
  intro n
  induction n with
  | zero => intro  σ h; exact h.elim
  | succ n ih =>
    intro  σ h
    replace h : ((σ 18 0) ≤ (σ 18 5) → (∀ σ2 : gM, σ2 = gU σ 18 6 (nI 0) → (Q σ2))) ∧ (¬ ((σ 18 0) ≤ (σ 18 5)) → (vp_in (σ 18 5) 400 ∧ (wT_isLetter (σ 19 (σ 18 5).toNatClampNeg) σ (fun (r5 : Int32) (σ5 : gM) => (r5 = nI 0 → (∀ σ7 : gM, σ7 = gU σ5 18 6 (nI 0) → (Q σ7))) ∧ (¬ (r5 = nI 0) → (∀ σ8 : gM, σ8 = gU σ5 18 5 ((σ5 18 5) + (nI 1)) → (wT_stepName_l0 Q n σ8))))))) := h
    refine v_aload_n hC 0 dX5_stepName_0 rfl ?_
    refine gf_X5_27 hC dX5_stepName_1 ?_
    refine v_aload_n hC 0 dX5_stepName_4 rfl ?_
    refine gf_X5_15 hC dX5_stepName_5 ?_
    refine v_icmp_ge hC 39 dX5_stepName_8 (by decide) (fun c1 => ?_) (fun c1 => ?_)
    · replace h := h.1 c1
      refine v_aload_n hC 0 dX5_stepName_39 rfl ?_
      refine v_iconst hC (nI 0) dX5_stepName_40 rfl ?_
      refine pf_X5_51 hC dX5_stepName_41 (fun σ2 e2 => ?_)
      replace h := h σ2 e2
      exact v_vret hC hR h dX5_stepName_44
    · replace h := h.2 c1
      refine v_aload_n hC 0 dX5_stepName_11 rfl ?_
      refine gf_X5_9 hC dX5_stepName_12 ?_
      refine v_aload_n hC 0 dX5_stepName_15 rfl ?_
      refine gf_X5_27 hC dX5_stepName_16 ?_
      obtain ⟨hi3, h⟩ := h
      refine v_iald hC (Nat.le_of_ble_eq_true rfl) rfl rfl hi3 dX5_stepName_19 ?_
      refine v_callS hC (kT_isLetter _ _ _ h) cmT_isLetter kw454 kw453 ⟨Nat.le_of_ble_eq_true rfl, Nat.le_of_ble_eq_true rfl⟩ (fun _ => rfl) (st := []) (Nat.le_of_ble_eq_true rfl) rfl dX5_stepName_20 (kk_i (fun r5 σ5 h => ?_))
      refine v_if_eq hC 39 dX5_stepName_23 (by decide) (fun c6 => ?_) (fun c6 => ?_)
      · replace h := h.1 c6
        refine v_aload_n hC 0 dX5_stepName_39 rfl ?_
        refine v_iconst hC (nI 0) dX5_stepName_40 rfl ?_
        refine pf_X5_51 hC dX5_stepName_41 (fun σ7 e7 => ?_)
        replace h := h σ7 e7
        exact v_vret hC hR h dX5_stepName_44
      · replace h := h.2 c6
        refine v_aload_n hC 0 dX5_stepName_26 rfl ?_
        refine v_dup hC dX5_stepName_27 rfl ?_
        refine gf_X5_27 hC dX5_stepName_28 ?_
        refine v_iconst hC (nI 1) dX5_stepName_31 rfl ?_
        refine v_iadd hC dX5_stepName_32 ?_
        refine pf_X5_27 hC dX5_stepName_33 (fun σ8 e8 => ?_)
        replace h := h σ8 e8
        refine v_goto hC 0 dX5_stepName_36 (by decide) ?_
        exact V.sub [0] rfl (ih _ h)
set_option maxHeartbeats 4000000 in
set_option maxRecDepth 100000 in
theorem kT_stepName  (σ : gM) (Q : gM → Prop) (h : wT_stepName  σ Q) : CT yX5_stepName cX5_stepName 1 none rmT_stepName (fun G => [.ref (gad G 18)]) σ (gPv Q) := by
  refine c_enter (by decide) (fun _ => Nat.le_of_ble_eq_true rfl) (fun X hC hR => ?_)
  show V X 1 0 [(0, .ref (xad X 18))] [] σ
  replace h : ∃ n9 : Nat, wT_stepName_l0 Q n9 σ := h
  obtain ⟨n9, h⟩ := h
  exact V.sub [0] rfl (tT_stepName_l0 hC hR  n9 _ h)
theorem cmT_stepName : CM yX5_stepName cX5_stepName 1 none rmT_stepName 0 := ⟨kw76, kw459, rfl, rfl, by decide, by decide, by decide +kernel⟩
def rmT_isBlank : Room := { frames := 0, cells := 0, slots := 0, locals := 0 }
def wT_isBlank (x0 : Int32) (σ : gM) (Q : Int32 → gM → Prop) : Prop :=
    ∀ v2 : Int32, v2 = (if x0 = (nI 32) then (nI 1) else (if x0 = (nI 10) then (nI 1) else (nI 0))) → ((v2 = nI 0 ∨ v2 = nI 1) ∧ Q v2 σ)
set_option maxHeartbeats 4000000 in
set_option maxRecDepth 100000 in
theorem kT_isBlank (x0 : Int32) (σ : gM) (Q : Int32 → gM → Prop) (h : wT_isBlank x0 σ Q) : CT yX5_isBlank cX5_isBlank 1 (some .boolean) rmT_isBlank (fun G => [.int x0]) σ (gPi Q) := by
  refine c_enter (by decide) (fun _ => Nat.le_of_ble_eq_true rfl) (fun X hC hR => ?_)
  show V X 1 0 [(0, .int x0)] [] σ
  replace h : ∀ v2 : Int32, v2 = (if x0 = (nI 32) then (nI 1) else (if x0 = (nI 10) then (nI 1) else (nI 0))) → ((v2 = nI 0 ∨ v2 = nI 1) ∧ Q v2 σ) := h
  refine v_iload_n hC 0 dX5_isBlank_0 rfl ?_
  refine v_bipush hC (nI 32) dX5_isBlank_1 rfl ?_
  have J1 : ∀ (v2 : Int32) (ev2 : v2 = (if x0 = (nI 32) then (nI 1) else (if x0 = (nI 10) then (nI 1) else (nI 0)))), V X 1 17 [] [.int v2] σ := by
    intro v2 ev2
    replace h := h v2 ev2
    obtain ⟨hb, h⟩ := h
    exact v_zret hC hR (nar_bool hb) h dX5_isBlank_17
  refine v_icmp_eq hC 12 dX5_isBlank_3 (by decide) (fun c1 => ?_) (fun c1 => ?_)
  · refine v_iconst hC (nI 1) dX5_isBlank_12 rfl ?_
    refine v_goto hC 17 dX5_isBlank_13 (by decide) ?_
    exact V.sub [] rfl (J1 _ (by rw [if_pos c1]))
  · refine v_iload_n hC 0 dX5_isBlank_6 rfl ?_
    refine v_bipush hC (nI 10) dX5_isBlank_7 rfl ?_
    have J3 : V X 1 17 [] [.int (if x0 = (nI 10) then (nI 1) else (nI 0))] σ := by
      exact V.sub [] rfl (J1 _ (by rw [if_neg c1]))
    refine v_icmp_ne hC 16 dX5_isBlank_9 (by decide) (fun c3 => ?_) (fun c3 => ?_)
    · refine v_iconst hC (nI 0) dX5_isBlank_16 rfl ?_
      rw [if_neg c3] at J3
      exact V.sub [] rfl J3
    · refine v_iconst hC (nI 1) dX5_isBlank_12 rfl ?_
      refine v_goto hC 17 dX5_isBlank_13 (by decide) ?_
      rw [if_pos c3] at J3
      exact V.sub [] rfl J3
theorem cmT_isBlank : CM yX5_isBlank cX5_isBlank 1 (some .boolean) rmT_isBlank 1 := ⟨kw76, kw452, rfl, rfl, by decide, by decide, by decide +kernel⟩
def rmT_step : Room := { frames := 2, cells := 0, slots := 0, locals := 40 }
def wT_step_b47 (Q : gM → Prop)  (σ : gM) : Prop :=
    ∀ σ3 : gM, σ3 = gU σ 18 5 (σ 18 4) → (((σ3 18 4) < (σ3 18 0) → (vp_in (σ3 18 4) 400 ∧ (wT_isLetter (σ3 19 (σ3 18 4).toNatClampNeg) σ3 (fun (r7 : Int32) (σ7 : gM) => (r7 = nI 0 → (vp_in (σ7 18 4) 400 ∧ (wT_isFigure (σ7 19 (σ7 18 4).toNatClampNeg) σ7 (fun (r11 : Int32) (σ11 : gM) => (r11 = nI 0 → (vp_in (σ11 18 4) 400 ∧ (∀ v15 : Int32, v15 = (if (σ11 19 (σ11 18 4).toNatClampNeg) = (nI 59) then (nI 2) else (nI 4)) → (∀ σ16 : gM, σ16 = gU σ11 18 6 v15 → (∀ σ17 : gM, σ17 = gU σ16 18 5 ((σ16 18 4) + (nI 1)) → (Q σ17)))))) ∧ (¬ (r11 = nI 0) → (wT_stepNumber  σ11 (fun (σ19 : gM) => Q σ19))))))) ∧ (¬ (r7 = nI 0) → (wT_stepName  σ7 (fun (σ21 : gM) => Q σ21))))))) ∧ (¬ ((σ3 18 4) < (σ3 18 0)) → (∀ σ22 : gM, σ22 = gU σ3 18 6 (nI 3) → (Q σ22))))
def wT_step_l8 (Q : gM → Prop)  : Nat → gM → Prop
  | 0, _ => False
  | n + 1, σ =>
    ((σ 18 0) ≤ (σ 18 4) → (wT_step_b47 Q σ)) ∧ (¬ ((σ 18 0) ≤ (σ 18 4)) → (vp_in (σ 18 4) 400 ∧ (wT_isBlank (σ 19 (σ 18 4).toNatClampNeg) σ (fun (r25 : Int32) (σ25 : gM) => (r25 = nI 0 → (wT_step_b47 Q σ25)) ∧ (¬ (r25 = nI 0) → (∀ σ27 : gM, σ27 = gU σ25 18 4 ((σ25 18 4) + (nI 1)) → (wT_step_l8 Q n σ27)))))))
def wT_step  (σ : gM) (Q : gM → Prop) : Prop :=
    ∀ σ1 : gM, σ1 = gU σ 18 4 (σ 18 5) → (∃ n28 : Nat, wT_step_l8 Q n28 σ1)
set_option maxHeartbeats 4000000 in
set_option maxRecDepth 100000 in
theorem tT_step_b47 {X : gX} {Q : gM → Prop} (hC : VC X cX5_step RX5 1 rmT_step) (hR : VR X none (gPv Q))  (σ : gM) (h : wT_step_b47 Q   σ) : V X 1 47 [(0, .ref (xad X 18))] [] σ := by
  replace h : ∀ σ3 : gM, σ3 = gU σ 18 5 (σ 18 4) → (((σ3 18 4) < (σ3 18 0) → (vp_in (σ3 18 4) 400 ∧ (wT_isLetter (σ3 19 (σ3 18 4).toNatClampNeg) σ3 (fun (r7 : Int32) (σ7 : gM) => (r7 = nI 0 → (vp_in (σ7 18 4) 400 ∧ (wT_isFigure (σ7 19 (σ7 18 4).toNatClampNeg) σ7 (fun (r11 : Int32) (σ11 : gM) => (r11 = nI 0 → (vp_in (σ11 18 4) 400 ∧ (∀ v15 : Int32, v15 = (if (σ11 19 (σ11 18 4).toNatClampNeg) = (nI 59) then (nI 2) else (nI 4)) → (∀ σ16 : gM, σ16 = gU σ11 18 6 v15 → (∀ σ17 : gM, σ17 = gU σ16 18 5 ((σ16 18 4) + (nI 1)) → (Q σ17)))))) ∧ (¬ (r11 = nI 0) → (wT_stepNumber  σ11 (fun (σ19 : gM) => Q σ19))))))) ∧ (¬ (r7 = nI 0) → (wT_stepName  σ7 (fun (σ21 : gM) => Q σ21))))))) ∧ (¬ ((σ3 18 4) < (σ3 18 0)) → (∀ σ22 : gM, σ22 = gU σ3 18 6 (nI 3) → (Q σ22)))) := h
  refine v_aload_n hC 0 dX5_step_47 rfl ?_
  refine v_aload_n hC 0 dX5_step_48 rfl ?_
  refine gf_X5_105 hC dX5_step_49 ?_
  refine pf_X5_27 hC dX5_step_52 (fun σ3 e3 => ?_)
  replace h := h σ3 e3
  refine v_aload_n hC 0 dX5_step_55 rfl ?_
  refine gf_X5_105 hC dX5_step_56 ?_
  refine v_aload_n hC 0 dX5_step_59 rfl ?_
  refine gf_X5_15 hC dX5_step_60 ?_
  refine v_icmp_lt hC 74 dX5_step_63 (by decide) (fun c4 => ?_) (fun c4 => ?_)
  · replace h := h.1 c4
    refine v_aload_n hC 0 dX5_step_74 rfl ?_
    refine gf_X5_9 hC dX5_step_75 ?_
    refine v_aload_n hC 0 dX5_step_78 rfl ?_
    refine gf_X5_105 hC dX5_step_79 ?_
    obtain ⟨hi5, h⟩ := h
    refine v_iald hC (Nat.le_of_ble_eq_true rfl) rfl rfl hi5 dX5_step_82 ?_
    refine v_callS hC (kT_isLetter _ _ _ h) cmT_isLetter kw454 kw453 ⟨Nat.le_of_ble_eq_true rfl, Nat.le_of_ble_eq_true rfl⟩ (fun _ => rfl) (st := []) (Nat.le_of_ble_eq_true rfl) rfl dX5_step_83 (kk_i (fun r7 σ7 h => ?_))
    refine v_if_eq hC 96 dX5_step_86 (by decide) (fun c8 => ?_) (fun c8 => ?_)
    · replace h := h.1 c8
      refine v_aload_n hC 0 dX5_step_96 rfl ?_
      refine gf_X5_9 hC dX5_step_97 ?_
      refine v_aload_n hC 0 dX5_step_100 rfl ?_
      refine gf_X5_105 hC dX5_step_101 ?_
      obtain ⟨hi9, h⟩ := h
      refine v_iald hC (Nat.le_of_ble_eq_true rfl) rfl rfl hi9 dX5_step_104 ?_
      refine v_callS hC (kT_isFigure _ _ _ h) cmT_isFigure kw461 kw460 ⟨Nat.le_of_ble_eq_true rfl, Nat.le_of_ble_eq_true rfl⟩ (fun _ => rfl) (st := []) (Nat.le_of_ble_eq_true rfl) rfl dX5_step_105 (kk_i (fun r11 σ11 h => ?_))
      refine v_if_eq hC 118 dX5_step_108 (by decide) (fun c12 => ?_) (fun c12 => ?_)
      · replace h := h.1 c12
        refine v_aload_n hC 0 dX5_step_118 rfl ?_
        refine v_aload_n hC 0 dX5_step_119 rfl ?_
        refine gf_X5_9 hC dX5_step_120 ?_
        refine v_aload_n hC 0 dX5_step_123 rfl ?_
        refine gf_X5_105 hC dX5_step_124 ?_
        obtain ⟨hi13, h⟩ := h
        refine v_iald hC (Nat.le_of_ble_eq_true rfl) rfl rfl hi13 dX5_step_127 ?_
        refine v_bipush hC (nI 59) dX5_step_128 rfl ?_
        have J14 : ∀ (v15 : Int32) (ev15 : v15 = (if (σ11 19 (σ11 18 4).toNatClampNeg) = (nI 59) then (nI 2) else (nI 4))), V X 1 138 [(0, .ref (xad X 18))] [.int v15, .ref (xad X 18)] σ11 := by
          intro v15 ev15
          replace h := h v15 ev15
          refine pf_X5_51 hC dX5_step_138 (fun σ16 e16 => ?_)
          replace h := h σ16 e16
          refine v_aload_n hC 0 dX5_step_141 rfl ?_
          refine v_aload_n hC 0 dX5_step_142 rfl ?_
          refine gf_X5_105 hC dX5_step_143 ?_
          refine v_iconst hC (nI 1) dX5_step_146 rfl ?_
          refine v_iadd hC dX5_step_147 ?_
          refine pf_X5_27 hC dX5_step_148 (fun σ17 e17 => ?_)
          replace h := h σ17 e17
          exact v_vret hC hR h dX5_step_151
        refine v_icmp_ne hC 137 dX5_step_130 (by decide) (fun c14 => ?_) (fun c14 => ?_)
        · refine v_iconst hC (nI 4) dX5_step_137 rfl ?_
          exact V.sub [0] rfl (J14 _ (by rw [if_neg c14]))
        · refine v_iconst hC (nI 2) dX5_step_133 rfl ?_
          refine v_goto hC 138 dX5_step_134 (by decide) ?_
          exact V.sub [0] rfl (J14 _ (by rw [if_pos c14]))
      · replace h := h.2 c12
        refine v_aload_n hC 0 dX5_step_111 rfl ?_
        refine v_callV hC (kT_stepNumber  _ _ h) cmT_stepNumber ⟨kw465, kw7⟩ kw463 ⟨Nat.le_of_ble_eq_true rfl, Nat.le_of_ble_eq_true rfl⟩ (Nat.le_of_ble_eq_true rfl) rfl (ci := 5) (T := TX5) (N := 8) rfl (As := fun G => []) (fun _ => rfl) (fun _ => rfl) (st := []) (Nat.le_of_ble_eq_true rfl) rfl dX5_step_112 (kk_v (fun σ19 h => ?_))
        refine v_goto hC 151 dX5_step_115 (by decide) ?_
        exact v_vret hC hR h dX5_step_151
    · replace h := h.2 c8
      refine v_aload_n hC 0 dX5_step_89 rfl ?_
      refine v_callV hC (kT_stepName  _ _ h) cmT_stepName ⟨kw458, kw6⟩ kw456 ⟨Nat.le_of_ble_eq_true rfl, Nat.le_of_ble_eq_true rfl⟩ (Nat.le_of_ble_eq_true rfl) rfl (ci := 5) (T := TX5) (N := 8) rfl (As := fun G => []) (fun _ => rfl) (fun _ => rfl) (st := []) (Nat.le_of_ble_eq_true rfl) rfl dX5_step_90 (kk_v (fun σ21 h => ?_))
      refine v_goto hC 151 dX5_step_93 (by decide) ?_
      exact v_vret hC hR h dX5_step_151
  · replace h := h.2 c4
    refine v_aload_n hC 0 dX5_step_66 rfl ?_
    refine v_iconst hC (nI 3) dX5_step_67 rfl ?_
    refine pf_X5_51 hC dX5_step_68 (fun σ22 e22 => ?_)
    replace h := h σ22 e22
    refine v_goto hC 151 dX5_step_71 (by decide) ?_
    exact v_vret hC hR h dX5_step_151
set_option maxHeartbeats 4000000 in
set_option maxRecDepth 100000 in
theorem tT_step_l8 {X : gX} {Q : gM → Prop} (hC : VC X cX5_step RX5 1 rmT_step) (hR : VR X none (gPv Q))  : ∀ (n : Nat) (σ : gM), wT_step_l8 Q  n  σ → V X 1 8 [(0, .ref (xad X 18))] [] σ := by
  intro n
  induction n with
  | zero => intro  σ h; exact h.elim
  | succ n ih =>
    intro  σ h
    replace h : ((σ 18 0) ≤ (σ 18 4) → (wT_step_b47 Q σ)) ∧ (¬ ((σ 18 0) ≤ (σ 18 4)) → (vp_in (σ 18 4) 400 ∧ (wT_isBlank (σ 19 (σ 18 4).toNatClampNeg) σ (fun (r25 : Int32) (σ25 : gM) => (r25 = nI 0 → (wT_step_b47 Q σ25)) ∧ (¬ (r25 = nI 0) → (∀ σ27 : gM, σ27 = gU σ25 18 4 ((σ25 18 4) + (nI 1)) → (wT_step_l8 Q n σ27))))))) := h
    refine v_aload_n hC 0 dX5_step_8 rfl ?_
    refine gf_X5_105 hC dX5_step_9 ?_
    refine v_aload_n hC 0 dX5_step_12 rfl ?_
    refine gf_X5_15 hC dX5_step_13 ?_
    refine v_icmp_ge hC 47 dX5_step_16 (by decide) (fun c2 => ?_) (fun c2 => ?_)
    · replace h := h.1 c2
      exact V.sub [0] rfl (tT_step_b47 hC hR  _ h)
    · replace h := h.2 c2
      refine v_aload_n hC 0 dX5_step_19 rfl ?_
      refine gf_X5_9 hC dX5_step_20 ?_
      refine v_aload_n hC 0 dX5_step_23 rfl ?_
      refine gf_X5_105 hC dX5_step_24 ?_
      obtain ⟨hi23, h⟩ := h
      refine v_iald hC (Nat.le_of_ble_eq_true rfl) rfl rfl hi23 dX5_step_27 ?_
      refine v_callS hC (kT_isBlank _ _ _ h) cmT_isBlank kw451 kw450 ⟨Nat.le_of_ble_eq_true rfl, Nat.le_of_ble_eq_true rfl⟩ (fun _ => rfl) (st := []) (Nat.le_of_ble_eq_true rfl) rfl dX5_step_28 (kk_i (fun r25 σ25 h => ?_))
      refine v_if_eq hC 47 dX5_step_31 (by decide) (fun c26 => ?_) (fun c26 => ?_)
      · replace h := h.1 c26
        exact V.sub [0] rfl (tT_step_b47 hC hR  _ h)
      · replace h := h.2 c26
        refine v_aload_n hC 0 dX5_step_34 rfl ?_
        refine v_dup hC dX5_step_35 rfl ?_
        refine gf_X5_105 hC dX5_step_36 ?_
        refine v_iconst hC (nI 1) dX5_step_39 rfl ?_
        refine v_iadd hC dX5_step_40 ?_
        refine pf_X5_105 hC dX5_step_41 (fun σ27 e27 => ?_)
        replace h := h σ27 e27
        refine v_goto hC 8 dX5_step_44 (by decide) ?_
        exact V.sub [0] rfl (ih _ h)
set_option maxHeartbeats 4000000 in
set_option maxRecDepth 100000 in
theorem kT_step  (σ : gM) (Q : gM → Prop) (h : wT_step  σ Q) : CT yX5_step cX5_step 1 none rmT_step (fun G => [.ref (gad G 18)]) σ (gPv Q) := by
  refine c_enter (by decide) (fun _ => Nat.le_of_ble_eq_true rfl) (fun X hC hR => ?_)
  show V X 1 0 [(0, .ref (xad X 18))] [] σ
  replace h : ∀ σ1 : gM, σ1 = gU σ 18 4 (σ 18 5) → (∃ n28 : Nat, wT_step_l8 Q n28 σ1) := h
  refine v_aload_n hC 0 dX5_step_0 rfl ?_
  refine v_aload_n hC 0 dX5_step_1 rfl ?_
  refine gf_X5_27 hC dX5_step_2 ?_
  refine pf_X5_105 hC dX5_step_5 (fun σ1 e1 => ?_)
  replace h := h σ1 e1
  obtain ⟨n28, h⟩ := h
  exact V.sub [0] rfl (tT_step_l8 hC hR  n28 _ h)
theorem cmT_step : CM yX5_step cX5_step 1 none rmT_step 0 := ⟨kw76, kw449, rfl, rfl, by decide, by decide, by decide +kernel⟩
def rmT_isWord : Room := { frames := 5, cells := 0, slots := 0, locals := 120 }
def wT_isWord_law_l27 (Q : Int32 → gM → Prop)  : Nat → Int32 → gM → Prop
  | 0, _, _ => False
  | n + 1, x2, σ =>
    ((nI 3) ≤ x2 → (Q (nI 1) σ)) ∧ (¬ ((nI 3) ≤ x2) → (vp_in ((σ 18 4) + x2) 400 ∧ (vp_in x2 3 ∧ (((σ 19 ((σ 18 4) + x2).toNatClampNeg) = (gCh 0 x2.toNatClampNeg) → (∀ x2_9 : Int32, x2_9 = x2 + (nI 1) → (wT_isWord_law_l27 Q n x2_9 σ))) ∧ (¬ ((σ 19 ((σ 18 4) + x2).toNatClampNeg) = (gCh 0 x2.toNatClampNeg)) → (Q (nI 0) σ))))))
def wT_isWord_law  (σ : gM) (Q : Int32 → gM → Prop) : Prop :=
    ((σ 18 6) = nI 0 → ((((σ 18 5) - (σ 18 4)) = (nI 3) → (∃ n10 : Nat, wT_isWord_law_l27 Q n10 (nI 0) σ)) ∧ (¬ (((σ 18 5) - (σ 18 4)) = (nI 3)) → (Q (nI 0) σ)))) ∧ (¬ ((σ 18 6) = nI 0) → (Q (nI 0) σ))
set_option maxHeartbeats 4000000 in
set_option maxRecDepth 100000 in
theorem tT_isWord_law_l27 {X : gX} {Q : Int32 → gM → Prop} (hC : VC X cX5_isWord RX5 3 rmT_isWord) (hR : VR X (some .boolean) (gPi Q))  : ∀ (n : Nat) (x2 : Int32) (σ : gM), wT_isWord_law_l27 Q  n x2 σ → V X 3 27 [(0, .ref (xad X 18)), (1, .ref (gK (xG X) 0)), (2, .int x2)] [] σ := by
  intro n
  induction n with
  | zero => intro x2 σ h; exact h.elim
  | succ n ih =>
    intro x2 σ h
    replace h : ((nI 3) ≤ x2 → (Q (nI 1) σ)) ∧ (¬ ((nI 3) ≤ x2) → (vp_in ((σ 18 4) + x2) 400 ∧ (vp_in x2 3 ∧ (((σ 19 ((σ 18 4) + x2).toNatClampNeg) = (gCh 0 x2.toNatClampNeg) → (∀ x2_9 : Int32, x2_9 = x2 + (nI 1) → (wT_isWord_law_l27 Q n x2_9 σ))) ∧ (¬ ((σ 19 ((σ 18 4) + x2).toNatClampNeg) = (gCh 0 x2.toNatClampNeg)) → (Q (nI 0) σ)))))) := h
    refine v_iload_n hC 2 dX5_isWord_27 rfl ?_
    refine v_aload_n hC 1 dX5_isWord_28 rfl ?_
    refine v_slen hC 0 (nI 3) kw476 (by decide) rfl (by decide) (Nat.le_of_ble_eq_true rfl) dX5_isWord_29 ?_
    refine v_icmp_ge hC 62 dX5_isWord_32 (by decide) (fun c5 => ?_) (fun c5 => ?_)
    · replace h := h.1 c5
      refine v_iconst hC (nI 1) dX5_isWord_62 rfl ?_
      exact v_zret hC hR rfl h dX5_isWord_63
    · replace h := h.2 c5
      refine v_aload_n hC 0 dX5_isWord_35 rfl ?_
      refine gf_X5_9 hC dX5_isWord_36 ?_
      refine v_aload_n hC 0 dX5_isWord_39 rfl ?_
      refine gf_X5_105 hC dX5_isWord_40 ?_
      refine v_iload_n hC 2 dX5_isWord_43 rfl ?_
      refine v_iadd hC dX5_isWord_44 ?_
      obtain ⟨hi6, h⟩ := h
      refine v_iald hC (Nat.le_of_ble_eq_true rfl) rfl rfl hi6 dX5_isWord_45 ?_
      refine v_aload_n hC 1 dX5_isWord_46 rfl ?_
      refine v_iload_n hC 2 dX5_isWord_47 rfl ?_
      obtain ⟨hi7, h⟩ := h
      refine v_schar hC 0 kw486 (by decide) hi7 (by decide) (Nat.le_of_ble_eq_true rfl) dX5_isWord_48 ?_
      refine v_icmp_eq hC 56 dX5_isWord_51 (by decide) (fun c8 => ?_) (fun c8 => ?_)
      · replace h := h.1 c8
        refine v_iincN hC (nI 1) 2 dX5_isWord_56 rfl rfl (by decide) (lo2 := fun x2_9 => [(2, .int x2_9), (0, .ref (xad X 18)), (1, .ref (gK (xG X) 0))]) (fun _ => rfl) (fun x2_9 e9 => ?_)
        replace h := h x2_9 e9
        refine v_goto hC 27 dX5_isWord_59 (by decide) ?_
        exact V.sub [1, 2, 0] rfl (ih _ _ h)
      · replace h := h.2 c8
        refine v_iconst hC (nI 0) dX5_isWord_54 rfl ?_
        exact v_zret hC hR rfl h dX5_isWord_55
set_option maxHeartbeats 4000000 in
set_option maxRecDepth 100000 in
theorem kT_isWord_law  (σ : gM) (Q : Int32 → gM → Prop) (h : wT_isWord_law  σ Q) : CT yX5_isWord cX5_isWord 3 (some .boolean) rmT_isWord (fun G => [.ref (gad G 18), .ref (gK G 0)]) σ (gPi Q) := by
  refine c_enter (by decide) (fun _ => Nat.le_of_ble_eq_true rfl) (fun X hC hR => ?_)
  show V X 3 0 [(0, .ref (xad X 18)), (1, .ref (gK (xG X) 0))] [] σ
  replace h : ((σ 18 6) = nI 0 → ((((σ 18 5) - (σ 18 4)) = (nI 3) → (∃ n10 : Nat, wT_isWord_law_l27 Q n10 (nI 0) σ)) ∧ (¬ (((σ 18 5) - (σ 18 4)) = (nI 3)) → (Q (nI 0) σ)))) ∧ (¬ ((σ 18 6) = nI 0) → (Q (nI 0) σ)) := h
  refine v_aload_n hC 0 dX5_isWord_0 rfl ?_
  refine gf_X5_51 hC dX5_isWord_1 ?_
  refine v_if_ne hC 23 dX5_isWord_4 (by decide) (fun c1 => ?_) (fun c1 => ?_)
  · replace h := h.2 c1
    refine v_iconst hC (nI 0) dX5_isWord_23 rfl ?_
    exact v_zret hC hR rfl h dX5_isWord_24
  · replace h := h.1 c1
    refine v_aload_n hC 0 dX5_isWord_7 rfl ?_
    refine gf_X5_27 hC dX5_isWord_8 ?_
    refine v_aload_n hC 0 dX5_isWord_11 rfl ?_
    refine gf_X5_105 hC dX5_isWord_12 ?_
    refine v_isub hC dX5_isWord_15 ?_
    refine v_aload_n hC 1 dX5_isWord_16 rfl ?_
    refine v_slen hC 0 (nI 3) kw476 (by decide) rfl (by decide) (Nat.le_of_ble_eq_true rfl) dX5_isWord_17 ?_
    refine v_icmp_eq hC 25 dX5_isWord_20 (by decide) (fun c3 => ?_) (fun c3 => ?_)
    · replace h := h.1 c3
      refine v_iconst hC (nI 0) dX5_isWord_25 rfl ?_
      refine v_istore_n hC dX5_isWord_26 (by decide) rfl ?_
      obtain ⟨n10, h⟩ := h
      exact V.sub [1, 2, 0] rfl (tT_isWord_law_l27 hC hR  n10 _ _ h)
    · replace h := h.2 c3
      refine v_iconst hC (nI 0) dX5_isWord_23 rfl ?_
      exact v_zret hC hR rfl h dX5_isWord_24
theorem cmT_isWord : CM yX5_isWord cX5_isWord 3 (some .boolean) rmT_isWord 1 := ⟨kw76, kw475, rfl, rfl, by decide, by decide, by decide +kernel⟩
def rmT_fail : Room := { frames := 0, cells := 0, slots := 0, locals := 0 }
def wT_fail (x1 : Int32) (σ : gM) (Q : gM → Prop) : Prop :=
    ((σ 18 1) = nI 0 → (∀ σ2 : gM, σ2 = gU σ 18 1 x1 → (∀ σ3 : gM, σ3 = gU σ2 18 2 (σ2 18 4) → (∀ σ4 : gM, σ4 = gU σ3 18 6 (nI 4) → (Q σ4))))) ∧ (¬ ((σ 18 1) = nI 0) → (∀ σ5 : gM, σ5 = gU σ 18 6 (nI 4) → (Q σ5)))
set_option maxHeartbeats 4000000 in
set_option maxRecDepth 100000 in
theorem kT_fail (x1 : Int32) (σ : gM) (Q : gM → Prop) (h : wT_fail x1 σ Q) : CT yX5_fail cX5_fail 2 none rmT_fail (fun G => [.ref (gad G 18), .int x1]) σ (gPv Q) := by
  refine c_enter (by decide) (fun _ => Nat.le_of_ble_eq_true rfl) (fun X hC hR => ?_)
  show V X 2 0 [(0, .ref (xad X 18)), (1, .int x1)] [] σ
  replace h : ((σ 18 1) = nI 0 → (∀ σ2 : gM, σ2 = gU σ 18 1 x1 → (∀ σ3 : gM, σ3 = gU σ2 18 2 (σ2 18 4) → (∀ σ4 : gM, σ4 = gU σ3 18 6 (nI 4) → (Q σ4))))) ∧ (¬ ((σ 18 1) = nI 0) → (∀ σ5 : gM, σ5 = gU σ 18 6 (nI 4) → (Q σ5))) := h
  refine v_aload_n hC 0 dX5_fail_0 rfl ?_
  refine gf_X5_24 hC dX5_fail_1 ?_
  refine v_if_ne hC 20 dX5_fail_4 (by decide) (fun c1 => ?_) (fun c1 => ?_)
  · replace h := h.2 c1
    refine v_aload_n hC 0 dX5_fail_20 rfl ?_
    refine v_iconst hC (nI 4) dX5_fail_21 rfl ?_
    refine pf_X5_51 hC dX5_fail_22 (fun σ5 e5 => ?_)
    replace h := h σ5 e5
    exact v_vret hC hR h dX5_fail_25
  · replace h := h.1 c1
    refine v_aload_n hC 0 dX5_fail_7 rfl ?_
    refine v_iload_n hC 1 dX5_fail_8 rfl ?_
    refine pf_X5_24 hC dX5_fail_9 (fun σ2 e2 => ?_)
    replace h := h σ2 e2
    refine v_aload_n hC 0 dX5_fail_12 rfl ?_
    refine v_aload_n hC 0 dX5_fail_13 rfl ?_
    refine gf_X5_105 hC dX5_fail_14 ?_
    refine pf_X5_108 hC dX5_fail_17 (fun σ3 e3 => ?_)
    replace h := h σ3 e3
    refine v_aload_n hC 0 dX5_fail_20 rfl ?_
    refine v_iconst hC (nI 4) dX5_fail_21 rfl ?_
    refine pf_X5_51 hC dX5_fail_22 (fun σ4 e4 => ?_)
    replace h := h σ4 e4
    exact v_vret hC hR h dX5_fail_25
theorem cmT_fail : CM yX5_fail cX5_fail 2 none rmT_fail 1 := ⟨kw76, kw527, rfl, rfl, by decide, by decide, by decide +kernel⟩
def rmT_readNumber : Room := { frames := 3, cells := 0, slots := 0, locals := 60 }
def wT_readNumber (x1 : Int32) (σ : gM) (Q : Int32 → gM → Prop) : Prop :=
    ((σ 18 6) = (nI 1) → (((σ 18 7) ≤ x1 → (∀ x2_3 : Int32, x2_3 = (σ 18 7) → (wT_step  σ (fun (σ5 : gM) => Q x2_3 σ5)))) ∧ (¬ ((σ 18 7) ≤ x1) → (wT_fail (nI 2) σ (fun (σ7 : gM) => Q (nI 0) σ7))))) ∧ (¬ ((σ 18 6) = (nI 1)) → (wT_fail (nI 1) σ (fun (σ9 : gM) => Q (nI 0) σ9)))
set_option maxHeartbeats 4000000 in
set_option maxRecDepth 100000 in
theorem kT_readNumber (x1 : Int32) (σ : gM) (Q : Int32 → gM → Prop) (h : wT_readNumber x1 σ Q) : CT yX5_readNumber cX5_readNumber 3 (some .int) rmT_readNumber (fun G => [.ref (gad G 18), .int x1]) σ (gPi Q) := by
  refine c_enter (by decide) (fun _ => Nat.le_of_ble_eq_true rfl) (fun X hC hR => ?_)
  show V X 3 0 [(0, .ref (xad X 18)), (1, .int x1)] [] σ
  replace h : ((σ 18 6) = (nI 1) → (((σ 18 7) ≤ x1 → (∀ x2_3 : Int32, x2_3 = (σ 18 7) → (wT_step  σ (fun (σ5 : gM) => Q x2_3 σ5)))) ∧ (¬ ((σ 18 7) ≤ x1) → (wT_fail (nI 2) σ (fun (σ7 : gM) => Q (nI 0) σ7))))) ∧ (¬ ((σ 18 6) = (nI 1)) → (wT_fail (nI 1) σ (fun (σ9 : gM) => Q (nI 0) σ9))) := h
  refine v_aload_n hC 0 dX5_readNumber_0 rfl ?_
  refine gf_X5_51 hC dX5_readNumber_1 ?_
  refine v_iconst hC (nI 1) dX5_readNumber_4 rfl ?_
  refine v_icmp_eq hC 15 dX5_readNumber_5 (by decide) (fun c1 => ?_) (fun c1 => ?_)
  · replace h := h.1 c1
    refine v_aload_n hC 0 dX5_readNumber_15 rfl ?_
    refine gf_X5_102 hC dX5_readNumber_16 ?_
    refine v_iload_n hC 1 dX5_readNumber_19 rfl ?_
    refine v_icmp_le hC 30 dX5_readNumber_20 (by decide) (fun c2 => ?_) (fun c2 => ?_)
    · replace h := h.1 c2
      refine v_aload_n hC 0 dX5_readNumber_30 rfl ?_
      refine gf_X5_102 hC dX5_readNumber_31 ?_
      refine v_istore_nN hC dX5_readNumber_34 (by decide) (lo2 := fun x2_3 => [(2, .int x2_3), (0, .ref (xad X 18)), (1, .int x1)]) (fun _ => rfl) (fun x2_3 e3 => ?_)
      replace h := h x2_3 e3
      refine v_aload_n hC 1 dX5_readNumber_35 rfl ?_
      refine v_callV hC (kT_step  _ _ h) cmT_step ⟨kw448, kw5⟩ kw446 ⟨Nat.le_of_ble_eq_true rfl, Nat.le_of_ble_eq_true rfl⟩ (Nat.le_of_ble_eq_true rfl) rfl (ci := 5) (T := TX5) (N := 8) rfl (As := fun G => []) (fun _ => rfl) (fun _ => rfl) (st := []) (Nat.le_of_ble_eq_true rfl) rfl dX5_readNumber_36 (kk_v (fun σ5 h => ?_))
      refine v_iload_n hC 0 dX5_readNumber_39 rfl ?_
      exact v_iret hC hR h dX5_readNumber_40
    · replace h := h.2 c2
      refine v_aload_n hC 0 dX5_readNumber_23 rfl ?_
      refine v_iconst hC (nI 2) dX5_readNumber_24 rfl ?_
      refine v_callV hC (kT_fail _ _ _ h) cmT_fail ⟨kw526, kw10⟩ kw524 ⟨Nat.le_of_ble_eq_true rfl, Nat.le_of_ble_eq_true rfl⟩ (Nat.le_of_ble_eq_true rfl) rfl (ci := 5) (T := TX5) (N := 8) rfl (As := fun G => [.int (nI 2)]) (fun _ => rfl) (fun _ => rfl) (st := []) (Nat.le_of_ble_eq_true rfl) rfl dX5_readNumber_25 (kk_v (fun σ7 h => ?_))
      refine v_iconst hC (nI 0) dX5_readNumber_28 rfl ?_
      exact v_iret hC hR h dX5_readNumber_29
  · replace h := h.2 c1
    refine v_aload_n hC 0 dX5_readNumber_8 rfl ?_
    refine v_iconst hC (nI 1) dX5_readNumber_9 rfl ?_
    refine v_callV hC (kT_fail _ _ _ h) cmT_fail ⟨kw526, kw10⟩ kw524 ⟨Nat.le_of_ble_eq_true rfl, Nat.le_of_ble_eq_true rfl⟩ (Nat.le_of_ble_eq_true rfl) rfl (ci := 5) (T := TX5) (N := 8) rfl (As := fun G => [.int (nI 1)]) (fun _ => rfl) (fun _ => rfl) (st := []) (Nat.le_of_ble_eq_true rfl) rfl dX5_readNumber_10 (kk_v (fun σ9 h => ?_))
    refine v_iconst hC (nI 0) dX5_readNumber_13 rfl ?_
    exact v_iret hC hR h dX5_readNumber_14
theorem cmT_readNumber : CM yX5_readNumber cX5_readNumber 3 (some .int) rmT_readNumber 1 := ⟨kw76, kw531, rfl, rfl, by decide, by decide, by decide +kernel⟩
def rmT_readSign : Room := { frames := 3, cells := 0, slots := 0, locals := 60 }
def wT_readSign  (σ : gM) (Q : gM → Prop) : Prop :=
    ((σ 18 6) = (nI 2) → (wT_step  σ (fun (σ3 : gM) => Q σ3))) ∧ (¬ ((σ 18 6) = (nI 2)) → (wT_fail (nI 1) σ (fun (σ5 : gM) => Q σ5)))
set_option maxHeartbeats 4000000 in
set_option maxRecDepth 100000 in
theorem kT_readSign  (σ : gM) (Q : gM → Prop) (h : wT_readSign  σ Q) : CT yX5_readSign cX5_readSign 1 none rmT_readSign (fun G => [.ref (gad G 18)]) σ (gPv Q) := by
  refine c_enter (by decide) (fun _ => Nat.le_of_ble_eq_true rfl) (fun X hC hR => ?_)
  show V X 1 0 [(0, .ref (xad X 18))] [] σ
  replace h : ((σ 18 6) = (nI 2) → (wT_step  σ (fun (σ3 : gM) => Q σ3))) ∧ (¬ ((σ 18 6) = (nI 2)) → (wT_fail (nI 1) σ (fun (σ5 : gM) => Q σ5))) := h
  refine v_aload_n hC 0 dX5_readSign_0 rfl ?_
  refine gf_X5_51 hC dX5_readSign_1 ?_
  refine v_iconst hC (nI 2) dX5_readSign_4 rfl ?_
  refine v_icmp_ne hC 15 dX5_readSign_5 (by decide) (fun c1 => ?_) (fun c1 => ?_)
  · replace h := h.2 c1
    refine v_aload_n hC 0 dX5_readSign_15 rfl ?_
    refine v_iconst hC (nI 1) dX5_readSign_16 rfl ?_
    refine v_callV hC (kT_fail _ _ _ h) cmT_fail ⟨kw526, kw10⟩ kw524 ⟨Nat.le_of_ble_eq_true rfl, Nat.le_of_ble_eq_true rfl⟩ (Nat.le_of_ble_eq_true rfl) rfl (ci := 5) (T := TX5) (N := 8) rfl (As := fun G => [.int (nI 1)]) (fun _ => rfl) (fun _ => rfl) (st := []) (Nat.le_of_ble_eq_true rfl) rfl dX5_readSign_17 (kk_v (fun σ5 h => ?_))
    exact v_vret hC hR h dX5_readSign_20
  · replace h := h.1 c1
    refine v_aload_n hC 0 dX5_readSign_8 rfl ?_
    refine v_callV hC (kT_step  _ _ h) cmT_step ⟨kw448, kw5⟩ kw446 ⟨Nat.le_of_ble_eq_true rfl, Nat.le_of_ble_eq_true rfl⟩ (Nat.le_of_ble_eq_true rfl) rfl (ci := 5) (T := TX5) (N := 8) rfl (As := fun G => []) (fun _ => rfl) (fun _ => rfl) (st := []) (Nat.le_of_ble_eq_true rfl) rfl dX5_readSign_9 (kk_v (fun σ3 h => ?_))
    refine v_goto hC 20 dX5_readSign_12 (by decide) ?_
    exact v_vret hC hR h dX5_readSign_20
theorem cmT_readSign : CM yX5_readSign cX5_readSign 1 none rmT_readSign 0 := ⟨kw76, kw535, rfl, rfl, by decide, by decide, by decide +kernel⟩
def rmT_readLaw : Room := { frames := 6, cells := 0, slots := 0, locals := 142 }
def wT_readLaw_52  (σ : gM) (Q : gM → Prop) : Prop :=
    wT_isWord_law  σ (fun (r2 : Int32) (σ2 : gM) => (r2 = nI 0 → (wT_fail (nI 1) σ2 (fun (σ5 : gM) => wT_readNumber (nI 1) σ5 (fun (r7 : Int32) (σ7 : gM) => ∀ σ8 : gM, σ8 = gU σ7 52 1 r7 → (wT_readSign  σ8 (fun (σ10 : gM) => Q σ10)))))) ∧ (¬ (r2 = nI 0) → (wT_step  σ2 (fun (σ12 : gM) => wT_readNumber (nI 1) σ12 (fun (r14 : Int32) (σ14 : gM) => ∀ σ15 : gM, σ15 = gU σ14 52 1 r14 → (wT_readSign  σ15 (fun (σ17 : gM) => Q σ17)))))))
set_option maxHeartbeats 4000000 in
set_option maxRecDepth 100000 in
theorem kT_readLaw_52  (σ : gM) (Q : gM → Prop) (h : wT_readLaw_52  σ Q) : CT yX5_readLaw cX5_readLaw 2 none rmT_readLaw (fun G => [.ref (gad G 18), .ref (gad G 52)]) σ (gPv Q) := by
  refine c_enter (by decide) (fun _ => Nat.le_of_ble_eq_true rfl) (fun X hC hR => ?_)
  show V X 2 0 [(0, .ref (xad X 18)), (1, .ref (xad X 52))] [] σ
  replace h : wT_isWord_law  σ (fun (r2 : Int32) (σ2 : gM) => (r2 = nI 0 → (wT_fail (nI 1) σ2 (fun (σ5 : gM) => wT_readNumber (nI 1) σ5 (fun (r7 : Int32) (σ7 : gM) => ∀ σ8 : gM, σ8 = gU σ7 52 1 r7 → (wT_readSign  σ8 (fun (σ10 : gM) => Q σ10)))))) ∧ (¬ (r2 = nI 0) → (wT_step  σ2 (fun (σ12 : gM) => wT_readNumber (nI 1) σ12 (fun (r14 : Int32) (σ14 : gM) => ∀ σ15 : gM, σ15 = gU σ14 52 1 r14 → (wT_readSign  σ15 (fun (σ17 : gM) => Q σ17))))))) := h
  refine v_aload_n hC 0 dX5_readLaw_0 rfl ?_
  refine v_ldcS hC 0 rfl dX5_readLaw_1 ?_
  refine v_callV hC (kT_isWord_law  _ _ h) cmT_isWord ⟨kw474, kw9⟩ kw472 ⟨Nat.le_of_ble_eq_true rfl, Nat.le_of_ble_eq_true rfl⟩ (Nat.le_of_ble_eq_true rfl) rfl (ci := 5) (T := TX5) (N := 8) rfl (As := fun G => [.ref (gK G 0)]) (fun _ => rfl) (fun _ => rfl) (st := []) (Nat.le_of_ble_eq_true rfl) rfl dX5_readLaw_3 (kk_i (fun r2 σ2 h => ?_))
  refine v_if_eq hC 16 dX5_readLaw_6 (by decide) (fun c3 => ?_) (fun c3 => ?_)
  · replace h := h.1 c3
    refine v_aload_n hC 0 dX5_readLaw_16 rfl ?_
    refine v_iconst hC (nI 1) dX5_readLaw_17 rfl ?_
    refine v_callV hC (kT_fail _ _ _ h) cmT_fail ⟨kw526, kw10⟩ kw524 ⟨Nat.le_of_ble_eq_true rfl, Nat.le_of_ble_eq_true rfl⟩ (Nat.le_of_ble_eq_true rfl) rfl (ci := 5) (T := TX5) (N := 8) rfl (As := fun G => [.int (nI 1)]) (fun _ => rfl) (fun _ => rfl) (st := []) (Nat.le_of_ble_eq_true rfl) rfl dX5_readLaw_18 (kk_v (fun σ5 h => ?_))
    refine v_aload_n hC 1 dX5_readLaw_21 rfl ?_
    refine v_aload_n hC 0 dX5_readLaw_22 rfl ?_
    refine v_iconst hC (nI 1) dX5_readLaw_23 rfl ?_
    refine v_callV hC (kT_readNumber _ _ _ h) cmT_readNumber ⟨kw530, kw11⟩ kw528 ⟨Nat.le_of_ble_eq_true rfl, Nat.le_of_ble_eq_true rfl⟩ (Nat.le_of_ble_eq_true rfl) rfl (ci := 5) (T := TX5) (N := 8) rfl (As := fun G => [.int (nI 1)]) (fun _ => rfl) (fun _ => rfl) (st := [.ref (xad X 52)]) (Nat.le_of_ble_eq_true rfl) rfl dX5_readLaw_24 (kk_i (fun r7 σ7 h => ?_))
    refine pf_X5_64_52 hC dX5_readLaw_27 (fun σ8 e8 => ?_)
    replace h := h σ8 e8
    refine v_aload_n hC 0 dX5_readLaw_30 rfl ?_
    refine v_callV hC (kT_readSign  _ _ h) cmT_readSign ⟨kw534, kw12⟩ kw532 ⟨Nat.le_of_ble_eq_true rfl, Nat.le_of_ble_eq_true rfl⟩ (Nat.le_of_ble_eq_true rfl) rfl (ci := 5) (T := TX5) (N := 8) rfl (As := fun G => []) (fun _ => rfl) (fun _ => rfl) (st := []) (Nat.le_of_ble_eq_true rfl) rfl dX5_readLaw_31 (kk_v (fun σ10 h => ?_))
    exact v_vret hC hR h dX5_readLaw_34
  · replace h := h.2 c3
    refine v_aload_n hC 0 dX5_readLaw_9 rfl ?_
    refine v_callV hC (kT_step  _ _ h) cmT_step ⟨kw448, kw5⟩ kw446 ⟨Nat.le_of_ble_eq_true rfl, Nat.le_of_ble_eq_true rfl⟩ (Nat.le_of_ble_eq_true rfl) rfl (ci := 5) (T := TX5) (N := 8) rfl (As := fun G => []) (fun _ => rfl) (fun _ => rfl) (st := []) (Nat.le_of_ble_eq_true rfl) rfl dX5_readLaw_10 (kk_v (fun σ12 h => ?_))
    refine v_goto hC 21 dX5_readLaw_13 (by decide) ?_
    refine v_aload_n hC 1 dX5_readLaw_21 rfl ?_
    refine v_aload_n hC 0 dX5_readLaw_22 rfl ?_
    refine v_iconst hC (nI 1) dX5_readLaw_23 rfl ?_
    refine v_callV hC (kT_readNumber _ _ _ h) cmT_readNumber ⟨kw530, kw11⟩ kw528 ⟨Nat.le_of_ble_eq_true rfl, Nat.le_of_ble_eq_true rfl⟩ (Nat.le_of_ble_eq_true rfl) rfl (ci := 5) (T := TX5) (N := 8) rfl (As := fun G => [.int (nI 1)]) (fun _ => rfl) (fun _ => rfl) (st := [.ref (xad X 52)]) (Nat.le_of_ble_eq_true rfl) rfl dX5_readLaw_24 (kk_i (fun r14 σ14 h => ?_))
    refine pf_X5_64_52 hC dX5_readLaw_27 (fun σ15 e15 => ?_)
    replace h := h σ15 e15
    refine v_aload_n hC 0 dX5_readLaw_30 rfl ?_
    refine v_callV hC (kT_readSign  _ _ h) cmT_readSign ⟨kw534, kw12⟩ kw532 ⟨Nat.le_of_ble_eq_true rfl, Nat.le_of_ble_eq_true rfl⟩ (Nat.le_of_ble_eq_true rfl) rfl (ci := 5) (T := TX5) (N := 8) rfl (As := fun G => []) (fun _ => rfl) (fun _ => rfl) (st := []) (Nat.le_of_ble_eq_true rfl) rfl dX5_readLaw_31 (kk_v (fun σ17 h => ?_))
    exact v_vret hC hR h dX5_readLaw_34
theorem cmT_readLaw : CM yX5_readLaw cX5_readLaw 2 none rmT_readLaw 1 := ⟨kw76, kw470, rfl, rfl, by decide, by decide, by decide +kernel⟩
def wT_isWord_ware_l27 (Q : Int32 → gM → Prop)  : Nat → Int32 → gM → Prop
  | 0, _, _ => False
  | n + 1, x2, σ =>
    ((nI 4) ≤ x2 → (Q (nI 1) σ)) ∧ (¬ ((nI 4) ≤ x2) → (vp_in ((σ 18 4) + x2) 400 ∧ (vp_in x2 4 ∧ (((σ 19 ((σ 18 4) + x2).toNatClampNeg) = (gCh 2 x2.toNatClampNeg) → (∀ x2_9 : Int32, x2_9 = x2 + (nI 1) → (wT_isWord_ware_l27 Q n x2_9 σ))) ∧ (¬ ((σ 19 ((σ 18 4) + x2).toNatClampNeg) = (gCh 2 x2.toNatClampNeg)) → (Q (nI 0) σ))))))
def wT_isWord_ware  (σ : gM) (Q : Int32 → gM → Prop) : Prop :=
    ((σ 18 6) = nI 0 → ((((σ 18 5) - (σ 18 4)) = (nI 4) → (∃ n10 : Nat, wT_isWord_ware_l27 Q n10 (nI 0) σ)) ∧ (¬ (((σ 18 5) - (σ 18 4)) = (nI 4)) → (Q (nI 0) σ)))) ∧ (¬ ((σ 18 6) = nI 0) → (Q (nI 0) σ))
set_option maxHeartbeats 4000000 in
set_option maxRecDepth 100000 in
theorem tT_isWord_ware_l27 {X : gX} {Q : Int32 → gM → Prop} (hC : VC X cX5_isWord RX5 3 rmT_isWord) (hR : VR X (some .boolean) (gPi Q))  : ∀ (n : Nat) (x2 : Int32) (σ : gM), wT_isWord_ware_l27 Q  n x2 σ → V X 3 27 [(0, .ref (xad X 18)), (1, .ref (gK (xG X) 2)), (2, .int x2)] [] σ := by
  intro n
  induction n with
  | zero => intro x2 σ h; exact h.elim
  | succ n ih =>
    intro x2 σ h
    replace h : ((nI 4) ≤ x2 → (Q (nI 1) σ)) ∧ (¬ ((nI 4) ≤ x2) → (vp_in ((σ 18 4) + x2) 400 ∧ (vp_in x2 4 ∧ (((σ 19 ((σ 18 4) + x2).toNatClampNeg) = (gCh 2 x2.toNatClampNeg) → (∀ x2_9 : Int32, x2_9 = x2 + (nI 1) → (wT_isWord_ware_l27 Q n x2_9 σ))) ∧ (¬ ((σ 19 ((σ 18 4) + x2).toNatClampNeg) = (gCh 2 x2.toNatClampNeg)) → (Q (nI 0) σ)))))) := h
    refine v_iload_n hC 2 dX5_isWord_27 rfl ?_
    refine v_aload_n hC 1 dX5_isWord_28 rfl ?_
    refine v_slen hC 2 (nI 4) kw476 (by decide) rfl (by decide) (Nat.le_of_ble_eq_true rfl) dX5_isWord_29 ?_
    refine v_icmp_ge hC 62 dX5_isWord_32 (by decide) (fun c5 => ?_) (fun c5 => ?_)
    · replace h := h.1 c5
      refine v_iconst hC (nI 1) dX5_isWord_62 rfl ?_
      exact v_zret hC hR rfl h dX5_isWord_63
    · replace h := h.2 c5
      refine v_aload_n hC 0 dX5_isWord_35 rfl ?_
      refine gf_X5_9 hC dX5_isWord_36 ?_
      refine v_aload_n hC 0 dX5_isWord_39 rfl ?_
      refine gf_X5_105 hC dX5_isWord_40 ?_
      refine v_iload_n hC 2 dX5_isWord_43 rfl ?_
      refine v_iadd hC dX5_isWord_44 ?_
      obtain ⟨hi6, h⟩ := h
      refine v_iald hC (Nat.le_of_ble_eq_true rfl) rfl rfl hi6 dX5_isWord_45 ?_
      refine v_aload_n hC 1 dX5_isWord_46 rfl ?_
      refine v_iload_n hC 2 dX5_isWord_47 rfl ?_
      obtain ⟨hi7, h⟩ := h
      refine v_schar hC 2 kw486 (by decide) hi7 (by decide) (Nat.le_of_ble_eq_true rfl) dX5_isWord_48 ?_
      refine v_icmp_eq hC 56 dX5_isWord_51 (by decide) (fun c8 => ?_) (fun c8 => ?_)
      · replace h := h.1 c8
        refine v_iincN hC (nI 1) 2 dX5_isWord_56 rfl rfl (by decide) (lo2 := fun x2_9 => [(2, .int x2_9), (0, .ref (xad X 18)), (1, .ref (gK (xG X) 2))]) (fun _ => rfl) (fun x2_9 e9 => ?_)
        replace h := h x2_9 e9
        refine v_goto hC 27 dX5_isWord_59 (by decide) ?_
        exact V.sub [1, 2, 0] rfl (ih _ _ h)
      · replace h := h.2 c8
        refine v_iconst hC (nI 0) dX5_isWord_54 rfl ?_
        exact v_zret hC hR rfl h dX5_isWord_55
set_option maxHeartbeats 4000000 in
set_option maxRecDepth 100000 in
theorem kT_isWord_ware  (σ : gM) (Q : Int32 → gM → Prop) (h : wT_isWord_ware  σ Q) : CT yX5_isWord cX5_isWord 3 (some .boolean) rmT_isWord (fun G => [.ref (gad G 18), .ref (gK G 2)]) σ (gPi Q) := by
  refine c_enter (by decide) (fun _ => Nat.le_of_ble_eq_true rfl) (fun X hC hR => ?_)
  show V X 3 0 [(0, .ref (xad X 18)), (1, .ref (gK (xG X) 2))] [] σ
  replace h : ((σ 18 6) = nI 0 → ((((σ 18 5) - (σ 18 4)) = (nI 4) → (∃ n10 : Nat, wT_isWord_ware_l27 Q n10 (nI 0) σ)) ∧ (¬ (((σ 18 5) - (σ 18 4)) = (nI 4)) → (Q (nI 0) σ)))) ∧ (¬ ((σ 18 6) = nI 0) → (Q (nI 0) σ)) := h
  refine v_aload_n hC 0 dX5_isWord_0 rfl ?_
  refine gf_X5_51 hC dX5_isWord_1 ?_
  refine v_if_ne hC 23 dX5_isWord_4 (by decide) (fun c1 => ?_) (fun c1 => ?_)
  · replace h := h.2 c1
    refine v_iconst hC (nI 0) dX5_isWord_23 rfl ?_
    exact v_zret hC hR rfl h dX5_isWord_24
  · replace h := h.1 c1
    refine v_aload_n hC 0 dX5_isWord_7 rfl ?_
    refine gf_X5_27 hC dX5_isWord_8 ?_
    refine v_aload_n hC 0 dX5_isWord_11 rfl ?_
    refine gf_X5_105 hC dX5_isWord_12 ?_
    refine v_isub hC dX5_isWord_15 ?_
    refine v_aload_n hC 1 dX5_isWord_16 rfl ?_
    refine v_slen hC 2 (nI 4) kw476 (by decide) rfl (by decide) (Nat.le_of_ble_eq_true rfl) dX5_isWord_17 ?_
    refine v_icmp_eq hC 25 dX5_isWord_20 (by decide) (fun c3 => ?_) (fun c3 => ?_)
    · replace h := h.1 c3
      refine v_iconst hC (nI 0) dX5_isWord_25 rfl ?_
      refine v_istore_n hC dX5_isWord_26 (by decide) rfl ?_
      obtain ⟨n10, h⟩ := h
      exact V.sub [1, 2, 0] rfl (tT_isWord_ware_l27 hC hR  n10 _ _ h)
    · replace h := h.2 c3
      refine v_iconst hC (nI 0) dX5_isWord_23 rfl ?_
      exact v_zret hC hR rfl h dX5_isWord_24
def rmT_wordOf : Room := { frames := 0, cells := 0, slots := 0, locals := 0 }
def wT_wordOf (x0 : Int32) (σ : gM) (Q : Nat → gM → Prop) : Prop :=
    (x0 = (nI 1) → (Q 3 σ)) ∧ (x0 = (nI 2) → (Q 4 σ)) ∧ (x0 = (nI 3) → (Q 5 σ)) ∧ (x0 = (nI 4) → (Q 6 σ)) ∧ ((¬ x0 = (nI 1) ∧ ¬ x0 = (nI 2) ∧ ¬ x0 = (nI 3) ∧ ¬ x0 = (nI 4)) → (Q 7 σ))
set_option maxHeartbeats 4000000 in
set_option maxRecDepth 100000 in
theorem kT_wordOf (x0 : Int32) (σ : gM) (Q : Nat → gM → Prop) (h : wT_wordOf x0 σ Q) : CT yX5_wordOf cX5_wordOf 1 (some (.object "java/lang/String")) rmT_wordOf (fun G => [.int x0]) σ (gPs Q) := by
  refine c_enter (by decide) (fun _ => Nat.le_of_ble_eq_true rfl) (fun X hC hR => ?_)
  show V X 1 0 [(0, .int x0)] [] σ
  replace h : (x0 = (nI 1) → (Q 3 σ)) ∧ (x0 = (nI 2) → (Q 4 σ)) ∧ (x0 = (nI 3) → (Q 5 σ)) ∧ (x0 = (nI 4) → (Q 6 σ)) ∧ ((¬ x0 = (nI 1) ∧ ¬ x0 = (nI 2) ∧ ¬ x0 = (nI 3) ∧ ¬ x0 = (nI 4)) → (Q 7 σ)) := h
  refine v_iload_n hC 0 dX5_wordOf_0 rfl ?_
  by_cases q1_1 : x0 = (nI 1)
  · replace h := h.1 q1_1
    refine v_tableIn hC (nI 1) 32 dX5_wordOf_1 q1_1 (by decide) (by decide) rfl (by decide) ?_
    refine v_ldcS hC 3 rfl dX5_wordOf_32 ?_
    exact v_sret hC hR h dX5_wordOf_34
  · by_cases q1_2 : x0 = (nI 2)
    · replace h := h.2.1 q1_2
      refine v_tableIn hC (nI 2) 35 dX5_wordOf_1 q1_2 (by decide) (by decide) rfl (by decide) ?_
      refine v_ldcS hC 4 rfl dX5_wordOf_35 ?_
      exact v_sret hC hR h dX5_wordOf_37
    · by_cases q1_3 : x0 = (nI 3)
      · replace h := h.2.2.1 q1_3
        refine v_tableIn hC (nI 3) 38 dX5_wordOf_1 q1_3 (by decide) (by decide) rfl (by decide) ?_
        refine v_ldcS hC 5 rfl dX5_wordOf_38 ?_
        exact v_sret hC hR h dX5_wordOf_40
      · by_cases q1_4 : x0 = (nI 4)
        · replace h := h.2.2.2.1 q1_4
          refine v_tableIn hC (nI 4) 41 dX5_wordOf_1 q1_4 (by decide) (by decide) rfl (by decide) ?_
          refine v_ldcS hC 6 rfl dX5_wordOf_41 ?_
          exact v_sret hC hR h dX5_wordOf_43
        · replace h := h.2.2.2.2 ⟨q1_1, q1_2, q1_3, q1_4⟩
          refine v_tableOut hC 44 dX5_wordOf_1 (sw_out _ _ (fun j hj1 hj2 => by have hj : j = 1 ∨ j = 2 ∨ j = 3 ∨ j = 4 := (by omega); rcases hj with rfl | rfl | rfl | rfl <;> first | exact q1_1 | exact q1_2 | exact q1_3 | exact q1_4)) (by decide) ?_
          refine v_ldcS hC 7 rfl dX5_wordOf_44 ?_
          exact v_sret hC hR h dX5_wordOf_46
theorem cmT_wordOf : CM yX5_wordOf cX5_wordOf 1 (some (.object "java/lang/String")) rmT_wordOf 1 := ⟨kw76, kw556, rfl, rfl, by decide, by decide, by decide +kernel⟩
def wT_isWord_fruit_l27 (Q : Int32 → gM → Prop)  : Nat → Int32 → gM → Prop
  | 0, _, _ => False
  | n + 1, x2, σ =>
    ((nI 5) ≤ x2 → (Q (nI 1) σ)) ∧ (¬ ((nI 5) ≤ x2) → (vp_in ((σ 18 4) + x2) 400 ∧ (vp_in x2 5 ∧ (((σ 19 ((σ 18 4) + x2).toNatClampNeg) = (gCh 3 x2.toNatClampNeg) → (∀ x2_9 : Int32, x2_9 = x2 + (nI 1) → (wT_isWord_fruit_l27 Q n x2_9 σ))) ∧ (¬ ((σ 19 ((σ 18 4) + x2).toNatClampNeg) = (gCh 3 x2.toNatClampNeg)) → (Q (nI 0) σ))))))
def wT_isWord_fruit  (σ : gM) (Q : Int32 → gM → Prop) : Prop :=
    ((σ 18 6) = nI 0 → ((((σ 18 5) - (σ 18 4)) = (nI 5) → (∃ n10 : Nat, wT_isWord_fruit_l27 Q n10 (nI 0) σ)) ∧ (¬ (((σ 18 5) - (σ 18 4)) = (nI 5)) → (Q (nI 0) σ)))) ∧ (¬ ((σ 18 6) = nI 0) → (Q (nI 0) σ))
set_option maxHeartbeats 4000000 in
set_option maxRecDepth 100000 in
theorem tT_isWord_fruit_l27 {X : gX} {Q : Int32 → gM → Prop} (hC : VC X cX5_isWord RX5 3 rmT_isWord) (hR : VR X (some .boolean) (gPi Q))  : ∀ (n : Nat) (x2 : Int32) (σ : gM), wT_isWord_fruit_l27 Q  n x2 σ → V X 3 27 [(0, .ref (xad X 18)), (1, .ref (gK (xG X) 3)), (2, .int x2)] [] σ := by
  intro n
  induction n with
  | zero => intro x2 σ h; exact h.elim
  | succ n ih =>
    intro x2 σ h
    replace h : ((nI 5) ≤ x2 → (Q (nI 1) σ)) ∧ (¬ ((nI 5) ≤ x2) → (vp_in ((σ 18 4) + x2) 400 ∧ (vp_in x2 5 ∧ (((σ 19 ((σ 18 4) + x2).toNatClampNeg) = (gCh 3 x2.toNatClampNeg) → (∀ x2_9 : Int32, x2_9 = x2 + (nI 1) → (wT_isWord_fruit_l27 Q n x2_9 σ))) ∧ (¬ ((σ 19 ((σ 18 4) + x2).toNatClampNeg) = (gCh 3 x2.toNatClampNeg)) → (Q (nI 0) σ)))))) := h
    refine v_iload_n hC 2 dX5_isWord_27 rfl ?_
    refine v_aload_n hC 1 dX5_isWord_28 rfl ?_
    refine v_slen hC 3 (nI 5) kw476 (by decide) rfl (by decide) (Nat.le_of_ble_eq_true rfl) dX5_isWord_29 ?_
    refine v_icmp_ge hC 62 dX5_isWord_32 (by decide) (fun c5 => ?_) (fun c5 => ?_)
    · replace h := h.1 c5
      refine v_iconst hC (nI 1) dX5_isWord_62 rfl ?_
      exact v_zret hC hR rfl h dX5_isWord_63
    · replace h := h.2 c5
      refine v_aload_n hC 0 dX5_isWord_35 rfl ?_
      refine gf_X5_9 hC dX5_isWord_36 ?_
      refine v_aload_n hC 0 dX5_isWord_39 rfl ?_
      refine gf_X5_105 hC dX5_isWord_40 ?_
      refine v_iload_n hC 2 dX5_isWord_43 rfl ?_
      refine v_iadd hC dX5_isWord_44 ?_
      obtain ⟨hi6, h⟩ := h
      refine v_iald hC (Nat.le_of_ble_eq_true rfl) rfl rfl hi6 dX5_isWord_45 ?_
      refine v_aload_n hC 1 dX5_isWord_46 rfl ?_
      refine v_iload_n hC 2 dX5_isWord_47 rfl ?_
      obtain ⟨hi7, h⟩ := h
      refine v_schar hC 3 kw486 (by decide) hi7 (by decide) (Nat.le_of_ble_eq_true rfl) dX5_isWord_48 ?_
      refine v_icmp_eq hC 56 dX5_isWord_51 (by decide) (fun c8 => ?_) (fun c8 => ?_)
      · replace h := h.1 c8
        refine v_iincN hC (nI 1) 2 dX5_isWord_56 rfl rfl (by decide) (lo2 := fun x2_9 => [(2, .int x2_9), (0, .ref (xad X 18)), (1, .ref (gK (xG X) 3))]) (fun _ => rfl) (fun x2_9 e9 => ?_)
        replace h := h x2_9 e9
        refine v_goto hC 27 dX5_isWord_59 (by decide) ?_
        exact V.sub [1, 2, 0] rfl (ih _ _ h)
      · replace h := h.2 c8
        refine v_iconst hC (nI 0) dX5_isWord_54 rfl ?_
        exact v_zret hC hR rfl h dX5_isWord_55
set_option maxHeartbeats 4000000 in
set_option maxRecDepth 100000 in
theorem kT_isWord_fruit  (σ : gM) (Q : Int32 → gM → Prop) (h : wT_isWord_fruit  σ Q) : CT yX5_isWord cX5_isWord 3 (some .boolean) rmT_isWord (fun G => [.ref (gad G 18), .ref (gK G 3)]) σ (gPi Q) := by
  refine c_enter (by decide) (fun _ => Nat.le_of_ble_eq_true rfl) (fun X hC hR => ?_)
  show V X 3 0 [(0, .ref (xad X 18)), (1, .ref (gK (xG X) 3))] [] σ
  replace h : ((σ 18 6) = nI 0 → ((((σ 18 5) - (σ 18 4)) = (nI 5) → (∃ n10 : Nat, wT_isWord_fruit_l27 Q n10 (nI 0) σ)) ∧ (¬ (((σ 18 5) - (σ 18 4)) = (nI 5)) → (Q (nI 0) σ)))) ∧ (¬ ((σ 18 6) = nI 0) → (Q (nI 0) σ)) := h
  refine v_aload_n hC 0 dX5_isWord_0 rfl ?_
  refine gf_X5_51 hC dX5_isWord_1 ?_
  refine v_if_ne hC 23 dX5_isWord_4 (by decide) (fun c1 => ?_) (fun c1 => ?_)
  · replace h := h.2 c1
    refine v_iconst hC (nI 0) dX5_isWord_23 rfl ?_
    exact v_zret hC hR rfl h dX5_isWord_24
  · replace h := h.1 c1
    refine v_aload_n hC 0 dX5_isWord_7 rfl ?_
    refine gf_X5_27 hC dX5_isWord_8 ?_
    refine v_aload_n hC 0 dX5_isWord_11 rfl ?_
    refine gf_X5_105 hC dX5_isWord_12 ?_
    refine v_isub hC dX5_isWord_15 ?_
    refine v_aload_n hC 1 dX5_isWord_16 rfl ?_
    refine v_slen hC 3 (nI 5) kw476 (by decide) rfl (by decide) (Nat.le_of_ble_eq_true rfl) dX5_isWord_17 ?_
    refine v_icmp_eq hC 25 dX5_isWord_20 (by decide) (fun c3 => ?_) (fun c3 => ?_)
    · replace h := h.1 c3
      refine v_iconst hC (nI 0) dX5_isWord_25 rfl ?_
      refine v_istore_n hC dX5_isWord_26 (by decide) rfl ?_
      obtain ⟨n10, h⟩ := h
      exact V.sub [1, 2, 0] rfl (tT_isWord_fruit_l27 hC hR  n10 _ _ h)
    · replace h := h.2 c3
      refine v_iconst hC (nI 0) dX5_isWord_23 rfl ?_
      exact v_zret hC hR rfl h dX5_isWord_24
def wT_isWord_melon_l27 (Q : Int32 → gM → Prop)  : Nat → Int32 → gM → Prop
  | 0, _, _ => False
  | n + 1, x2, σ =>
    ((nI 5) ≤ x2 → (Q (nI 1) σ)) ∧ (¬ ((nI 5) ≤ x2) → (vp_in ((σ 18 4) + x2) 400 ∧ (vp_in x2 5 ∧ (((σ 19 ((σ 18 4) + x2).toNatClampNeg) = (gCh 4 x2.toNatClampNeg) → (∀ x2_9 : Int32, x2_9 = x2 + (nI 1) → (wT_isWord_melon_l27 Q n x2_9 σ))) ∧ (¬ ((σ 19 ((σ 18 4) + x2).toNatClampNeg) = (gCh 4 x2.toNatClampNeg)) → (Q (nI 0) σ))))))
def wT_isWord_melon  (σ : gM) (Q : Int32 → gM → Prop) : Prop :=
    ((σ 18 6) = nI 0 → ((((σ 18 5) - (σ 18 4)) = (nI 5) → (∃ n10 : Nat, wT_isWord_melon_l27 Q n10 (nI 0) σ)) ∧ (¬ (((σ 18 5) - (σ 18 4)) = (nI 5)) → (Q (nI 0) σ)))) ∧ (¬ ((σ 18 6) = nI 0) → (Q (nI 0) σ))
set_option maxHeartbeats 4000000 in
set_option maxRecDepth 100000 in
theorem tT_isWord_melon_l27 {X : gX} {Q : Int32 → gM → Prop} (hC : VC X cX5_isWord RX5 3 rmT_isWord) (hR : VR X (some .boolean) (gPi Q))  : ∀ (n : Nat) (x2 : Int32) (σ : gM), wT_isWord_melon_l27 Q  n x2 σ → V X 3 27 [(0, .ref (xad X 18)), (1, .ref (gK (xG X) 4)), (2, .int x2)] [] σ := by
  intro n
  induction n with
  | zero => intro x2 σ h; exact h.elim
  | succ n ih =>
    intro x2 σ h
    replace h : ((nI 5) ≤ x2 → (Q (nI 1) σ)) ∧ (¬ ((nI 5) ≤ x2) → (vp_in ((σ 18 4) + x2) 400 ∧ (vp_in x2 5 ∧ (((σ 19 ((σ 18 4) + x2).toNatClampNeg) = (gCh 4 x2.toNatClampNeg) → (∀ x2_9 : Int32, x2_9 = x2 + (nI 1) → (wT_isWord_melon_l27 Q n x2_9 σ))) ∧ (¬ ((σ 19 ((σ 18 4) + x2).toNatClampNeg) = (gCh 4 x2.toNatClampNeg)) → (Q (nI 0) σ)))))) := h
    refine v_iload_n hC 2 dX5_isWord_27 rfl ?_
    refine v_aload_n hC 1 dX5_isWord_28 rfl ?_
    refine v_slen hC 4 (nI 5) kw476 (by decide) rfl (by decide) (Nat.le_of_ble_eq_true rfl) dX5_isWord_29 ?_
    refine v_icmp_ge hC 62 dX5_isWord_32 (by decide) (fun c5 => ?_) (fun c5 => ?_)
    · replace h := h.1 c5
      refine v_iconst hC (nI 1) dX5_isWord_62 rfl ?_
      exact v_zret hC hR rfl h dX5_isWord_63
    · replace h := h.2 c5
      refine v_aload_n hC 0 dX5_isWord_35 rfl ?_
      refine gf_X5_9 hC dX5_isWord_36 ?_
      refine v_aload_n hC 0 dX5_isWord_39 rfl ?_
      refine gf_X5_105 hC dX5_isWord_40 ?_
      refine v_iload_n hC 2 dX5_isWord_43 rfl ?_
      refine v_iadd hC dX5_isWord_44 ?_
      obtain ⟨hi6, h⟩ := h
      refine v_iald hC (Nat.le_of_ble_eq_true rfl) rfl rfl hi6 dX5_isWord_45 ?_
      refine v_aload_n hC 1 dX5_isWord_46 rfl ?_
      refine v_iload_n hC 2 dX5_isWord_47 rfl ?_
      obtain ⟨hi7, h⟩ := h
      refine v_schar hC 4 kw486 (by decide) hi7 (by decide) (Nat.le_of_ble_eq_true rfl) dX5_isWord_48 ?_
      refine v_icmp_eq hC 56 dX5_isWord_51 (by decide) (fun c8 => ?_) (fun c8 => ?_)
      · replace h := h.1 c8
        refine v_iincN hC (nI 1) 2 dX5_isWord_56 rfl rfl (by decide) (lo2 := fun x2_9 => [(2, .int x2_9), (0, .ref (xad X 18)), (1, .ref (gK (xG X) 4))]) (fun _ => rfl) (fun x2_9 e9 => ?_)
        replace h := h x2_9 e9
        refine v_goto hC 27 dX5_isWord_59 (by decide) ?_
        exact V.sub [1, 2, 0] rfl (ih _ _ h)
      · replace h := h.2 c8
        refine v_iconst hC (nI 0) dX5_isWord_54 rfl ?_
        exact v_zret hC hR rfl h dX5_isWord_55
set_option maxHeartbeats 4000000 in
set_option maxRecDepth 100000 in
theorem kT_isWord_melon  (σ : gM) (Q : Int32 → gM → Prop) (h : wT_isWord_melon  σ Q) : CT yX5_isWord cX5_isWord 3 (some .boolean) rmT_isWord (fun G => [.ref (gad G 18), .ref (gK G 4)]) σ (gPi Q) := by
  refine c_enter (by decide) (fun _ => Nat.le_of_ble_eq_true rfl) (fun X hC hR => ?_)
  show V X 3 0 [(0, .ref (xad X 18)), (1, .ref (gK (xG X) 4))] [] σ
  replace h : ((σ 18 6) = nI 0 → ((((σ 18 5) - (σ 18 4)) = (nI 5) → (∃ n10 : Nat, wT_isWord_melon_l27 Q n10 (nI 0) σ)) ∧ (¬ (((σ 18 5) - (σ 18 4)) = (nI 5)) → (Q (nI 0) σ)))) ∧ (¬ ((σ 18 6) = nI 0) → (Q (nI 0) σ)) := h
  refine v_aload_n hC 0 dX5_isWord_0 rfl ?_
  refine gf_X5_51 hC dX5_isWord_1 ?_
  refine v_if_ne hC 23 dX5_isWord_4 (by decide) (fun c1 => ?_) (fun c1 => ?_)
  · replace h := h.2 c1
    refine v_iconst hC (nI 0) dX5_isWord_23 rfl ?_
    exact v_zret hC hR rfl h dX5_isWord_24
  · replace h := h.1 c1
    refine v_aload_n hC 0 dX5_isWord_7 rfl ?_
    refine gf_X5_27 hC dX5_isWord_8 ?_
    refine v_aload_n hC 0 dX5_isWord_11 rfl ?_
    refine gf_X5_105 hC dX5_isWord_12 ?_
    refine v_isub hC dX5_isWord_15 ?_
    refine v_aload_n hC 1 dX5_isWord_16 rfl ?_
    refine v_slen hC 4 (nI 5) kw476 (by decide) rfl (by decide) (Nat.le_of_ble_eq_true rfl) dX5_isWord_17 ?_
    refine v_icmp_eq hC 25 dX5_isWord_20 (by decide) (fun c3 => ?_) (fun c3 => ?_)
    · replace h := h.1 c3
      refine v_iconst hC (nI 0) dX5_isWord_25 rfl ?_
      refine v_istore_n hC dX5_isWord_26 (by decide) rfl ?_
      obtain ⟨n10, h⟩ := h
      exact V.sub [1, 2, 0] rfl (tT_isWord_melon_l27 hC hR  n10 _ _ h)
    · replace h := h.2 c3
      refine v_iconst hC (nI 0) dX5_isWord_23 rfl ?_
      exact v_zret hC hR rfl h dX5_isWord_24
def wT_isWord_berry_l27 (Q : Int32 → gM → Prop)  : Nat → Int32 → gM → Prop
  | 0, _, _ => False
  | n + 1, x2, σ =>
    ((nI 5) ≤ x2 → (Q (nI 1) σ)) ∧ (¬ ((nI 5) ≤ x2) → (vp_in ((σ 18 4) + x2) 400 ∧ (vp_in x2 5 ∧ (((σ 19 ((σ 18 4) + x2).toNatClampNeg) = (gCh 5 x2.toNatClampNeg) → (∀ x2_9 : Int32, x2_9 = x2 + (nI 1) → (wT_isWord_berry_l27 Q n x2_9 σ))) ∧ (¬ ((σ 19 ((σ 18 4) + x2).toNatClampNeg) = (gCh 5 x2.toNatClampNeg)) → (Q (nI 0) σ))))))
def wT_isWord_berry  (σ : gM) (Q : Int32 → gM → Prop) : Prop :=
    ((σ 18 6) = nI 0 → ((((σ 18 5) - (σ 18 4)) = (nI 5) → (∃ n10 : Nat, wT_isWord_berry_l27 Q n10 (nI 0) σ)) ∧ (¬ (((σ 18 5) - (σ 18 4)) = (nI 5)) → (Q (nI 0) σ)))) ∧ (¬ ((σ 18 6) = nI 0) → (Q (nI 0) σ))
set_option maxHeartbeats 4000000 in
set_option maxRecDepth 100000 in
theorem tT_isWord_berry_l27 {X : gX} {Q : Int32 → gM → Prop} (hC : VC X cX5_isWord RX5 3 rmT_isWord) (hR : VR X (some .boolean) (gPi Q))  : ∀ (n : Nat) (x2 : Int32) (σ : gM), wT_isWord_berry_l27 Q  n x2 σ → V X 3 27 [(0, .ref (xad X 18)), (1, .ref (gK (xG X) 5)), (2, .int x2)] [] σ := by
  intro n
  induction n with
  | zero => intro x2 σ h; exact h.elim
  | succ n ih =>
    intro x2 σ h
    replace h : ((nI 5) ≤ x2 → (Q (nI 1) σ)) ∧ (¬ ((nI 5) ≤ x2) → (vp_in ((σ 18 4) + x2) 400 ∧ (vp_in x2 5 ∧ (((σ 19 ((σ 18 4) + x2).toNatClampNeg) = (gCh 5 x2.toNatClampNeg) → (∀ x2_9 : Int32, x2_9 = x2 + (nI 1) → (wT_isWord_berry_l27 Q n x2_9 σ))) ∧ (¬ ((σ 19 ((σ 18 4) + x2).toNatClampNeg) = (gCh 5 x2.toNatClampNeg)) → (Q (nI 0) σ)))))) := h
    refine v_iload_n hC 2 dX5_isWord_27 rfl ?_
    refine v_aload_n hC 1 dX5_isWord_28 rfl ?_
    refine v_slen hC 5 (nI 5) kw476 (by decide) rfl (by decide) (Nat.le_of_ble_eq_true rfl) dX5_isWord_29 ?_
    refine v_icmp_ge hC 62 dX5_isWord_32 (by decide) (fun c5 => ?_) (fun c5 => ?_)
    · replace h := h.1 c5
      refine v_iconst hC (nI 1) dX5_isWord_62 rfl ?_
      exact v_zret hC hR rfl h dX5_isWord_63
    · replace h := h.2 c5
      refine v_aload_n hC 0 dX5_isWord_35 rfl ?_
      refine gf_X5_9 hC dX5_isWord_36 ?_
      refine v_aload_n hC 0 dX5_isWord_39 rfl ?_
      refine gf_X5_105 hC dX5_isWord_40 ?_
      refine v_iload_n hC 2 dX5_isWord_43 rfl ?_
      refine v_iadd hC dX5_isWord_44 ?_
      obtain ⟨hi6, h⟩ := h
      refine v_iald hC (Nat.le_of_ble_eq_true rfl) rfl rfl hi6 dX5_isWord_45 ?_
      refine v_aload_n hC 1 dX5_isWord_46 rfl ?_
      refine v_iload_n hC 2 dX5_isWord_47 rfl ?_
      obtain ⟨hi7, h⟩ := h
      refine v_schar hC 5 kw486 (by decide) hi7 (by decide) (Nat.le_of_ble_eq_true rfl) dX5_isWord_48 ?_
      refine v_icmp_eq hC 56 dX5_isWord_51 (by decide) (fun c8 => ?_) (fun c8 => ?_)
      · replace h := h.1 c8
        refine v_iincN hC (nI 1) 2 dX5_isWord_56 rfl rfl (by decide) (lo2 := fun x2_9 => [(2, .int x2_9), (0, .ref (xad X 18)), (1, .ref (gK (xG X) 5))]) (fun _ => rfl) (fun x2_9 e9 => ?_)
        replace h := h x2_9 e9
        refine v_goto hC 27 dX5_isWord_59 (by decide) ?_
        exact V.sub [1, 2, 0] rfl (ih _ _ h)
      · replace h := h.2 c8
        refine v_iconst hC (nI 0) dX5_isWord_54 rfl ?_
        exact v_zret hC hR rfl h dX5_isWord_55
set_option maxHeartbeats 4000000 in
set_option maxRecDepth 100000 in
theorem kT_isWord_berry  (σ : gM) (Q : Int32 → gM → Prop) (h : wT_isWord_berry  σ Q) : CT yX5_isWord cX5_isWord 3 (some .boolean) rmT_isWord (fun G => [.ref (gad G 18), .ref (gK G 5)]) σ (gPi Q) := by
  refine c_enter (by decide) (fun _ => Nat.le_of_ble_eq_true rfl) (fun X hC hR => ?_)
  show V X 3 0 [(0, .ref (xad X 18)), (1, .ref (gK (xG X) 5))] [] σ
  replace h : ((σ 18 6) = nI 0 → ((((σ 18 5) - (σ 18 4)) = (nI 5) → (∃ n10 : Nat, wT_isWord_berry_l27 Q n10 (nI 0) σ)) ∧ (¬ (((σ 18 5) - (σ 18 4)) = (nI 5)) → (Q (nI 0) σ)))) ∧ (¬ ((σ 18 6) = nI 0) → (Q (nI 0) σ)) := h
  refine v_aload_n hC 0 dX5_isWord_0 rfl ?_
  refine gf_X5_51 hC dX5_isWord_1 ?_
  refine v_if_ne hC 23 dX5_isWord_4 (by decide) (fun c1 => ?_) (fun c1 => ?_)
  · replace h := h.2 c1
    refine v_iconst hC (nI 0) dX5_isWord_23 rfl ?_
    exact v_zret hC hR rfl h dX5_isWord_24
  · replace h := h.1 c1
    refine v_aload_n hC 0 dX5_isWord_7 rfl ?_
    refine gf_X5_27 hC dX5_isWord_8 ?_
    refine v_aload_n hC 0 dX5_isWord_11 rfl ?_
    refine gf_X5_105 hC dX5_isWord_12 ?_
    refine v_isub hC dX5_isWord_15 ?_
    refine v_aload_n hC 1 dX5_isWord_16 rfl ?_
    refine v_slen hC 5 (nI 5) kw476 (by decide) rfl (by decide) (Nat.le_of_ble_eq_true rfl) dX5_isWord_17 ?_
    refine v_icmp_eq hC 25 dX5_isWord_20 (by decide) (fun c3 => ?_) (fun c3 => ?_)
    · replace h := h.1 c3
      refine v_iconst hC (nI 0) dX5_isWord_25 rfl ?_
      refine v_istore_n hC dX5_isWord_26 (by decide) rfl ?_
      obtain ⟨n10, h⟩ := h
      exact V.sub [1, 2, 0] rfl (tT_isWord_berry_l27 hC hR  n10 _ _ h)
    · replace h := h.2 c3
      refine v_iconst hC (nI 0) dX5_isWord_23 rfl ?_
      exact v_zret hC hR rfl h dX5_isWord_24
def wT_isWord_cloth_l27 (Q : Int32 → gM → Prop)  : Nat → Int32 → gM → Prop
  | 0, _, _ => False
  | n + 1, x2, σ =>
    ((nI 5) ≤ x2 → (Q (nI 1) σ)) ∧ (¬ ((nI 5) ≤ x2) → (vp_in ((σ 18 4) + x2) 400 ∧ (vp_in x2 5 ∧ (((σ 19 ((σ 18 4) + x2).toNatClampNeg) = (gCh 6 x2.toNatClampNeg) → (∀ x2_9 : Int32, x2_9 = x2 + (nI 1) → (wT_isWord_cloth_l27 Q n x2_9 σ))) ∧ (¬ ((σ 19 ((σ 18 4) + x2).toNatClampNeg) = (gCh 6 x2.toNatClampNeg)) → (Q (nI 0) σ))))))
def wT_isWord_cloth  (σ : gM) (Q : Int32 → gM → Prop) : Prop :=
    ((σ 18 6) = nI 0 → ((((σ 18 5) - (σ 18 4)) = (nI 5) → (∃ n10 : Nat, wT_isWord_cloth_l27 Q n10 (nI 0) σ)) ∧ (¬ (((σ 18 5) - (σ 18 4)) = (nI 5)) → (Q (nI 0) σ)))) ∧ (¬ ((σ 18 6) = nI 0) → (Q (nI 0) σ))
set_option maxHeartbeats 4000000 in
set_option maxRecDepth 100000 in
theorem tT_isWord_cloth_l27 {X : gX} {Q : Int32 → gM → Prop} (hC : VC X cX5_isWord RX5 3 rmT_isWord) (hR : VR X (some .boolean) (gPi Q))  : ∀ (n : Nat) (x2 : Int32) (σ : gM), wT_isWord_cloth_l27 Q  n x2 σ → V X 3 27 [(0, .ref (xad X 18)), (1, .ref (gK (xG X) 6)), (2, .int x2)] [] σ := by
  intro n
  induction n with
  | zero => intro x2 σ h; exact h.elim
  | succ n ih =>
    intro x2 σ h
    replace h : ((nI 5) ≤ x2 → (Q (nI 1) σ)) ∧ (¬ ((nI 5) ≤ x2) → (vp_in ((σ 18 4) + x2) 400 ∧ (vp_in x2 5 ∧ (((σ 19 ((σ 18 4) + x2).toNatClampNeg) = (gCh 6 x2.toNatClampNeg) → (∀ x2_9 : Int32, x2_9 = x2 + (nI 1) → (wT_isWord_cloth_l27 Q n x2_9 σ))) ∧ (¬ ((σ 19 ((σ 18 4) + x2).toNatClampNeg) = (gCh 6 x2.toNatClampNeg)) → (Q (nI 0) σ)))))) := h
    refine v_iload_n hC 2 dX5_isWord_27 rfl ?_
    refine v_aload_n hC 1 dX5_isWord_28 rfl ?_
    refine v_slen hC 6 (nI 5) kw476 (by decide) rfl (by decide) (Nat.le_of_ble_eq_true rfl) dX5_isWord_29 ?_
    refine v_icmp_ge hC 62 dX5_isWord_32 (by decide) (fun c5 => ?_) (fun c5 => ?_)
    · replace h := h.1 c5
      refine v_iconst hC (nI 1) dX5_isWord_62 rfl ?_
      exact v_zret hC hR rfl h dX5_isWord_63
    · replace h := h.2 c5
      refine v_aload_n hC 0 dX5_isWord_35 rfl ?_
      refine gf_X5_9 hC dX5_isWord_36 ?_
      refine v_aload_n hC 0 dX5_isWord_39 rfl ?_
      refine gf_X5_105 hC dX5_isWord_40 ?_
      refine v_iload_n hC 2 dX5_isWord_43 rfl ?_
      refine v_iadd hC dX5_isWord_44 ?_
      obtain ⟨hi6, h⟩ := h
      refine v_iald hC (Nat.le_of_ble_eq_true rfl) rfl rfl hi6 dX5_isWord_45 ?_
      refine v_aload_n hC 1 dX5_isWord_46 rfl ?_
      refine v_iload_n hC 2 dX5_isWord_47 rfl ?_
      obtain ⟨hi7, h⟩ := h
      refine v_schar hC 6 kw486 (by decide) hi7 (by decide) (Nat.le_of_ble_eq_true rfl) dX5_isWord_48 ?_
      refine v_icmp_eq hC 56 dX5_isWord_51 (by decide) (fun c8 => ?_) (fun c8 => ?_)
      · replace h := h.1 c8
        refine v_iincN hC (nI 1) 2 dX5_isWord_56 rfl rfl (by decide) (lo2 := fun x2_9 => [(2, .int x2_9), (0, .ref (xad X 18)), (1, .ref (gK (xG X) 6))]) (fun _ => rfl) (fun x2_9 e9 => ?_)
        replace h := h x2_9 e9
        refine v_goto hC 27 dX5_isWord_59 (by decide) ?_
        exact V.sub [1, 2, 0] rfl (ih _ _ h)
      · replace h := h.2 c8
        refine v_iconst hC (nI 0) dX5_isWord_54 rfl ?_
        exact v_zret hC hR rfl h dX5_isWord_55
set_option maxHeartbeats 4000000 in
set_option maxRecDepth 100000 in
theorem kT_isWord_cloth  (σ : gM) (Q : Int32 → gM → Prop) (h : wT_isWord_cloth  σ Q) : CT yX5_isWord cX5_isWord 3 (some .boolean) rmT_isWord (fun G => [.ref (gad G 18), .ref (gK G 6)]) σ (gPi Q) := by
  refine c_enter (by decide) (fun _ => Nat.le_of_ble_eq_true rfl) (fun X hC hR => ?_)
  show V X 3 0 [(0, .ref (xad X 18)), (1, .ref (gK (xG X) 6))] [] σ
  replace h : ((σ 18 6) = nI 0 → ((((σ 18 5) - (σ 18 4)) = (nI 5) → (∃ n10 : Nat, wT_isWord_cloth_l27 Q n10 (nI 0) σ)) ∧ (¬ (((σ 18 5) - (σ 18 4)) = (nI 5)) → (Q (nI 0) σ)))) ∧ (¬ ((σ 18 6) = nI 0) → (Q (nI 0) σ)) := h
  refine v_aload_n hC 0 dX5_isWord_0 rfl ?_
  refine gf_X5_51 hC dX5_isWord_1 ?_
  refine v_if_ne hC 23 dX5_isWord_4 (by decide) (fun c1 => ?_) (fun c1 => ?_)
  · replace h := h.2 c1
    refine v_iconst hC (nI 0) dX5_isWord_23 rfl ?_
    exact v_zret hC hR rfl h dX5_isWord_24
  · replace h := h.1 c1
    refine v_aload_n hC 0 dX5_isWord_7 rfl ?_
    refine gf_X5_27 hC dX5_isWord_8 ?_
    refine v_aload_n hC 0 dX5_isWord_11 rfl ?_
    refine gf_X5_105 hC dX5_isWord_12 ?_
    refine v_isub hC dX5_isWord_15 ?_
    refine v_aload_n hC 1 dX5_isWord_16 rfl ?_
    refine v_slen hC 6 (nI 5) kw476 (by decide) rfl (by decide) (Nat.le_of_ble_eq_true rfl) dX5_isWord_17 ?_
    refine v_icmp_eq hC 25 dX5_isWord_20 (by decide) (fun c3 => ?_) (fun c3 => ?_)
    · replace h := h.1 c3
      refine v_iconst hC (nI 0) dX5_isWord_25 rfl ?_
      refine v_istore_n hC dX5_isWord_26 (by decide) rfl ?_
      obtain ⟨n10, h⟩ := h
      exact V.sub [1, 2, 0] rfl (tT_isWord_cloth_l27 hC hR  n10 _ _ h)
    · replace h := h.2 c3
      refine v_iconst hC (nI 0) dX5_isWord_23 rfl ?_
      exact v_zret hC hR rfl h dX5_isWord_24
def wT_isWord_silk_l27 (Q : Int32 → gM → Prop)  : Nat → Int32 → gM → Prop
  | 0, _, _ => False
  | n + 1, x2, σ =>
    ((nI 4) ≤ x2 → (Q (nI 1) σ)) ∧ (¬ ((nI 4) ≤ x2) → (vp_in ((σ 18 4) + x2) 400 ∧ (vp_in x2 4 ∧ (((σ 19 ((σ 18 4) + x2).toNatClampNeg) = (gCh 7 x2.toNatClampNeg) → (∀ x2_9 : Int32, x2_9 = x2 + (nI 1) → (wT_isWord_silk_l27 Q n x2_9 σ))) ∧ (¬ ((σ 19 ((σ 18 4) + x2).toNatClampNeg) = (gCh 7 x2.toNatClampNeg)) → (Q (nI 0) σ))))))
def wT_isWord_silk  (σ : gM) (Q : Int32 → gM → Prop) : Prop :=
    ((σ 18 6) = nI 0 → ((((σ 18 5) - (σ 18 4)) = (nI 4) → (∃ n10 : Nat, wT_isWord_silk_l27 Q n10 (nI 0) σ)) ∧ (¬ (((σ 18 5) - (σ 18 4)) = (nI 4)) → (Q (nI 0) σ)))) ∧ (¬ ((σ 18 6) = nI 0) → (Q (nI 0) σ))
set_option maxHeartbeats 4000000 in
set_option maxRecDepth 100000 in
theorem tT_isWord_silk_l27 {X : gX} {Q : Int32 → gM → Prop} (hC : VC X cX5_isWord RX5 3 rmT_isWord) (hR : VR X (some .boolean) (gPi Q))  : ∀ (n : Nat) (x2 : Int32) (σ : gM), wT_isWord_silk_l27 Q  n x2 σ → V X 3 27 [(0, .ref (xad X 18)), (1, .ref (gK (xG X) 7)), (2, .int x2)] [] σ := by
  intro n
  induction n with
  | zero => intro x2 σ h; exact h.elim
  | succ n ih =>
    intro x2 σ h
    replace h : ((nI 4) ≤ x2 → (Q (nI 1) σ)) ∧ (¬ ((nI 4) ≤ x2) → (vp_in ((σ 18 4) + x2) 400 ∧ (vp_in x2 4 ∧ (((σ 19 ((σ 18 4) + x2).toNatClampNeg) = (gCh 7 x2.toNatClampNeg) → (∀ x2_9 : Int32, x2_9 = x2 + (nI 1) → (wT_isWord_silk_l27 Q n x2_9 σ))) ∧ (¬ ((σ 19 ((σ 18 4) + x2).toNatClampNeg) = (gCh 7 x2.toNatClampNeg)) → (Q (nI 0) σ)))))) := h
    refine v_iload_n hC 2 dX5_isWord_27 rfl ?_
    refine v_aload_n hC 1 dX5_isWord_28 rfl ?_
    refine v_slen hC 7 (nI 4) kw476 (by decide) rfl (by decide) (Nat.le_of_ble_eq_true rfl) dX5_isWord_29 ?_
    refine v_icmp_ge hC 62 dX5_isWord_32 (by decide) (fun c5 => ?_) (fun c5 => ?_)
    · replace h := h.1 c5
      refine v_iconst hC (nI 1) dX5_isWord_62 rfl ?_
      exact v_zret hC hR rfl h dX5_isWord_63
    · replace h := h.2 c5
      refine v_aload_n hC 0 dX5_isWord_35 rfl ?_
      refine gf_X5_9 hC dX5_isWord_36 ?_
      refine v_aload_n hC 0 dX5_isWord_39 rfl ?_
      refine gf_X5_105 hC dX5_isWord_40 ?_
      refine v_iload_n hC 2 dX5_isWord_43 rfl ?_
      refine v_iadd hC dX5_isWord_44 ?_
      obtain ⟨hi6, h⟩ := h
      refine v_iald hC (Nat.le_of_ble_eq_true rfl) rfl rfl hi6 dX5_isWord_45 ?_
      refine v_aload_n hC 1 dX5_isWord_46 rfl ?_
      refine v_iload_n hC 2 dX5_isWord_47 rfl ?_
      obtain ⟨hi7, h⟩ := h
      refine v_schar hC 7 kw486 (by decide) hi7 (by decide) (Nat.le_of_ble_eq_true rfl) dX5_isWord_48 ?_
      refine v_icmp_eq hC 56 dX5_isWord_51 (by decide) (fun c8 => ?_) (fun c8 => ?_)
      · replace h := h.1 c8
        refine v_iincN hC (nI 1) 2 dX5_isWord_56 rfl rfl (by decide) (lo2 := fun x2_9 => [(2, .int x2_9), (0, .ref (xad X 18)), (1, .ref (gK (xG X) 7))]) (fun _ => rfl) (fun x2_9 e9 => ?_)
        replace h := h x2_9 e9
        refine v_goto hC 27 dX5_isWord_59 (by decide) ?_
        exact V.sub [1, 2, 0] rfl (ih _ _ h)
      · replace h := h.2 c8
        refine v_iconst hC (nI 0) dX5_isWord_54 rfl ?_
        exact v_zret hC hR rfl h dX5_isWord_55
set_option maxHeartbeats 4000000 in
set_option maxRecDepth 100000 in
theorem kT_isWord_silk  (σ : gM) (Q : Int32 → gM → Prop) (h : wT_isWord_silk  σ Q) : CT yX5_isWord cX5_isWord 3 (some .boolean) rmT_isWord (fun G => [.ref (gad G 18), .ref (gK G 7)]) σ (gPi Q) := by
  refine c_enter (by decide) (fun _ => Nat.le_of_ble_eq_true rfl) (fun X hC hR => ?_)
  show V X 3 0 [(0, .ref (xad X 18)), (1, .ref (gK (xG X) 7))] [] σ
  replace h : ((σ 18 6) = nI 0 → ((((σ 18 5) - (σ 18 4)) = (nI 4) → (∃ n10 : Nat, wT_isWord_silk_l27 Q n10 (nI 0) σ)) ∧ (¬ (((σ 18 5) - (σ 18 4)) = (nI 4)) → (Q (nI 0) σ)))) ∧ (¬ ((σ 18 6) = nI 0) → (Q (nI 0) σ)) := h
  refine v_aload_n hC 0 dX5_isWord_0 rfl ?_
  refine gf_X5_51 hC dX5_isWord_1 ?_
  refine v_if_ne hC 23 dX5_isWord_4 (by decide) (fun c1 => ?_) (fun c1 => ?_)
  · replace h := h.2 c1
    refine v_iconst hC (nI 0) dX5_isWord_23 rfl ?_
    exact v_zret hC hR rfl h dX5_isWord_24
  · replace h := h.1 c1
    refine v_aload_n hC 0 dX5_isWord_7 rfl ?_
    refine gf_X5_27 hC dX5_isWord_8 ?_
    refine v_aload_n hC 0 dX5_isWord_11 rfl ?_
    refine gf_X5_105 hC dX5_isWord_12 ?_
    refine v_isub hC dX5_isWord_15 ?_
    refine v_aload_n hC 1 dX5_isWord_16 rfl ?_
    refine v_slen hC 7 (nI 4) kw476 (by decide) rfl (by decide) (Nat.le_of_ble_eq_true rfl) dX5_isWord_17 ?_
    refine v_icmp_eq hC 25 dX5_isWord_20 (by decide) (fun c3 => ?_) (fun c3 => ?_)
    · replace h := h.1 c3
      refine v_iconst hC (nI 0) dX5_isWord_25 rfl ?_
      refine v_istore_n hC dX5_isWord_26 (by decide) rfl ?_
      obtain ⟨n10, h⟩ := h
      exact V.sub [1, 2, 0] rfl (tT_isWord_silk_l27 hC hR  n10 _ _ h)
    · replace h := h.2 c3
      refine v_iconst hC (nI 0) dX5_isWord_23 rfl ?_
      exact v_zret hC hR rfl h dX5_isWord_24
