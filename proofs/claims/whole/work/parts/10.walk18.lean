def rmM_reach : Room := { frames := 2, cells := 0, slots := 0, locals := 46 }
def wM_reach_b78 (Q : Int32 → gM → Prop) (K44 : Int32 → Int32 → Int32 → Int32 → Int32 → gM → Prop) (x2 : Int32) (x3 : Int32) (x5 : Int32) (x6 : Int32) (s0 : Int32) (s1 : Int32) (σ : gM) : Prop :=
    ∀ x4_19 : Int32, x4_19 = (s0 + s1) → ((x6 ≤ x3 → (∀ x5_21 : Int32, x5_21 = (x5 + (nI 0)) → (∀ x6_22 : Int32, x6_22 = x6 + (nI 1) → (K44 x2 x3 x4_19 x5_21 x6_22 σ)))) ∧ (¬ (x6 ≤ x3) → (wM_heap x6 σ (fun (r24 : Int32) (σ24 : gM) => wM_valueOf r24 (nI 0) σ24 (fun (r26 : Int32) (σ26 : gM) => ∀ x5_27 : Int32, x5_27 = (x5 + r26) → (∀ x6_28 : Int32, x6_28 = x6 + (nI 1) → (K44 x2 x3 x4_19 x5_27 x6_28 σ26)))))))
def wM_reach_l44 (Q : Int32 → gM → Prop)  : Nat → Int32 → Int32 → Int32 → Int32 → Int32 → gM → Prop
  | 0, _, _, _, _, _, _ => False
  | n + 1, x2, x3, x4, x5, x6, σ =>
    ((σ 89 5) ≤ x6 → (∀ x6_13 : Int32, x6_13 = (((σ 89 5) - (nI 1)) - x3) → (∀ v15 : Int32, v15 = (if x2 = nI 0 then ((nI 1) + (if x6_13 ≤ x3 then x6_13 else x3)) else (if x5 ≤ x4 then x5 else x4)) → (Q v15 σ)))) ∧ (¬ ((σ 89 5) ≤ x6) → ((x3 ≤ x6 → (wM_reach_b78 Q (wM_reach_l44 Q n) x2 x3 x5 x6 x4 (nI 0) σ)) ∧ (¬ (x3 ≤ x6) → (wM_heap x6 σ (fun (r30 : Int32) (σ30 : gM) => wM_valueOf r30 (nI 0) σ30 (fun (r32 : Int32) (σ32 : gM) => wM_reach_b78 Q (wM_reach_l44 Q n) x2 x3 x5 x6 x4 r32 σ32))))))
def wM_reach (x1 : Int32) (x2 : Int32) (σ : gM) (Q : Int32 → gM → Prop) : Prop :=
    wM_isWareAt x1 σ (fun (r2 : Int32) (σ2 : gM) => (r2 = nI 0 → (Q (-1000001 : Int32) σ2)) ∧ (¬ (r2 = nI 0) → (wM_in x2 (nI 0) (nI 1) σ2 (fun (r5 : Int32) (σ5 : gM) => (r5 = nI 0 → (Q (-1000001 : Int32) σ5)) ∧ (¬ (r5 = nI 0) → (wM_placeOf x1 σ5 (fun (r8 : Int32) (σ8 : gM) => (r8 = (-1000000 : Int32) → (Q (-1000002 : Int32) σ8)) ∧ (¬ (r8 = (-1000000 : Int32)) → (∃ n33 : Nat, wM_reach_l44 Q n33 x2 r8 (nI 0) (nI 0) (nI 0) σ8)))))))))
set_option maxHeartbeats 4000000 in
set_option maxRecDepth 100000 in
theorem tM_reach_b78 {X : gX} {Q : Int32 → gM → Prop} (hC : VC X cX7_reach RX7 7 rmM_reach) (hR : VR X (some .int) (gPi Q)) {K44 : Int32 → Int32 → Int32 → Int32 → Int32 → gM → Prop} (hK44 : ∀ (x2 : Int32) (x3 : Int32) (x4 : Int32) (x5 : Int32) (x6 : Int32) (σ : gM), K44 x2 x3 x4 x5 x6 σ → V X 7 44 [(0, .ref (xad X 82)), (2, .int x2), (3, .int x3), (4, .int x4), (5, .int x5), (6, .int x6)] [] σ) (x2 : Int32) (x3 : Int32) (x5 : Int32) (x6 : Int32) (s0 : Int32) (s1 : Int32) (σ : gM) (h : wM_reach_b78 Q K44 x2 x3 x5 x6 s0 s1 σ) : V X 7 78 [(0, .ref (xad X 82)), (2, .int x2), (3, .int x3), (5, .int x5), (6, .int x6)] [.int s1, .int s0] σ := by
  replace h : ∀ x4_19 : Int32, x4_19 = (s0 + s1) → ((x6 ≤ x3 → (∀ x5_21 : Int32, x5_21 = (x5 + (nI 0)) → (∀ x6_22 : Int32, x6_22 = x6 + (nI 1) → (K44 x2 x3 x4_19 x5_21 x6_22 σ)))) ∧ (¬ (x6 ≤ x3) → (wM_heap x6 σ (fun (r24 : Int32) (σ24 : gM) => wM_valueOf r24 (nI 0) σ24 (fun (r26 : Int32) (σ26 : gM) => ∀ x5_27 : Int32, x5_27 = (x5 + r26) → (∀ x6_28 : Int32, x6_28 = x6 + (nI 1) → (K44 x2 x3 x4_19 x5_27 x6_28 σ26))))))) := h
  refine v_iadd hC dX7_reach_78 ?_
  refine v_istoreN hC dX7_reach_79 (by decide) (lo2 := fun x4_19 => [(4, .int x4_19), (0, .ref (xad X 82)), (2, .int x2), (3, .int x3), (5, .int x5), (6, .int x6)]) (fun _ => rfl) (fun x4_19 e19 => ?_)
  replace h := h x4_19 e19
  refine v_iload hC 4 dX7_reach_81 rfl ?_
  refine v_iload hC 5 dX7_reach_83 rfl ?_
  refine v_iload_n hC 3 dX7_reach_85 rfl ?_
  refine v_icmp_le hC 103 dX7_reach_86 (by decide) (fun c20 => ?_) (fun c20 => ?_)
  · replace h := h.1 c20
    refine v_iconst hC (nI 0) dX7_reach_103 rfl ?_
    refine v_iadd hC dX7_reach_104 ?_
    refine v_istoreN hC dX7_reach_105 (by decide) (lo2 := fun x5_21 => [(5, .int x5_21), (4, .int x4_19), (0, .ref (xad X 82)), (2, .int x2), (3, .int x3), (6, .int x6)]) (fun _ => rfl) (fun x5_21 e21 => ?_)
    replace h := h x5_21 e21
    refine v_iincN hC (nI 1) 5 dX7_reach_107 rfl rfl (by decide) (lo2 := fun x6_22 => [(6, .int x6_22), (5, .int x5_21), (4, .int x4_19), (0, .ref (xad X 82)), (2, .int x2), (3, .int x3)]) (fun _ => rfl) (fun x6_22 e22 => ?_)
    replace h := h x6_22 e22
    refine v_goto hC 44 dX7_reach_110 (by decide) ?_
    exact V.sub [3, 4, 5, 2, 1, 0] rfl (hK44 _ _ _ _ _ _ h)
  · replace h := h.2 c20
    refine v_aload_n hC 1 dX7_reach_89 rfl ?_
    refine v_aload_n hC 1 dX7_reach_90 rfl ?_
    refine v_iload hC 5 dX7_reach_91 rfl ?_
    refine v_callV hC (kM_heap _ _ _ h) cmM_heap ⟨kw1148, kw52⟩ kw1146 ⟨Nat.le_of_ble_eq_true rfl, Nat.le_of_ble_eq_true rfl⟩ (Nat.le_of_ble_eq_true rfl) rfl (ci := 7) (T := TX7) (N := 30) rfl (As := fun G => [.int x6]) (fun _ => rfl) (fun _ => rfl) (st := [.ref (xad X 82), .int x5]) (Nat.le_of_ble_eq_true rfl) rfl dX7_reach_93 (kk_i (fun r24 σ24 h => ?_))
    refine v_iconst hC (nI 0) dX7_reach_96 rfl ?_
    refine v_callV hC (kM_valueOf _ _ _ _ h) cmM_valueOf ⟨kw1152, kw53⟩ kw1150 ⟨Nat.le_of_ble_eq_true rfl, Nat.le_of_ble_eq_true rfl⟩ (Nat.le_of_ble_eq_true rfl) rfl (ci := 7) (T := TX7) (N := 30) rfl (As := fun G => [.int r24, .int (nI 0)]) (fun _ => rfl) (fun _ => rfl) (st := [.int x5]) (Nat.le_of_ble_eq_true rfl) rfl dX7_reach_97 (kk_i (fun r26 σ26 h => ?_))
    refine v_goto hC 104 dX7_reach_100 (by decide) ?_
    refine v_iadd hC dX7_reach_104 ?_
    refine v_istoreN hC dX7_reach_105 (by decide) (lo2 := fun x5_27 => [(5, .int x5_27), (4, .int x4_19), (0, .ref (xad X 82)), (2, .int x2), (3, .int x3), (6, .int x6)]) (fun _ => rfl) (fun x5_27 e27 => ?_)
    replace h := h x5_27 e27
    refine v_iincN hC (nI 1) 5 dX7_reach_107 rfl rfl (by decide) (lo2 := fun x6_28 => [(6, .int x6_28), (5, .int x5_27), (4, .int x4_19), (0, .ref (xad X 82)), (2, .int x2), (3, .int x3)]) (fun _ => rfl) (fun x6_28 e28 => ?_)
    replace h := h x6_28 e28
    refine v_goto hC 44 dX7_reach_110 (by decide) ?_
    exact V.sub [3, 4, 5, 2, 1, 0] rfl (hK44 _ _ _ _ _ _ h)
set_option maxHeartbeats 4000000 in
set_option maxRecDepth 100000 in
theorem tM_reach_l44 {X : gX} {Q : Int32 → gM → Prop} (hC : VC X cX7_reach RX7 7 rmM_reach) (hR : VR X (some .int) (gPi Q))  : ∀ (n : Nat) (x2 : Int32) (x3 : Int32) (x4 : Int32) (x5 : Int32) (x6 : Int32) (σ : gM), wM_reach_l44 Q  n x2 x3 x4 x5 x6 σ → V X 7 44 [(0, .ref (xad X 82)), (2, .int x2), (3, .int x3), (4, .int x4), (5, .int x5), (6, .int x6)] [] σ := by
  intro n
  induction n with
  | zero => intro x2 x3 x4 x5 x6 σ h; exact h.elim
  | succ n ih =>
    intro x2 x3 x4 x5 x6 σ h
    replace h : ((σ 89 5) ≤ x6 → (∀ x6_13 : Int32, x6_13 = (((σ 89 5) - (nI 1)) - x3) → (∀ v15 : Int32, v15 = (if x2 = nI 0 then ((nI 1) + (if x6_13 ≤ x3 then x6_13 else x3)) else (if x5 ≤ x4 then x5 else x4)) → (Q v15 σ)))) ∧ (¬ ((σ 89 5) ≤ x6) → ((x3 ≤ x6 → (wM_reach_b78 Q (wM_reach_l44 Q n) x2 x3 x5 x6 x4 (nI 0) σ)) ∧ (¬ (x3 ≤ x6) → (wM_heap x6 σ (fun (r30 : Int32) (σ30 : gM) => wM_valueOf r30 (nI 0) σ30 (fun (r32 : Int32) (σ32 : gM) => wM_reach_b78 Q (wM_reach_l44 Q n) x2 x3 x5 x6 x4 r32 σ32)))))) := h
    refine v_iload hC 5 dX7_reach_44 rfl ?_
    refine v_aload_n hC 0 dX7_reach_46 rfl ?_
    refine gf_X7_28 hC dX7_reach_47 ?_
    refine v_iconst hC (nI 5) dX7_reach_50 rfl ?_
    refine v_iald hC (Nat.le_of_ble_eq_true rfl) rfl (j := 5) (by decide) (by unfold vp_in; decide) dX7_reach_51 ?_
    refine v_icmp_ge hC 113 dX7_reach_52 (by decide) (fun c11 => ?_) (fun c11 => ?_)
    · replace h := h.1 c11
      refine v_aload_n hC 0 dX7_reach_113 rfl ?_
      refine gf_X7_28 hC dX7_reach_114 ?_
      refine v_iconst hC (nI 5) dX7_reach_117 rfl ?_
      refine v_iald hC (Nat.le_of_ble_eq_true rfl) rfl (j := 5) (by decide) (by unfold vp_in; decide) dX7_reach_118 ?_
      refine v_iconst hC (nI 1) dX7_reach_119 rfl ?_
      refine v_isub hC dX7_reach_120 ?_
      refine v_iload_n hC 2 dX7_reach_121 rfl ?_
      refine v_isub hC dX7_reach_122 ?_
      refine v_istoreN hC dX7_reach_123 (by decide) (lo2 := fun x6_13 => [(6, .int x6_13), (0, .ref (xad X 82)), (2, .int x2), (3, .int x3), (4, .int x4), (5, .int x5)]) (fun _ => rfl) (fun x6_13 e13 => ?_)
      replace h := h x6_13 e13
      refine v_iload_n hC 2 dX7_reach_125 rfl ?_
      have J14 : ∀ (v15 : Int32) (ev15 : v15 = (if x2 = nI 0 then ((nI 1) + (if x6_13 ≤ x3 then x6_13 else x3)) else (if x5 ≤ x4 then x5 else x4))), V X 7 160 [] [.int v15] σ := by
        intro v15 ev15
        replace h := h v15 ev15
        exact v_iret hC hR h dX7_reach_160
      refine v_if_ne hC 146 dX7_reach_126 (by decide) (fun c14 => ?_) (fun c14 => ?_)
      · refine v_iload hC 4 dX7_reach_146 rfl ?_
        refine v_iload hC 5 dX7_reach_148 rfl ?_
        have J17 : V X 7 160 [] [.int (if x5 ≤ x4 then x5 else x4)] σ := by
          exact V.sub [] rfl (J14 _ (by rw [if_neg c14]))
        refine v_icmp_ge hC 158 dX7_reach_150 (by decide) (fun c17 => ?_) (fun c17 => ?_)
        · refine v_iload hC 5 dX7_reach_158 rfl ?_
          rw [if_pos c17] at J17
          exact V.sub [] rfl J17
        · refine v_iload hC 4 dX7_reach_153 rfl ?_
          refine v_goto hC 160 dX7_reach_155 (by decide) ?_
          rw [if_neg c17] at J17
          exact V.sub [] rfl J17
      · refine v_iconst hC (nI 1) dX7_reach_129 rfl ?_
        refine v_iload_n hC 3 dX7_reach_130 rfl ?_
        refine v_iload hC 0 dX7_reach_131 rfl ?_
        have J16 : V X 7 142 [] [.int (if x6_13 ≤ x3 then x6_13 else x3), .int (nI 1)] σ := by
          refine v_iadd hC dX7_reach_142 ?_
          refine v_goto hC 160 dX7_reach_143 (by decide) ?_
          exact V.sub [] rfl (J14 _ (by rw [if_pos c14]))
        refine v_icmp_ge hC 140 dX7_reach_133 (by decide) (fun c16 => ?_) (fun c16 => ?_)
        · refine v_iload hC 0 dX7_reach_140 rfl ?_
          rw [if_pos c16] at J16
          exact V.sub [] rfl J16
        · refine v_iload_n hC 3 dX7_reach_136 rfl ?_
          refine v_goto hC 142 dX7_reach_137 (by decide) ?_
          rw [if_neg c16] at J16
          exact V.sub [] rfl J16
    · replace h := h.2 c11
      refine v_iload hC 3 dX7_reach_55 rfl ?_
      refine v_iload hC 5 dX7_reach_57 rfl ?_
      refine v_iload_n hC 2 dX7_reach_59 rfl ?_
      refine v_icmp_ge hC 77 dX7_reach_60 (by decide) (fun c18 => ?_) (fun c18 => ?_)
      · replace h := h.1 c18
        refine v_iconst hC (nI 0) dX7_reach_77 rfl ?_
        exact V.sub [0, 1, 2, 4, 5] rfl (tM_reach_b78 hC hR ih _ _ _ _ _ _ _ h)
      · replace h := h.2 c18
        refine v_aload_n hC 0 dX7_reach_63 rfl ?_
        refine v_aload_n hC 0 dX7_reach_64 rfl ?_
        refine v_iload hC 5 dX7_reach_65 rfl ?_
        refine v_callV hC (kM_heap _ _ _ h) cmM_heap ⟨kw1148, kw52⟩ kw1146 ⟨Nat.le_of_ble_eq_true rfl, Nat.le_of_ble_eq_true rfl⟩ (Nat.le_of_ble_eq_true rfl) rfl (ci := 7) (T := TX7) (N := 30) rfl (As := fun G => [.int x6]) (fun _ => rfl) (fun _ => rfl) (st := [.ref (xad X 82), .int x4]) (Nat.le_of_ble_eq_true rfl) rfl dX7_reach_67 (kk_i (fun r30 σ30 h => ?_))
        refine v_iconst hC (nI 0) dX7_reach_70 rfl ?_
        refine v_callV hC (kM_valueOf _ _ _ _ h) cmM_valueOf ⟨kw1152, kw53⟩ kw1150 ⟨Nat.le_of_ble_eq_true rfl, Nat.le_of_ble_eq_true rfl⟩ (Nat.le_of_ble_eq_true rfl) rfl (ci := 7) (T := TX7) (N := 30) rfl (As := fun G => [.int r30, .int (nI 0)]) (fun _ => rfl) (fun _ => rfl) (st := [.int x4]) (Nat.le_of_ble_eq_true rfl) rfl dX7_reach_71 (kk_i (fun r32 σ32 h => ?_))
        refine v_goto hC 78 dX7_reach_74 (by decide) ?_
        exact V.sub [0, 1, 2, 4, 5] rfl (tM_reach_b78 hC hR ih _ _ _ _ _ _ _ h)
set_option maxHeartbeats 4000000 in
set_option maxRecDepth 100000 in
theorem kM_reach (x1 : Int32) (x2 : Int32) (σ : gM) (Q : Int32 → gM → Prop) (h : wM_reach x1 x2 σ Q) : CT yX7_reach cX7_reach 7 (some .int) rmM_reach (fun G => [.ref (gad G 82), .int x1, .int x2]) σ (gPi Q) := by
  refine c_enter (by decide) (fun _ => Nat.le_of_ble_eq_true rfl) (fun X hC hR => ?_)
  show V X 7 0 [(0, .ref (xad X 82)), (1, .int x1), (2, .int x2)] [] σ
  replace h : wM_isWareAt x1 σ (fun (r2 : Int32) (σ2 : gM) => (r2 = nI 0 → (Q (-1000001 : Int32) σ2)) ∧ (¬ (r2 = nI 0) → (wM_in x2 (nI 0) (nI 1) σ2 (fun (r5 : Int32) (σ5 : gM) => (r5 = nI 0 → (Q (-1000001 : Int32) σ5)) ∧ (¬ (r5 = nI 0) → (wM_placeOf x1 σ5 (fun (r8 : Int32) (σ8 : gM) => (r8 = (-1000000 : Int32) → (Q (-1000002 : Int32) σ8)) ∧ (¬ (r8 = (-1000000 : Int32)) → (∃ n33 : Nat, wM_reach_l44 Q n33 x2 r8 (nI 0) (nI 0) (nI 0) σ8))))))))) := h
  refine v_aload_n hC 0 dX7_reach_0 rfl ?_
  refine v_iload_n hC 1 dX7_reach_1 rfl ?_
  refine v_callV hC (kM_isWareAt _ _ _ h) cmM_isWareAt ⟨kw1203, kw61⟩ kw1201 ⟨Nat.le_of_ble_eq_true rfl, Nat.le_of_ble_eq_true rfl⟩ (Nat.le_of_ble_eq_true rfl) rfl (ci := 7) (T := TX7) (N := 30) rfl (As := fun G => [.int x1]) (fun _ => rfl) (fun _ => rfl) (st := []) (Nat.le_of_ble_eq_true rfl) rfl dX7_reach_2 (kk_i (fun r2 σ2 h => ?_))
  refine v_if_eq hC 17 dX7_reach_5 (by decide) (fun c3 => ?_) (fun c3 => ?_)
  · replace h := h.1 c3
    refine v_ldc hC kw1053 dX7_reach_17 ?_
    exact v_iret hC hR h dX7_reach_19
  · replace h := h.2 c3
    refine v_iload_n hC 2 dX7_reach_8 rfl ?_
    refine v_iconst hC (nI 0) dX7_reach_9 rfl ?_
    refine v_iconst hC (nI 1) dX7_reach_10 rfl ?_
    refine v_callS hC (kM_in _ _ _ _ _ h) cmM_in kw1051 kw1050 ⟨Nat.le_of_ble_eq_true rfl, Nat.le_of_ble_eq_true rfl⟩ (fun _ => rfl) (st := []) (Nat.le_of_ble_eq_true rfl) rfl dX7_reach_11 (kk_i (fun r5 σ5 h => ?_))
    refine v_if_ne hC 20 dX7_reach_14 (by decide) (fun c6 => ?_) (fun c6 => ?_)
    · replace h := h.2 c6
      refine v_aload_n hC 0 dX7_reach_20 rfl ?_
      refine v_iload_n hC 1 dX7_reach_21 rfl ?_
      refine v_callV hC (kM_placeOf _ _ _ h) cmM_placeOf ⟨kw1207, kw62⟩ kw1205 ⟨Nat.le_of_ble_eq_true rfl, Nat.le_of_ble_eq_true rfl⟩ (Nat.le_of_ble_eq_true rfl) rfl (ci := 7) (T := TX7) (N := 30) rfl (As := fun G => [.int x1]) (fun _ => rfl) (fun _ => rfl) (st := []) (Nat.le_of_ble_eq_true rfl) rfl dX7_reach_22 (kk_i (fun r8 σ8 h => ?_))
      refine v_istore_n hC dX7_reach_25 (by decide) rfl ?_
      refine v_iload_n hC 0 dX7_reach_26 rfl ?_
      refine v_ldc hC kw1132 dX7_reach_27 ?_
      refine v_icmp_ne hC 35 dX7_reach_29 (by decide) (fun c9 => ?_) (fun c9 => ?_)
      · replace h := h.2 c9
        refine v_iconst hC (nI 0) dX7_reach_35 rfl ?_
        refine v_istore hC dX7_reach_36 (by decide) rfl ?_
        refine v_iconst hC (nI 0) dX7_reach_38 rfl ?_
        refine v_istore hC dX7_reach_39 (by decide) rfl ?_
        refine v_iconst hC (nI 0) dX7_reach_41 rfl ?_
        refine v_istore hC dX7_reach_42 (by decide) rfl ?_
        obtain ⟨n33, h⟩ := h
        exact V.sub [4, 6, 3, 2, 1, 0] rfl (tM_reach_l44 hC hR  n33 _ _ _ _ _ _ h)
      · replace h := h.1 c9
        refine v_ldc hC kw1145 dX7_reach_32 ?_
        exact v_iret hC hR h dX7_reach_34
    · replace h := h.1 c6
      refine v_ldc hC kw1053 dX7_reach_17 ?_
      exact v_iret hC hR h dX7_reach_19
theorem cmM_reach : CM yX7_reach cX7_reach 7 (some .int) rmM_reach 2 := ⟨kw82, kw1271, rfl, rfl, by decide, by decide, by decide +kernel⟩
def rmM_harvest : Room := { frames := 3, cells := 0, slots := 0, locals := 69 }
def wM_harvest_l210 (Q : Int32 → gM → Prop)  : Nat → Int32 → Int32 → Int32 → gM → Prop
  | 0, _, _, _, _ => False
  | n + 1, x2, x4, x5, σ =>
    (x2 ≤ x5 → (vp_in x4 289 ∧ (Q (σ 96 x4.toNatClampNeg) σ))) ∧ (¬ (x2 ≤ x5) → (vp_in x4 289 ∧ (∀ v15 : Int32, v15 = (if (σ 96 x4.toNatClampNeg) = nI 0 then (nI 17) else (nI 1)) → (∀ x4_16 : Int32, x4_16 = (x4 + v15) → (∀ x5_17 : Int32, x5_17 = x5 + (nI 1) → (wM_harvest_l210 Q n x2 x4_16 x5_17 σ))))))
def wM_harvest_b130 (Q : Int32 → gM → Prop) (K26 : Int32 → Int32 → Int32 → Int32 → gM → Prop) (K34 : Int32 → Int32 → Int32 → Int32 → Int32 → gM → Prop) (x1 : Int32) (x2 : Int32) (x3 : Int32) (x4 : Int32) (x5 : Int32) (x6 : Int32) (x7 : Int32) (s0 : Int32) (σ : gM) : Prop :=
    ∀ v25 : Int32, v25 = (if x7 < s0 then s0 else x7) → (vp_in x6 289 ∧ (∀ σ26 : gM, σ26 = gU σ 95 x6.toNatClampNeg v25 → (∀ v28 : Int32, v28 = (if x7 < s0 then (nI 1) else (nI 0)) → (vp_in x6 289 ∧ (∀ σ29 : gM, σ29 = gU σ26 96 x6.toNatClampNeg v28 → (∀ x5_30 : Int32, x5_30 = x5 + (nI 1) → (K34 x1 x2 x3 x4 x5_30 σ29)))))))
def wM_harvest_b88 (Q : Int32 → gM → Prop) (K26 : Int32 → Int32 → Int32 → Int32 → gM → Prop) (K34 : Int32 → Int32 → Int32 → Int32 → Int32 → gM → Prop) (x1 : Int32) (x2 : Int32) (x3 : Int32) (x4 : Int32) (x5 : Int32) (x6 : Int32) (s0 : Int32) (σ : gM) : Prop :=
    (x4 = x3 → (wM_harvest_b130 Q K26 K34 x1 x2 x3 x4 x5 x6 s0 (nI 0) σ)) ∧ (¬ (x4 = x3) → (wM_heap (((x3 - (nI 1)) - x4) + x5) σ (fun (r32 : Int32) (σ32 : gM) => wM_worthOf r32 x1 x4 σ32 (fun (r34 : Int32) (σ34 : gM) => vp_in (x6 + (nI 1)) 289 ∧ (wM_harvest_b130 Q K26 K34 x1 x2 x3 x4 x5 x6 s0 (r34 + (σ34 95 (x6 + (nI 1)).toNatClampNeg)) σ34)))))
def wM_harvest_l34 (Q : Int32 → gM → Prop) (K26 : Int32 → Int32 → Int32 → Int32 → gM → Prop) : Nat → Int32 → Int32 → Int32 → Int32 → Int32 → gM → Prop
  | 0, _, _, _, _, _, _ => False
  | n + 1, x1, x2, x3, x4, x5, σ =>
    (x4 < x5 → (∀ x4_20 : Int32, x4_20 = x4 + (-1 : Int32) → (K26 x1 x2 x3 x4_20 σ))) ∧ (¬ (x4 < x5) → (∀ x6_21 : Int32, x6_21 = ((((nI 17) * x5) + x4) - x5) → ((x4 = x3 → (wM_harvest_b88 Q K26 (wM_harvest_l34 Q K26 n) x1 x2 x3 x4 x5 x6_21 (nI 0) σ)) ∧ (¬ (x4 = x3) → (wM_heap x5 σ (fun (r37 : Int32) (σ37 : gM) => wM_worthOf r37 x1 x4 σ37 (fun (r39 : Int32) (σ39 : gM) => vp_in (x6_21 + (nI 17)) 289 ∧ (wM_harvest_b88 Q K26 (wM_harvest_l34 Q K26 n) x1 x2 x3 x4 x5 x6_21 (r39 + (σ39 95 (x6_21 + (nI 17)).toNatClampNeg)) σ39))))))))
def wM_harvest_l26 (Q : Int32 → gM → Prop)  : Nat → Int32 → Int32 → Int32 → Int32 → gM → Prop
  | 0, _, _, _, _, _ => False
  | n + 1, x1, x2, x3, x4, σ =>
    (x4 < nI 0 → ((x2 = (-1 : Int32) → (Q (σ 95 0) σ)) ∧ (¬ (x2 = (-1 : Int32)) → ((x2 < x3 → (∃ n18 : Nat, wM_harvest_l210 Q n18 x2 (nI 0) (nI 0) σ)) ∧ (¬ (x2 < x3) → (Q (-1000000 : Int32) σ)))))) ∧ (¬ (x4 < nI 0) → (∃ n41 : Nat, wM_harvest_l34 Q (wM_harvest_l26 Q n) n41 x1 x2 x3 x4 (nI 0) σ))
def wM_harvest (x1 : Int32) (x2 : Int32) (σ : gM) (Q : Int32 → gM → Prop) : Prop :=
    wM_isBuyerAt x1 σ (fun (r2 : Int32) (σ2 : gM) => (r2 = nI 0 → (Q (-1000001 : Int32) σ2)) ∧ (¬ (r2 = nI 0) → (((-1 : Int32) ≤ x2 → (∀ x3_6 : Int32, x3_6 = (σ2 89 5) → (∃ n42 : Nat, wM_harvest_l26 Q n42 x1 x2 x3_6 x3_6 σ2))) ∧ (¬ ((-1 : Int32) ≤ x2) → (Q (-1000001 : Int32) σ2)))))
set_option maxHeartbeats 4000000 in
set_option maxRecDepth 100000 in
theorem tM_harvest_l210 {X : gX} {Q : Int32 → gM → Prop} (hC : VC X cX7_harvest RX7 9 rmM_harvest) (hR : VR X (some .int) (gPi Q))  : ∀ (n : Nat) (x2 : Int32) (x4 : Int32) (x5 : Int32) (σ : gM), wM_harvest_l210 Q  n x2 x4 x5 σ → V X 9 210 [(0, .ref (xad X 82)), (2, .int x2), (4, .int x4), (5, .int x5)] [] σ := by
  intro n
  induction n with
  | zero => intro x2 x4 x5 σ h; exact h.elim
  | succ n ih =>
    intro x2 x4 x5 σ h
    replace h : (x2 ≤ x5 → (vp_in x4 289 ∧ (Q (σ 96 x4.toNatClampNeg) σ))) ∧ (¬ (x2 ≤ x5) → (vp_in x4 289 ∧ (∀ v15 : Int32, v15 = (if (σ 96 x4.toNatClampNeg) = nI 0 then (nI 17) else (nI 1)) → (∀ x4_16 : Int32, x4_16 = (x4 + v15) → (∀ x5_17 : Int32, x5_17 = x5 + (nI 1) → (wM_harvest_l210 Q n x2 x4_16 x5_17 σ)))))) := h
    refine v_iload hC 3 dX7_harvest_210 rfl ?_
    refine v_iload_n hC 1 dX7_harvest_212 rfl ?_
    refine v_icmp_ge hC 243 dX7_harvest_213 (by decide) (fun c11 => ?_) (fun c11 => ?_)
    · replace h := h.1 c11
      refine v_aload_n hC 0 dX7_harvest_243 rfl ?_
      refine gf_X7_50 hC dX7_harvest_244 ?_
      refine v_iload hC 2 dX7_harvest_247 rfl ?_
      obtain ⟨hi12, h⟩ := h
      refine v_iald hC (Nat.le_of_ble_eq_true rfl) rfl rfl hi12 dX7_harvest_249 ?_
      exact v_iret hC hR h dX7_harvest_250
    · replace h := h.2 c11
      refine v_iload hC 2 dX7_harvest_216 rfl ?_
      refine v_aload_n hC 0 dX7_harvest_218 rfl ?_
      refine gf_X7_50 hC dX7_harvest_219 ?_
      refine v_iload hC 2 dX7_harvest_222 rfl ?_
      obtain ⟨hi13, h⟩ := h
      refine v_iald hC (Nat.le_of_ble_eq_true rfl) rfl rfl hi13 dX7_harvest_224 ?_
      have J14 : ∀ (v15 : Int32) (ev15 : v15 = (if (σ 96 x4.toNatClampNeg) = nI 0 then (nI 17) else (nI 1))), V X 9 234 [(0, .ref (xad X 82)), (2, .int x2), (5, .int x5)] [.int v15, .int x4] σ := by
        intro v15 ev15
        replace h := h v15 ev15
        refine v_iadd hC dX7_harvest_234 ?_
        refine v_istoreN hC dX7_harvest_235 (by decide) (lo2 := fun x4_16 => [(4, .int x4_16), (0, .ref (xad X 82)), (2, .int x2), (5, .int x5)]) (fun _ => rfl) (fun x4_16 e16 => ?_)
        replace h := h x4_16 e16
        refine v_iincN hC (nI 1) 3 dX7_harvest_237 rfl rfl (by decide) (lo2 := fun x5_17 => [(5, .int x5_17), (4, .int x4_16), (0, .ref (xad X 82)), (2, .int x2)]) (fun _ => rfl) (fun x5_17 e17 => ?_)
        replace h := h x5_17 e17
        refine v_goto hC 210 dX7_harvest_240 (by decide) ?_
        exact V.sub [2, 3, 1, 0] rfl (ih _ _ _ _ h)
      refine v_if_ne hC 233 dX7_harvest_225 (by decide) (fun c14 => ?_) (fun c14 => ?_)
      · refine v_iconst hC (nI 1) dX7_harvest_233 rfl ?_
        exact V.sub [0, 1, 3] rfl (J14 _ (by rw [if_neg c14]))
      · refine v_bipush hC (nI 17) dX7_harvest_228 rfl ?_
        refine v_goto hC 234 dX7_harvest_230 (by decide) ?_
        exact V.sub [0, 1, 3] rfl (J14 _ (by rw [if_pos c14]))
set_option maxHeartbeats 4000000 in
set_option maxRecDepth 100000 in
theorem tM_harvest_b130 {X : gX} {Q : Int32 → gM → Prop} (hC : VC X cX7_harvest RX7 9 rmM_harvest) (hR : VR X (some .int) (gPi Q)) {K26 : Int32 → Int32 → Int32 → Int32 → gM → Prop} (hK26 : ∀ (x1 : Int32) (x2 : Int32) (x3 : Int32) (x4 : Int32) (σ : gM), K26 x1 x2 x3 x4 σ → V X 9 26 [(0, .ref (xad X 82)), (1, .int x1), (2, .int x2), (3, .int x3), (4, .int x4)] [] σ) {K34 : Int32 → Int32 → Int32 → Int32 → Int32 → gM → Prop} (hK34 : ∀ (x1 : Int32) (x2 : Int32) (x3 : Int32) (x4 : Int32) (x5 : Int32) (σ : gM), K34 x1 x2 x3 x4 x5 σ → V X 9 34 [(0, .ref (xad X 82)), (1, .int x1), (2, .int x2), (3, .int x3), (4, .int x4), (5, .int x5)] [] σ) (x1 : Int32) (x2 : Int32) (x3 : Int32) (x4 : Int32) (x5 : Int32) (x6 : Int32) (x7 : Int32) (s0 : Int32) (σ : gM) (h : wM_harvest_b130 Q K26 K34 x1 x2 x3 x4 x5 x6 x7 s0 σ) : V X 9 130 [(0, .ref (xad X 82)), (1, .int x1), (2, .int x2), (3, .int x3), (4, .int x4), (5, .int x5), (6, .int x6), (7, .int x7)] [.int s0] σ := by
  replace h : ∀ v25 : Int32, v25 = (if x7 < s0 then s0 else x7) → (vp_in x6 289 ∧ (∀ σ26 : gM, σ26 = gU σ 95 x6.toNatClampNeg v25 → (∀ v28 : Int32, v28 = (if x7 < s0 then (nI 1) else (nI 0)) → (vp_in x6 289 ∧ (∀ σ29 : gM, σ29 = gU σ26 96 x6.toNatClampNeg v28 → (∀ x5_30 : Int32, x5_30 = x5 + (nI 1) → (K34 x1 x2 x3 x4 x5_30 σ29))))))) := h
  refine v_istore hC dX7_harvest_130 (by decide) rfl ?_
  refine v_aload_n hC 1 dX7_harvest_132 rfl ?_
  refine gf_X7_47 hC dX7_harvest_133 ?_
  refine v_iload hC 7 dX7_harvest_136 rfl ?_
  refine v_iload hC 8 dX7_harvest_138 rfl ?_
  refine v_iload hC 0 dX7_harvest_140 rfl ?_
  have J24 : ∀ (v25 : Int32) (ev25 : v25 = (if x7 < s0 then s0 else x7)), V X 9 152 [(0, .ref (xad X 82)), (1, .int x1), (2, .int x2), (3, .int x3), (4, .int x4), (5, .int x5), (6, .int x6), (7, .int x7), (8, .int s0)] [.int v25, .int x6, .ref (xad X 95)] σ := by
    intro v25 ev25
    replace h := h v25 ev25
    obtain ⟨hi26, h⟩ := h
    refine v_iast hC (Nat.le_of_ble_eq_true rfl) rfl rfl hi26 dX7_harvest_152 (fun σ26 e26 => ?_)
    replace h := h σ26 e26
    refine v_aload_n hC 0 dX7_harvest_153 rfl ?_
    refine gf_X7_50 hC dX7_harvest_154 ?_
    refine v_iload hC 6 dX7_harvest_157 rfl ?_
    refine v_iload hC 7 dX7_harvest_159 rfl ?_
    refine v_iload hC 8 dX7_harvest_161 rfl ?_
    have J27 : ∀ (v28 : Int32) (ev28 : v28 = (if x7 < s0 then (nI 1) else (nI 0))), V X 9 171 [(0, .ref (xad X 82)), (1, .int x1), (2, .int x2), (3, .int x3), (4, .int x4), (5, .int x5)] [.int v28, .int x6, .ref (xad X 96)] σ26 := by
      intro v28 ev28
      replace h := h v28 ev28
      obtain ⟨hi29, h⟩ := h
      refine v_iast hC (Nat.le_of_ble_eq_true rfl) rfl rfl hi29 dX7_harvest_171 (fun σ29 e29 => ?_)
      replace h := h σ29 e29
      refine v_iincN hC (nI 1) 5 dX7_harvest_172 rfl rfl (by decide) (lo2 := fun x5_30 => [(5, .int x5_30), (0, .ref (xad X 82)), (1, .int x1), (2, .int x2), (3, .int x3), (4, .int x4)]) (fun _ => rfl) (fun x5_30 e30 => ?_)
      replace h := h x5_30 e30
      refine v_goto hC 34 dX7_harvest_175 (by decide) ?_
      exact V.sub [1, 2, 3, 4, 5, 0] rfl (hK34 _ _ _ _ _ _ h)
    refine v_icmp_lt hC 170 dX7_harvest_163 (by decide) (fun c27 => ?_) (fun c27 => ?_)
    · refine v_iconst hC (nI 1) dX7_harvest_170 rfl ?_
      exact V.sub [0, 1, 2, 3, 4, 5] rfl (J27 _ (by rw [if_pos c27]))
    · refine v_iconst hC (nI 0) dX7_harvest_166 rfl ?_
      refine v_goto hC 171 dX7_harvest_167 (by decide) ?_
      exact V.sub [0, 1, 2, 3, 4, 5] rfl (J27 _ (by rw [if_neg c27]))
  refine v_icmp_lt hC 150 dX7_harvest_142 (by decide) (fun c24 => ?_) (fun c24 => ?_)
  · refine v_iload hC 0 dX7_harvest_150 rfl ?_
    exact V.sub [1, 2, 3, 4, 5, 6, 7, 8, 0] rfl (J24 _ (by rw [if_pos c24]))
  · refine v_iload hC 8 dX7_harvest_145 rfl ?_
    refine v_goto hC 152 dX7_harvest_147 (by decide) ?_
    exact V.sub [1, 2, 3, 4, 5, 6, 7, 8, 0] rfl (J24 _ (by rw [if_neg c24]))
set_option maxHeartbeats 4000000 in
set_option maxRecDepth 100000 in
theorem tM_harvest_b88 {X : gX} {Q : Int32 → gM → Prop} (hC : VC X cX7_harvest RX7 9 rmM_harvest) (hR : VR X (some .int) (gPi Q)) {K26 : Int32 → Int32 → Int32 → Int32 → gM → Prop} (hK26 : ∀ (x1 : Int32) (x2 : Int32) (x3 : Int32) (x4 : Int32) (σ : gM), K26 x1 x2 x3 x4 σ → V X 9 26 [(0, .ref (xad X 82)), (1, .int x1), (2, .int x2), (3, .int x3), (4, .int x4)] [] σ) {K34 : Int32 → Int32 → Int32 → Int32 → Int32 → gM → Prop} (hK34 : ∀ (x1 : Int32) (x2 : Int32) (x3 : Int32) (x4 : Int32) (x5 : Int32) (σ : gM), K34 x1 x2 x3 x4 x5 σ → V X 9 34 [(0, .ref (xad X 82)), (1, .int x1), (2, .int x2), (3, .int x3), (4, .int x4), (5, .int x5)] [] σ) (x1 : Int32) (x2 : Int32) (x3 : Int32) (x4 : Int32) (x5 : Int32) (x6 : Int32) (s0 : Int32) (σ : gM) (h : wM_harvest_b88 Q K26 K34 x1 x2 x3 x4 x5 x6 s0 σ) : V X 9 88 [(0, .ref (xad X 82)), (1, .int x1), (2, .int x2), (3, .int x3), (4, .int x4), (5, .int x5), (6, .int x6)] [.int s0] σ := by
  replace h : (x4 = x3 → (wM_harvest_b130 Q K26 K34 x1 x2 x3 x4 x5 x6 s0 (nI 0) σ)) ∧ (¬ (x4 = x3) → (wM_heap (((x3 - (nI 1)) - x4) + x5) σ (fun (r32 : Int32) (σ32 : gM) => wM_worthOf r32 x1 x4 σ32 (fun (r34 : Int32) (σ34 : gM) => vp_in (x6 + (nI 1)) 289 ∧ (wM_harvest_b130 Q K26 K34 x1 x2 x3 x4 x5 x6 s0 (r34 + (σ34 95 (x6 + (nI 1)).toNatClampNeg)) σ34))))) := h
  refine v_istore hC dX7_harvest_88 (by decide) rfl ?_
  refine v_iload hC 5 dX7_harvest_90 rfl ?_
  refine v_iload_n hC 4 dX7_harvest_92 rfl ?_
  refine v_icmp_ne hC 100 dX7_harvest_93 (by decide) (fun c23 => ?_) (fun c23 => ?_)
  · replace h := h.2 c23
    refine v_aload_n hC 1 dX7_harvest_100 rfl ?_
    refine v_aload_n hC 1 dX7_harvest_101 rfl ?_
    refine v_iload_n hC 4 dX7_harvest_102 rfl ?_
    refine v_iconst hC (nI 1) dX7_harvest_103 rfl ?_
    refine v_isub hC dX7_harvest_104 ?_
    refine v_iload hC 5 dX7_harvest_105 rfl ?_
    refine v_isub hC dX7_harvest_107 ?_
    refine v_iload hC 6 dX7_harvest_108 rfl ?_
    refine v_iadd hC dX7_harvest_110 ?_
    refine v_callV hC (kM_heap _ _ _ h) cmM_heap ⟨kw1148, kw52⟩ kw1146 ⟨Nat.le_of_ble_eq_true rfl, Nat.le_of_ble_eq_true rfl⟩ (Nat.le_of_ble_eq_true rfl) rfl (ci := 7) (T := TX7) (N := 30) rfl (As := fun G => [.int (((x3 - (nI 1)) - x4) + x5)]) (fun _ => rfl) (fun _ => rfl) (st := [.ref (xad X 82)]) (Nat.le_of_ble_eq_true rfl) rfl dX7_harvest_111 (kk_i (fun r32 σ32 h => ?_))
    refine v_iload_n hC 2 dX7_harvest_114 rfl ?_
    refine v_iload hC 5 dX7_harvest_115 rfl ?_
    refine v_callV hC (kM_worthOf _ _ _ _ _ h) cmM_worthOf ⟨kw1160, kw55⟩ kw1158 ⟨Nat.le_of_ble_eq_true rfl, Nat.le_of_ble_eq_true rfl⟩ (Nat.le_of_ble_eq_true rfl) rfl (ci := 7) (T := TX7) (N := 30) rfl (As := fun G => [.int r32, .int x1, .int x4]) (fun _ => rfl) (fun _ => rfl) (st := []) (Nat.le_of_ble_eq_true rfl) rfl dX7_harvest_117 (kk_i (fun r34 σ34 h => ?_))
    refine v_aload_n hC 1 dX7_harvest_120 rfl ?_
    refine gf_X7_47 hC dX7_harvest_121 ?_
    refine v_iload hC 7 dX7_harvest_124 rfl ?_
    refine v_iconst hC (nI 1) dX7_harvest_126 rfl ?_
    refine v_iadd hC dX7_harvest_127 ?_
    obtain ⟨hi35, h⟩ := h
    refine v_iald hC (Nat.le_of_ble_eq_true rfl) rfl rfl hi35 dX7_harvest_128 ?_
    refine v_iadd hC dX7_harvest_129 ?_
    exact V.sub [1, 2, 3, 4, 5, 6, 7, 0] rfl (tM_harvest_b130 hC hR hK26 hK34 _ _ _ _ _ _ _ _ _ h)
  · replace h := h.1 c23
    refine v_iconst hC (nI 0) dX7_harvest_96 rfl ?_
    refine v_goto hC 130 dX7_harvest_97 (by decide) ?_
    exact V.sub [1, 2, 3, 4, 5, 6, 7, 0] rfl (tM_harvest_b130 hC hR hK26 hK34 _ _ _ _ _ _ _ _ _ h)
set_option maxHeartbeats 4000000 in
set_option maxRecDepth 100000 in
theorem tM_harvest_l34 {X : gX} {Q : Int32 → gM → Prop} (hC : VC X cX7_harvest RX7 9 rmM_harvest) (hR : VR X (some .int) (gPi Q)) {K26 : Int32 → Int32 → Int32 → Int32 → gM → Prop} (hK26 : ∀ (x1 : Int32) (x2 : Int32) (x3 : Int32) (x4 : Int32) (σ : gM), K26 x1 x2 x3 x4 σ → V X 9 26 [(0, .ref (xad X 82)), (1, .int x1), (2, .int x2), (3, .int x3), (4, .int x4)] [] σ) : ∀ (n : Nat) (x1 : Int32) (x2 : Int32) (x3 : Int32) (x4 : Int32) (x5 : Int32) (σ : gM), wM_harvest_l34 Q K26 n x1 x2 x3 x4 x5 σ → V X 9 34 [(0, .ref (xad X 82)), (1, .int x1), (2, .int x2), (3, .int x3), (4, .int x4), (5, .int x5)] [] σ := by
  intro n
  induction n with
  | zero => intro x1 x2 x3 x4 x5 σ h; exact h.elim
  | succ n ih =>
    intro x1 x2 x3 x4 x5 σ h
    replace h : (x4 < x5 → (∀ x4_20 : Int32, x4_20 = x4 + (-1 : Int32) → (K26 x1 x2 x3 x4_20 σ))) ∧ (¬ (x4 < x5) → (∀ x6_21 : Int32, x6_21 = ((((nI 17) * x5) + x4) - x5) → ((x4 = x3 → (wM_harvest_b88 Q K26 (wM_harvest_l34 Q K26 n) x1 x2 x3 x4 x5 x6_21 (nI 0) σ)) ∧ (¬ (x4 = x3) → (wM_heap x5 σ (fun (r37 : Int32) (σ37 : gM) => wM_worthOf r37 x1 x4 σ37 (fun (r39 : Int32) (σ39 : gM) => vp_in (x6_21 + (nI 17)) 289 ∧ (wM_harvest_b88 Q K26 (wM_harvest_l34 Q K26 n) x1 x2 x3 x4 x5 x6_21 (r39 + (σ39 95 (x6_21 + (nI 17)).toNatClampNeg)) σ39)))))))) := h
    refine v_iload hC 5 dX7_harvest_34 rfl ?_
    refine v_iload hC 4 dX7_harvest_36 rfl ?_
    refine v_icmp_gt hC 178 dX7_harvest_38 (by decide) (fun c19 => ?_) (fun c19 => ?_)
    · replace h := h.1 c19
      refine v_iincN hC (-1 : Int32) 4 dX7_harvest_178 rfl rfl (by decide) (lo2 := fun x4_20 => [(4, .int x4_20), (0, .ref (xad X 82)), (1, .int x1), (2, .int x2), (3, .int x3), (5, .int x5)]) (fun _ => rfl) (fun x4_20 e20 => ?_)
      replace h := h x4_20 e20
      refine v_goto hC 26 dX7_harvest_181 (by decide) ?_
      exact V.sub [1, 2, 3, 4, 0] rfl (hK26 _ _ _ _ _ h)
    · replace h := h.2 c19
      refine v_bipush hC (nI 17) dX7_harvest_41 rfl ?_
      refine v_iload hC 5 dX7_harvest_43 rfl ?_
      refine v_imul hC dX7_harvest_45 ?_
      refine v_iload hC 4 dX7_harvest_46 rfl ?_
      refine v_iadd hC dX7_harvest_48 ?_
      refine v_iload hC 5 dX7_harvest_49 rfl ?_
      refine v_isub hC dX7_harvest_51 ?_
      refine v_istoreN hC dX7_harvest_52 (by decide) (lo2 := fun x6_21 => [(6, .int x6_21), (0, .ref (xad X 82)), (1, .int x1), (2, .int x2), (3, .int x3), (4, .int x4), (5, .int x5)]) (fun _ => rfl) (fun x6_21 e21 => ?_)
      replace h := h x6_21 e21
      refine v_iload hC 5 dX7_harvest_54 rfl ?_
      refine v_iload_n hC 4 dX7_harvest_56 rfl ?_
      refine v_icmp_ne hC 64 dX7_harvest_57 (by decide) (fun c22 => ?_) (fun c22 => ?_)
      · replace h := h.2 c22
        refine v_aload_n hC 1 dX7_harvest_64 rfl ?_
        refine v_aload_n hC 1 dX7_harvest_65 rfl ?_
        refine v_iload hC 6 dX7_harvest_66 rfl ?_
        refine v_callV hC (kM_heap _ _ _ h) cmM_heap ⟨kw1148, kw52⟩ kw1146 ⟨Nat.le_of_ble_eq_true rfl, Nat.le_of_ble_eq_true rfl⟩ (Nat.le_of_ble_eq_true rfl) rfl (ci := 7) (T := TX7) (N := 30) rfl (As := fun G => [.int x5]) (fun _ => rfl) (fun _ => rfl) (st := [.ref (xad X 82)]) (Nat.le_of_ble_eq_true rfl) rfl dX7_harvest_68 (kk_i (fun r37 σ37 h => ?_))
        refine v_iload_n hC 2 dX7_harvest_71 rfl ?_
        refine v_iload hC 5 dX7_harvest_72 rfl ?_
        refine v_callV hC (kM_worthOf _ _ _ _ _ h) cmM_worthOf ⟨kw1160, kw55⟩ kw1158 ⟨Nat.le_of_ble_eq_true rfl, Nat.le_of_ble_eq_true rfl⟩ (Nat.le_of_ble_eq_true rfl) rfl (ci := 7) (T := TX7) (N := 30) rfl (As := fun G => [.int r37, .int x1, .int x4]) (fun _ => rfl) (fun _ => rfl) (st := []) (Nat.le_of_ble_eq_true rfl) rfl dX7_harvest_74 (kk_i (fun r39 σ39 h => ?_))
        refine v_aload_n hC 1 dX7_harvest_77 rfl ?_
        refine gf_X7_47 hC dX7_harvest_78 ?_
        refine v_iload hC 0 dX7_harvest_81 rfl ?_
        refine v_bipush hC (nI 17) dX7_harvest_83 rfl ?_
        refine v_iadd hC dX7_harvest_85 ?_
        obtain ⟨hi40, h⟩ := h
        refine v_iald hC (Nat.le_of_ble_eq_true rfl) rfl rfl hi40 dX7_harvest_86 ?_
        refine v_iadd hC dX7_harvest_87 ?_
        exact V.sub [1, 2, 3, 4, 5, 6, 0] rfl (tM_harvest_b88 hC hR hK26 ih _ _ _ _ _ _ _ _ h)
      · replace h := h.1 c22
        refine v_iconst hC (nI 0) dX7_harvest_60 rfl ?_
        refine v_goto hC 88 dX7_harvest_61 (by decide) ?_
        exact V.sub [1, 2, 3, 4, 5, 6, 0] rfl (tM_harvest_b88 hC hR hK26 ih _ _ _ _ _ _ _ _ h)
set_option maxHeartbeats 4000000 in
set_option maxRecDepth 100000 in
theorem tM_harvest_l26 {X : gX} {Q : Int32 → gM → Prop} (hC : VC X cX7_harvest RX7 9 rmM_harvest) (hR : VR X (some .int) (gPi Q))  : ∀ (n : Nat) (x1 : Int32) (x2 : Int32) (x3 : Int32) (x4 : Int32) (σ : gM), wM_harvest_l26 Q  n x1 x2 x3 x4 σ → V X 9 26 [(0, .ref (xad X 82)), (1, .int x1), (2, .int x2), (3, .int x3), (4, .int x4)] [] σ := by
  intro n
  induction n with
  | zero => intro x1 x2 x3 x4 σ h; exact h.elim
  | succ n ih =>
    intro x1 x2 x3 x4 σ h
    replace h : (x4 < nI 0 → ((x2 = (-1 : Int32) → (Q (σ 95 0) σ)) ∧ (¬ (x2 = (-1 : Int32)) → ((x2 < x3 → (∃ n18 : Nat, wM_harvest_l210 Q n18 x2 (nI 0) (nI 0) σ)) ∧ (¬ (x2 < x3) → (Q (-1000000 : Int32) σ)))))) ∧ (¬ (x4 < nI 0) → (∃ n41 : Nat, wM_harvest_l34 Q (wM_harvest_l26 Q n) n41 x1 x2 x3 x4 (nI 0) σ)) := h
    refine v_iload hC 4 dX7_harvest_26 rfl ?_
    refine v_if_lt hC 184 dX7_harvest_28 (by decide) (fun c7 => ?_) (fun c7 => ?_)
    · replace h := h.1 c7
      refine v_iload_n hC 2 dX7_harvest_184 rfl ?_
      refine v_iconst hC (-1 : Int32) dX7_harvest_185 rfl ?_
      refine v_icmp_ne hC 196 dX7_harvest_186 (by decide) (fun c8 => ?_) (fun c8 => ?_)
      · replace h := h.2 c8
        refine v_iload_n hC 2 dX7_harvest_196 rfl ?_
        refine v_iload_n hC 3 dX7_harvest_197 rfl ?_
        refine v_icmp_lt hC 204 dX7_harvest_198 (by decide) (fun c10 => ?_) (fun c10 => ?_)
        · replace h := h.1 c10
          refine v_iconst hC (nI 0) dX7_harvest_204 rfl ?_
          refine v_istore hC dX7_harvest_205 (by decide) rfl ?_
          refine v_iconst hC (nI 0) dX7_harvest_207 rfl ?_
          refine v_istore hC dX7_harvest_208 (by decide) rfl ?_
          obtain ⟨n18, h⟩ := h
          exact V.sub [2, 4, 1, 0] rfl (tM_harvest_l210 hC hR  n18 _ _ _ _ h)
        · replace h := h.2 c10
          refine v_ldc hC kw1132 dX7_harvest_201 ?_
          exact v_iret hC hR h dX7_harvest_203
      · replace h := h.1 c8
        refine v_aload_n hC 0 dX7_harvest_189 rfl ?_
        refine gf_X7_47 hC dX7_harvest_190 ?_
        refine v_iconst hC (nI 0) dX7_harvest_193 rfl ?_
        refine v_iald hC (Nat.le_of_ble_eq_true rfl) rfl (j := 0) (by decide) (by unfold vp_in; decide) dX7_harvest_194 ?_
        exact v_iret hC hR h dX7_harvest_195
    · replace h := h.2 c7
      refine v_iconst hC (nI 0) dX7_harvest_31 rfl ?_
      refine v_istore hC dX7_harvest_32 (by decide) rfl ?_
      obtain ⟨n41, h⟩ := h
      exact V.sub [1, 2, 3, 4, 5, 0] rfl (tM_harvest_l34 hC hR ih n41 _ _ _ _ _ _ h)
set_option maxHeartbeats 4000000 in
set_option maxRecDepth 100000 in
theorem kM_harvest (x1 : Int32) (x2 : Int32) (σ : gM) (Q : Int32 → gM → Prop) (h : wM_harvest x1 x2 σ Q) : CT yX7_harvest cX7_harvest 9 (some .int) rmM_harvest (fun G => [.ref (gad G 82), .int x1, .int x2]) σ (gPi Q) := by
  refine c_enter (by decide) (fun _ => Nat.le_of_ble_eq_true rfl) (fun X hC hR => ?_)
  show V X 9 0 [(0, .ref (xad X 82)), (1, .int x1), (2, .int x2)] [] σ
  replace h : wM_isBuyerAt x1 σ (fun (r2 : Int32) (σ2 : gM) => (r2 = nI 0 → (Q (-1000001 : Int32) σ2)) ∧ (¬ (r2 = nI 0) → (((-1 : Int32) ≤ x2 → (∀ x3_6 : Int32, x3_6 = (σ2 89 5) → (∃ n42 : Nat, wM_harvest_l26 Q n42 x1 x2 x3_6 x3_6 σ2))) ∧ (¬ ((-1 : Int32) ≤ x2) → (Q (-1000001 : Int32) σ2))))) := h
  refine v_aload_n hC 0 dX7_harvest_0 rfl ?_
  refine v_iload_n hC 1 dX7_harvest_1 rfl ?_
  refine v_callV hC (kM_isBuyerAt _ _ _ h) cmM_isBuyerAt ⟨kw1143, kw51⟩ kw1141 ⟨Nat.le_of_ble_eq_true rfl, Nat.le_of_ble_eq_true rfl⟩ (Nat.le_of_ble_eq_true rfl) rfl (ci := 7) (T := TX7) (N := 30) rfl (As := fun G => [.int x1]) (fun _ => rfl) (fun _ => rfl) (st := []) (Nat.le_of_ble_eq_true rfl) rfl dX7_harvest_2 (kk_i (fun r2 σ2 h => ?_))
  refine v_if_eq hC 13 dX7_harvest_5 (by decide) (fun c3 => ?_) (fun c3 => ?_)
  · replace h := h.1 c3
    refine v_ldc hC kw1053 dX7_harvest_13 ?_
    exact v_iret hC hR h dX7_harvest_15
  · replace h := h.2 c3
    refine v_iload_n hC 2 dX7_harvest_8 rfl ?_
    refine v_iconst hC (-1 : Int32) dX7_harvest_9 rfl ?_
    refine v_icmp_ge hC 16 dX7_harvest_10 (by decide) (fun c4 => ?_) (fun c4 => ?_)
    · replace h := h.1 c4
      refine v_aload_n hC 0 dX7_harvest_16 rfl ?_
      refine gf_X7_28 hC dX7_harvest_17 ?_
      refine v_iconst hC (nI 5) dX7_harvest_20 rfl ?_
      refine v_iald hC (Nat.le_of_ble_eq_true rfl) rfl (j := 5) (by decide) (by unfold vp_in; decide) dX7_harvest_21 ?_
      refine v_istore_nN hC dX7_harvest_22 (by decide) (lo2 := fun x3_6 => [(3, .int x3_6), (0, .ref (xad X 82)), (1, .int x1), (2, .int x2)]) (fun _ => rfl) (fun x3_6 e6 => ?_)
      replace h := h x3_6 e6
      refine v_iload_n hC 0 dX7_harvest_23 rfl ?_
      refine v_istore hC dX7_harvest_24 (by decide) rfl ?_
      obtain ⟨n42, h⟩ := h
      exact V.sub [2, 3, 4, 1, 0] rfl (tM_harvest_l26 hC hR  n42 _ _ _ _ _ h)
    · replace h := h.2 c4
      refine v_ldc hC kw1053 dX7_harvest_13 ?_
      exact v_iret hC hR h dX7_harvest_15
theorem cmM_harvest : CM yX7_harvest cX7_harvest 9 (some .int) rmM_harvest 2 := ⟨kw82, kw1275, rfl, rfl, by decide, by decide, by decide +kernel⟩
def rmM_judge : Room := { frames := 2, cells := 0, slots := 0, locals := 44 }
def wM_judge_b154 (Q : Int32 → gM → Prop) (K108 : Int32 → Int32 → Int32 → Int32 → Int32 → Int32 → gM → Prop) (x1 : Int32) (x2 : Int32) (x3 : Int32) (x5 : Int32) (x6 : Int32) (x7 : Int32) (x8 : Int32) (σ : gM) : Prop :=
    (x6 < x5 → (wM_did x7 σ (fun (r23 : Int32) (σ23 : gM) => Q r23 σ23))) ∧ (¬ (x6 < x5) → (wM_heap x6 σ (fun (r25 : Int32) (σ25 : gM) => (r25 = x8 → (∀ x6_27 : Int32, x6_27 = x6 + (-1 : Int32) → (∀ x7_28 : Int32, x7_28 = x7 + (nI 1) → (K108 x1 x2 x3 x5 x6_27 x7_28 σ25)))) ∧ (¬ (r25 = x8) → (wM_did x7 σ25 (fun (r30 : Int32) (σ30 : gM) => Q r30 σ30))))))
def wM_judge_l108 (Q : Int32 → gM → Prop)  : Nat → Int32 → Int32 → Int32 → Int32 → Int32 → Int32 → gM → Prop
  | 0, _, _, _, _, _, _, _ => False
  | n + 1, x1, x2, x3, x5, x6, x7, σ =>
    (x3 ≤ x7 → (wM_did (-1000000 : Int32) σ (fun (r17 : Int32) (σ17 : gM) => Q r17 σ17))) ∧ (¬ (x3 ≤ x7) → (vp_in ((((nI 40) * x1) + x2) + x7) 320 ∧ (∀ x8_19 : Int32, x8_19 = (σ 85 ((((nI 40) * x1) + x2) + x7).toNatClampNeg) → ((x6 < x5 → (wM_judge_b154 Q (wM_judge_l108 Q n) x1 x2 x3 x5 x6 x7 x8_19 σ)) ∧ (¬ (x6 < x5) → (wM_heap x5 σ (fun (r32 : Int32) (σ32 : gM) => (r32 = x8_19 → (∀ x5_34 : Int32, x5_34 = x5 + (nI 1) → (∀ x7_35 : Int32, x7_35 = x7 + (nI 1) → (wM_judge_l108 Q n x1 x2 x3 x5_34 x6 x7_35 σ32)))) ∧ (¬ (r32 = x8_19) → (wM_judge_b154 Q (wM_judge_l108 Q n) x1 x2 x3 x5 x6 x7 x8_19 σ32)))))))))
def wM_judge_l56 (Q : Int32 → gM → Prop)  : Nat → Int32 → Int32 → Int32 → Int32 → gM → Prop
  | 0, _, _, _, _, _ => False
  | n + 1, x1, x2, x3, x5, σ =>
    (x3 ≤ x5 → (∀ x6_14 : Int32, x6_14 = ((σ 89 5) - (nI 1)) → (∃ n36 : Nat, wM_judge_l108 Q n36 x1 x2 x3 (nI 0) x6_14 (nI 0) σ))) ∧ (¬ (x3 ≤ x5) → (vp_in ((((nI 40) * x1) + x2) + x5) 320 ∧ (wM_isWareAt (σ 85 ((((nI 40) * x1) + x2) + x5).toNatClampNeg) σ (fun (r39 : Int32) (σ39 : gM) => (r39 = nI 0 → (Q (-1000001 : Int32) σ39)) ∧ (¬ (r39 = nI 0) → (∀ x5_41 : Int32, x5_41 = x5 + (nI 1) → (wM_judge_l56 Q n x1 x2 x3 x5_41 σ39)))))))
def wM_judge (x1 : Int32) (x2 : Int32) (x3 : Int32) (σ : gM) (Q : Int32 → gM → Prop) : Prop :=
    ((σ 89 0) = nI 0 → (Q (-1000002 : Int32) σ)) ∧ (¬ ((σ 89 0) = nI 0) → (wM_isRow x1 σ (fun (r4 : Int32) (σ4 : gM) => (r4 = nI 0 → (Q (-1000001 : Int32) σ4)) ∧ (¬ (r4 = nI 0) → (wM_in x3 (nI 1) (nI 16) σ4 (fun (r7 : Int32) (σ7 : gM) => (r7 = nI 0 → (Q (-1000001 : Int32) σ7)) ∧ (¬ (r7 = nI 0) → (wM_whyNot x1 x2 x3 σ7 (fun (r10 : Int32) (σ10 : gM) => (r10 = nI 0 → (∃ n42 : Nat, wM_judge_l56 Q n42 x1 x2 x3 (nI 0) σ10)) ∧ (¬ (r10 = nI 0) → (wM_finds r10 σ10 (fun (r44 : Int32) (σ44 : gM) => Q r44 σ44))))))))))))
set_option maxHeartbeats 4000000 in
set_option maxRecDepth 100000 in
theorem tM_judge_b154 {X : gX} {Q : Int32 → gM → Prop} (hC : VC X cX7_judge RX7 9 rmM_judge) (hR : VR X (some .int) (gPi Q)) {K108 : Int32 → Int32 → Int32 → Int32 → Int32 → Int32 → gM → Prop} (hK108 : ∀ (x1 : Int32) (x2 : Int32) (x3 : Int32) (x5 : Int32) (x6 : Int32) (x7 : Int32) (σ : gM), K108 x1 x2 x3 x5 x6 x7 σ → V X 9 108 [(0, .ref (xad X 82)), (1, .int x1), (2, .int x2), (3, .int x3), (5, .int x5), (6, .int x6), (7, .int x7)] [] σ) (x1 : Int32) (x2 : Int32) (x3 : Int32) (x5 : Int32) (x6 : Int32) (x7 : Int32) (x8 : Int32) (σ : gM) (h : wM_judge_b154 Q K108 x1 x2 x3 x5 x6 x7 x8 σ) : V X 9 154 [(0, .ref (xad X 82)), (1, .int x1), (2, .int x2), (3, .int x3), (5, .int x5), (6, .int x6), (7, .int x7), (8, .int x8)] [] σ := by
  replace h : (x6 < x5 → (wM_did x7 σ (fun (r23 : Int32) (σ23 : gM) => Q r23 σ23))) ∧ (¬ (x6 < x5) → (wM_heap x6 σ (fun (r25 : Int32) (σ25 : gM) => (r25 = x8 → (∀ x6_27 : Int32, x6_27 = x6 + (-1 : Int32) → (∀ x7_28 : Int32, x7_28 = x7 + (nI 1) → (K108 x1 x2 x3 x5 x6_27 x7_28 σ25)))) ∧ (¬ (r25 = x8) → (wM_did x7 σ25 (fun (r30 : Int32) (σ30 : gM) => Q r30 σ30)))))) := h
  refine v_iload hC 4 dX7_judge_154 rfl ?_
  refine v_iload hC 5 dX7_judge_156 rfl ?_
  refine v_icmp_gt hC 178 dX7_judge_158 (by decide) (fun c21 => ?_) (fun c21 => ?_)
  · replace h := h.1 c21
    refine v_aload_n hC 0 dX7_judge_178 rfl ?_
    refine v_iload hC 6 dX7_judge_179 rfl ?_
    refine v_callV hC (kM_did _ _ _ h) cmM_did ⟨kw1061, kw42⟩ kw1059 ⟨Nat.le_of_ble_eq_true rfl, Nat.le_of_ble_eq_true rfl⟩ (Nat.le_of_ble_eq_true rfl) rfl (ci := 7) (T := TX7) (N := 30) rfl (As := fun G => [.int x7]) (fun _ => rfl) (fun _ => rfl) (st := []) (Nat.le_of_ble_eq_true rfl) rfl dX7_judge_181 (kk_i (fun r23 σ23 h => ?_))
    exact v_iret hC hR h dX7_judge_184
  · replace h := h.2 c21
    refine v_aload_n hC 0 dX7_judge_161 rfl ?_
    refine v_iload hC 5 dX7_judge_162 rfl ?_
    refine v_callV hC (kM_heap _ _ _ h) cmM_heap ⟨kw1148, kw52⟩ kw1146 ⟨Nat.le_of_ble_eq_true rfl, Nat.le_of_ble_eq_true rfl⟩ (Nat.le_of_ble_eq_true rfl) rfl (ci := 7) (T := TX7) (N := 30) rfl (As := fun G => [.int x6]) (fun _ => rfl) (fun _ => rfl) (st := []) (Nat.le_of_ble_eq_true rfl) rfl dX7_judge_164 (kk_i (fun r25 σ25 h => ?_))
    refine v_iload hC 7 dX7_judge_167 rfl ?_
    refine v_icmp_ne hC 178 dX7_judge_169 (by decide) (fun c26 => ?_) (fun c26 => ?_)
    · replace h := h.2 c26
      refine v_aload_n hC 0 dX7_judge_178 rfl ?_
      refine v_iload hC 6 dX7_judge_179 rfl ?_
      refine v_callV hC (kM_did _ _ _ h) cmM_did ⟨kw1061, kw42⟩ kw1059 ⟨Nat.le_of_ble_eq_true rfl, Nat.le_of_ble_eq_true rfl⟩ (Nat.le_of_ble_eq_true rfl) rfl (ci := 7) (T := TX7) (N := 30) rfl (As := fun G => [.int x7]) (fun _ => rfl) (fun _ => rfl) (st := []) (Nat.le_of_ble_eq_true rfl) rfl dX7_judge_181 (kk_i (fun r30 σ30 h => ?_))
      exact v_iret hC hR h dX7_judge_184
    · replace h := h.1 c26
      refine v_iincN hC (-1 : Int32) 5 dX7_judge_172 rfl rfl (by decide) (lo2 := fun x6_27 => [(6, .int x6_27), (0, .ref (xad X 82)), (1, .int x1), (2, .int x2), (3, .int x3), (5, .int x5), (7, .int x7), (8, .int x8)]) (fun _ => rfl) (fun x6_27 e27 => ?_)
      replace h := h x6_27 e27
      refine v_goto hC 185 dX7_judge_175 (by decide) ?_
      refine v_iincN hC (nI 1) 6 dX7_judge_185 rfl rfl (by decide) (lo2 := fun x7_28 => [(7, .int x7_28), (6, .int x6_27), (0, .ref (xad X 82)), (1, .int x1), (2, .int x2), (3, .int x3), (5, .int x5), (8, .int x8)]) (fun _ => rfl) (fun x7_28 e28 => ?_)
      replace h := h x7_28 e28
      refine v_goto hC 108 dX7_judge_188 (by decide) ?_
      exact V.sub [2, 3, 4, 5, 6, 1, 0] rfl (hK108 _ _ _ _ _ _ _ h)
set_option maxHeartbeats 4000000 in
set_option maxRecDepth 100000 in
theorem tM_judge_l108 {X : gX} {Q : Int32 → gM → Prop} (hC : VC X cX7_judge RX7 9 rmM_judge) (hR : VR X (some .int) (gPi Q))  : ∀ (n : Nat) (x1 : Int32) (x2 : Int32) (x3 : Int32) (x5 : Int32) (x6 : Int32) (x7 : Int32) (σ : gM), wM_judge_l108 Q  n x1 x2 x3 x5 x6 x7 σ → V X 9 108 [(0, .ref (xad X 82)), (1, .int x1), (2, .int x2), (3, .int x3), (5, .int x5), (6, .int x6), (7, .int x7)] [] σ := by
  intro n
  induction n with
  | zero => intro x1 x2 x3 x5 x6 x7 σ h; exact h.elim
  | succ n ih =>
    intro x1 x2 x3 x5 x6 x7 σ h
    replace h : (x3 ≤ x7 → (wM_did (-1000000 : Int32) σ (fun (r17 : Int32) (σ17 : gM) => Q r17 σ17))) ∧ (¬ (x3 ≤ x7) → (vp_in ((((nI 40) * x1) + x2) + x7) 320 ∧ (∀ x8_19 : Int32, x8_19 = (σ 85 ((((nI 40) * x1) + x2) + x7).toNatClampNeg) → ((x6 < x5 → (wM_judge_b154 Q (wM_judge_l108 Q n) x1 x2 x3 x5 x6 x7 x8_19 σ)) ∧ (¬ (x6 < x5) → (wM_heap x5 σ (fun (r32 : Int32) (σ32 : gM) => (r32 = x8_19 → (∀ x5_34 : Int32, x5_34 = x5 + (nI 1) → (∀ x7_35 : Int32, x7_35 = x7 + (nI 1) → (wM_judge_l108 Q n x1 x2 x3 x5_34 x6 x7_35 σ32)))) ∧ (¬ (r32 = x8_19) → (wM_judge_b154 Q (wM_judge_l108 Q n) x1 x2 x3 x5 x6 x7 x8_19 σ32))))))))) := h
    refine v_iload hC 6 dX7_judge_108 rfl ?_
    refine v_iload_n hC 3 dX7_judge_110 rfl ?_
    refine v_icmp_ge hC 191 dX7_judge_111 (by decide) (fun c15 => ?_) (fun c15 => ?_)
    · replace h := h.1 c15
      refine v_aload_n hC 0 dX7_judge_191 rfl ?_
      refine v_ldc hC kw1132 dX7_judge_192 ?_
      refine v_callV hC (kM_did _ _ _ h) cmM_did ⟨kw1061, kw42⟩ kw1059 ⟨Nat.le_of_ble_eq_true rfl, Nat.le_of_ble_eq_true rfl⟩ (Nat.le_of_ble_eq_true rfl) rfl (ci := 7) (T := TX7) (N := 30) rfl (As := fun G => [.int (-1000000 : Int32)]) (fun _ => rfl) (fun _ => rfl) (st := []) (Nat.le_of_ble_eq_true rfl) rfl dX7_judge_194 (kk_i (fun r17 σ17 h => ?_))
      exact v_iret hC hR h dX7_judge_197
    · replace h := h.2 c15
      refine v_aload_n hC 0 dX7_judge_114 rfl ?_
      refine gf_X7_16 hC dX7_judge_115 ?_
      refine v_bipush hC (nI 40) dX7_judge_118 rfl ?_
      refine v_iload_n hC 1 dX7_judge_120 rfl ?_
      refine v_imul hC dX7_judge_121 ?_
      refine v_iload_n hC 2 dX7_judge_122 rfl ?_
      refine v_iadd hC dX7_judge_123 ?_
      refine v_iload hC 6 dX7_judge_124 rfl ?_
      refine v_iadd hC dX7_judge_126 ?_
      obtain ⟨hi18, h⟩ := h
      refine v_iald hC (Nat.le_of_ble_eq_true rfl) rfl rfl hi18 dX7_judge_127 ?_
      refine v_istoreN hC dX7_judge_128 (by decide) (lo2 := fun x8_19 => [(8, .int x8_19), (0, .ref (xad X 82)), (1, .int x1), (2, .int x2), (3, .int x3), (5, .int x5), (6, .int x6), (7, .int x7)]) (fun _ => rfl) (fun x8_19 e19 => ?_)
      replace h := h x8_19 e19
      refine v_iload hC 5 dX7_judge_130 rfl ?_
      refine v_iload hC 6 dX7_judge_132 rfl ?_
      refine v_icmp_gt hC 154 dX7_judge_134 (by decide) (fun c20 => ?_) (fun c20 => ?_)
      · replace h := h.1 c20
        exact V.sub [1, 2, 3, 4, 5, 6, 7, 0] rfl (tM_judge_b154 hC hR ih _ _ _ _ _ _ _ _ h)
      · replace h := h.2 c20
        refine v_aload_n hC 1 dX7_judge_137 rfl ?_
        refine v_iload hC 5 dX7_judge_138 rfl ?_
        refine v_callV hC (kM_heap _ _ _ h) cmM_heap ⟨kw1148, kw52⟩ kw1146 ⟨Nat.le_of_ble_eq_true rfl, Nat.le_of_ble_eq_true rfl⟩ (Nat.le_of_ble_eq_true rfl) rfl (ci := 7) (T := TX7) (N := 30) rfl (As := fun G => [.int x5]) (fun _ => rfl) (fun _ => rfl) (st := []) (Nat.le_of_ble_eq_true rfl) rfl dX7_judge_140 (kk_i (fun r32 σ32 h => ?_))
        refine v_iload hC 0 dX7_judge_143 rfl ?_
        refine v_icmp_ne hC 154 dX7_judge_145 (by decide) (fun c33 => ?_) (fun c33 => ?_)
        · replace h := h.2 c33
          exact V.sub [1, 2, 3, 4, 5, 6, 7, 0] rfl (tM_judge_b154 hC hR ih _ _ _ _ _ _ _ _ h)
        · replace h := h.1 c33
          refine v_iincN hC (nI 1) 5 dX7_judge_148 rfl rfl (by decide) (lo2 := fun x5_34 => [(5, .int x5_34), (8, .int x8_19), (0, .ref (xad X 82)), (1, .int x1), (2, .int x2), (3, .int x3), (6, .int x6), (7, .int x7)]) (fun _ => rfl) (fun x5_34 e34 => ?_)
          replace h := h x5_34 e34
          refine v_goto hC 185 dX7_judge_151 (by decide) ?_
          refine v_iincN hC (nI 1) 7 dX7_judge_185 rfl rfl (by decide) (lo2 := fun x7_35 => [(7, .int x7_35), (5, .int x5_34), (8, .int x8_19), (0, .ref (xad X 82)), (1, .int x1), (2, .int x2), (3, .int x3), (6, .int x6)]) (fun _ => rfl) (fun x7_35 e35 => ?_)
          replace h := h x7_35 e35
          refine v_goto hC 108 dX7_judge_188 (by decide) ?_
          exact V.sub [3, 4, 5, 6, 1, 7, 0] rfl (ih _ _ _ _ _ _ _ h)
set_option maxHeartbeats 4000000 in
set_option maxRecDepth 100000 in
theorem tM_judge_l56 {X : gX} {Q : Int32 → gM → Prop} (hC : VC X cX7_judge RX7 9 rmM_judge) (hR : VR X (some .int) (gPi Q))  : ∀ (n : Nat) (x1 : Int32) (x2 : Int32) (x3 : Int32) (x5 : Int32) (σ : gM), wM_judge_l56 Q  n x1 x2 x3 x5 σ → V X 9 56 [(0, .ref (xad X 82)), (1, .int x1), (2, .int x2), (3, .int x3), (5, .int x5)] [] σ := by
  intro n
  induction n with
  | zero => intro x1 x2 x3 x5 σ h; exact h.elim
  | succ n ih =>
    intro x1 x2 x3 x5 σ h
    replace h : (x3 ≤ x5 → (∀ x6_14 : Int32, x6_14 = ((σ 89 5) - (nI 1)) → (∃ n36 : Nat, wM_judge_l108 Q n36 x1 x2 x3 (nI 0) x6_14 (nI 0) σ))) ∧ (¬ (x3 ≤ x5) → (vp_in ((((nI 40) * x1) + x2) + x5) 320 ∧ (wM_isWareAt (σ 85 ((((nI 40) * x1) + x2) + x5).toNatClampNeg) σ (fun (r39 : Int32) (σ39 : gM) => (r39 = nI 0 → (Q (-1000001 : Int32) σ39)) ∧ (¬ (r39 = nI 0) → (∀ x5_41 : Int32, x5_41 = x5 + (nI 1) → (wM_judge_l56 Q n x1 x2 x3 x5_41 σ39))))))) := h
    refine v_iload hC 4 dX7_judge_56 rfl ?_
    refine v_iload_n hC 3 dX7_judge_58 rfl ?_
    refine v_icmp_ge hC 92 dX7_judge_59 (by decide) (fun c12 => ?_) (fun c12 => ?_)
    · replace h := h.1 c12
      refine v_iconst hC (nI 0) dX7_judge_92 rfl ?_
      refine v_istore hC dX7_judge_93 (by decide) rfl ?_
      refine v_aload_n hC 1 dX7_judge_95 rfl ?_
      refine gf_X7_28 hC dX7_judge_96 ?_
      refine v_iconst hC (nI 5) dX7_judge_99 rfl ?_
      refine v_iald hC (Nat.le_of_ble_eq_true rfl) rfl (j := 5) (by decide) (by unfold vp_in; decide) dX7_judge_100 ?_
      refine v_iconst hC (nI 1) dX7_judge_101 rfl ?_
      refine v_isub hC dX7_judge_102 ?_
      refine v_istoreN hC dX7_judge_103 (by decide) (lo2 := fun x6_14 => [(6, .int x6_14), (5, .int (nI 0)), (0, .ref (xad X 82)), (1, .int x1), (2, .int x2), (3, .int x3)]) (fun _ => rfl) (fun x6_14 e14 => ?_)
      replace h := h x6_14 e14
      refine v_iconst hC (nI 0) dX7_judge_105 rfl ?_
      refine v_istore hC dX7_judge_106 (by decide) rfl ?_
      obtain ⟨n36, h⟩ := h
      exact V.sub [3, 4, 5, 6, 2, 1, 0] rfl (tM_judge_l108 hC hR  n36 _ _ _ _ _ _ _ h)
    · replace h := h.2 c12
      refine v_aload_n hC 0 dX7_judge_62 rfl ?_
      refine v_aload_n hC 0 dX7_judge_63 rfl ?_
      refine gf_X7_16 hC dX7_judge_64 ?_
      refine v_bipush hC (nI 40) dX7_judge_67 rfl ?_
      refine v_iload_n hC 1 dX7_judge_69 rfl ?_
      refine v_imul hC dX7_judge_70 ?_
      refine v_iload_n hC 2 dX7_judge_71 rfl ?_
      refine v_iadd hC dX7_judge_72 ?_
      refine v_iload hC 4 dX7_judge_73 rfl ?_
      refine v_iadd hC dX7_judge_75 ?_
      obtain ⟨hi37, h⟩ := h
      refine v_iald hC (Nat.le_of_ble_eq_true rfl) rfl rfl hi37 dX7_judge_76 ?_
      refine v_callV hC (kM_isWareAt _ _ _ h) cmM_isWareAt ⟨kw1203, kw61⟩ kw1201 ⟨Nat.le_of_ble_eq_true rfl, Nat.le_of_ble_eq_true rfl⟩ (Nat.le_of_ble_eq_true rfl) rfl (ci := 7) (T := TX7) (N := 30) rfl (As := fun G => [.int (σ 85 ((((nI 40) * x1) + x2) + x5).toNatClampNeg)]) (fun _ => rfl) (fun _ => rfl) (st := []) (Nat.le_of_ble_eq_true rfl) rfl dX7_judge_77 (kk_i (fun r39 σ39 h => ?_))
      refine v_if_ne hC 86 dX7_judge_80 (by decide) (fun c40 => ?_) (fun c40 => ?_)
      · replace h := h.2 c40
        refine v_iincN hC (nI 1) 4 dX7_judge_86 rfl rfl (by decide) (lo2 := fun x5_41 => [(5, .int x5_41), (0, .ref (xad X 82)), (1, .int x1), (2, .int x2), (3, .int x3)]) (fun _ => rfl) (fun x5_41 e41 => ?_)
        replace h := h x5_41 e41
        refine v_goto hC 56 dX7_judge_89 (by decide) ?_
        exact V.sub [1, 2, 3, 4, 0] rfl (ih _ _ _ _ _ h)
      · replace h := h.1 c40
        refine v_ldc hC kw1053 dX7_judge_83 ?_
        exact v_iret hC hR h dX7_judge_85
set_option maxHeartbeats 4000000 in
set_option maxRecDepth 100000 in
theorem kM_judge (x1 : Int32) (x2 : Int32) (x3 : Int32) (σ : gM) (Q : Int32 → gM → Prop) (h : wM_judge x1 x2 x3 σ Q) : CT yX7_judge cX7_judge 9 (some .int) rmM_judge (fun G => [.ref (gad G 82), .int x1, .int x2, .int x3]) σ (gPi Q) := by
  refine c_enter (by decide) (fun _ => Nat.le_of_ble_eq_true rfl) (fun X hC hR => ?_)
  show V X 9 0 [(0, .ref (xad X 82)), (1, .int x1), (2, .int x2), (3, .int x3)] [] σ
  replace h : ((σ 89 0) = nI 0 → (Q (-1000002 : Int32) σ)) ∧ (¬ ((σ 89 0) = nI 0) → (wM_isRow x1 σ (fun (r4 : Int32) (σ4 : gM) => (r4 = nI 0 → (Q (-1000001 : Int32) σ4)) ∧ (¬ (r4 = nI 0) → (wM_in x3 (nI 1) (nI 16) σ4 (fun (r7 : Int32) (σ7 : gM) => (r7 = nI 0 → (Q (-1000001 : Int32) σ7)) ∧ (¬ (r7 = nI 0) → (wM_whyNot x1 x2 x3 σ7 (fun (r10 : Int32) (σ10 : gM) => (r10 = nI 0 → (∃ n42 : Nat, wM_judge_l56 Q n42 x1 x2 x3 (nI 0) σ10)) ∧ (¬ (r10 = nI 0) → (wM_finds r10 σ10 (fun (r44 : Int32) (σ44 : gM) => Q r44 σ44)))))))))))) := h
  refine v_aload_n hC 0 dX7_judge_0 rfl ?_
  refine gf_X7_28 hC dX7_judge_1 ?_
  refine v_iconst hC (nI 0) dX7_judge_4 rfl ?_
  refine v_iald hC (Nat.le_of_ble_eq_true rfl) rfl (j := 0) (by decide) (by unfold vp_in; decide) dX7_judge_5 ?_
  refine v_if_ne hC 12 dX7_judge_6 (by decide) (fun c2 => ?_) (fun c2 => ?_)
  · replace h := h.2 c2
    refine v_iload_n hC 1 dX7_judge_12 rfl ?_
    refine v_callS hC (kM_isRow _ _ _ h) cmM_isRow kw1048 kw1047 ⟨Nat.le_of_ble_eq_true rfl, Nat.le_of_ble_eq_true rfl⟩ (fun _ => rfl) (st := []) (Nat.le_of_ble_eq_true rfl) rfl dX7_judge_13 (kk_i (fun r4 σ4 h => ?_))
    refine v_if_eq hC 29 dX7_judge_16 (by decide) (fun c5 => ?_) (fun c5 => ?_)
    · replace h := h.1 c5
      refine v_ldc hC kw1053 dX7_judge_29 ?_
      exact v_iret hC hR h dX7_judge_31
    · replace h := h.2 c5
      refine v_iload_n hC 3 dX7_judge_19 rfl ?_
      refine v_iconst hC (nI 1) dX7_judge_20 rfl ?_
      refine v_bipush hC (nI 16) dX7_judge_21 rfl ?_
      refine v_callS hC (kM_in _ _ _ _ _ h) cmM_in kw1051 kw1050 ⟨Nat.le_of_ble_eq_true rfl, Nat.le_of_ble_eq_true rfl⟩ (fun _ => rfl) (st := []) (Nat.le_of_ble_eq_true rfl) rfl dX7_judge_23 (kk_i (fun r7 σ7 h => ?_))
      refine v_if_ne hC 32 dX7_judge_26 (by decide) (fun c8 => ?_) (fun c8 => ?_)
      · replace h := h.2 c8
        refine v_aload_n hC 0 dX7_judge_32 rfl ?_
        refine v_iload_n hC 1 dX7_judge_33 rfl ?_
        refine v_iload_n hC 2 dX7_judge_34 rfl ?_
        refine v_iload_n hC 3 dX7_judge_35 rfl ?_
        refine v_callV hC (kM_whyNot _ _ _ _ _ h) cmM_whyNot ⟨kw1259, kw68⟩ kw1257 ⟨Nat.le_of_ble_eq_true rfl, Nat.le_of_ble_eq_true rfl⟩ (Nat.le_of_ble_eq_true rfl) rfl (ci := 7) (T := TX7) (N := 30) rfl (As := fun G => [.int x1, .int x2, .int x3]) (fun _ => rfl) (fun _ => rfl) (st := []) (Nat.le_of_ble_eq_true rfl) rfl dX7_judge_36 (kk_i (fun r10 σ10 h => ?_))
        refine v_istore hC dX7_judge_39 (by decide) rfl ?_
        refine v_iload hC 0 dX7_judge_41 rfl ?_
        refine v_if_eq hC 53 dX7_judge_43 (by decide) (fun c11 => ?_) (fun c11 => ?_)
        · replace h := h.1 c11
          refine v_iconst hC (nI 0) dX7_judge_53 rfl ?_
          refine v_istore hC dX7_judge_54 (by decide) rfl ?_
          obtain ⟨n42, h⟩ := h
          exact V.sub [2, 3, 4, 5, 0] rfl (tM_judge_l56 hC hR  n42 _ _ _ _ _ h)
        · replace h := h.2 c11
          refine v_aload_n hC 1 dX7_judge_46 rfl ?_
          refine v_iload hC 0 dX7_judge_47 rfl ?_
          refine v_callV hC (kM_finds _ _ _ h) cmM_finds ⟨kw1056, kw41⟩ kw1054 ⟨Nat.le_of_ble_eq_true rfl, Nat.le_of_ble_eq_true rfl⟩ (Nat.le_of_ble_eq_true rfl) rfl (ci := 7) (T := TX7) (N := 30) rfl (As := fun G => [.int r10]) (fun _ => rfl) (fun _ => rfl) (st := []) (Nat.le_of_ble_eq_true rfl) rfl dX7_judge_49 (kk_i (fun r44 σ44 h => ?_))
          exact v_iret hC hR h dX7_judge_52
      · replace h := h.1 c8
        refine v_ldc hC kw1053 dX7_judge_29 ?_
        exact v_iret hC hR h dX7_judge_31
  · replace h := h.1 c2
    refine v_ldc hC kw1145 dX7_judge_9 ?_
    exact v_iret hC hR h dX7_judge_11
theorem cmM_judge : CM yX7_judge cX7_judge 9 (some .int) rmM_judge 3 := ⟨kw82, kw1279, rfl, rfl, by decide, by decide, by decide +kernel⟩
