def rmM_ring : Room := { frames := 4, cells := 0, slots := 0, locals := 104 }
def wM_ring_l50 (Q : Int32 → gM → Prop) (K40 : Int32 → Int32 → Int32 → Int32 → Int32 → Int32 → Int32 → gM → Prop) : Nat → Int32 → Int32 → Int32 → Int32 → Int32 → Int32 → Int32 → Int32 → gM → Prop
  | 0, _, _, _, _, _, _, _, _, _ => False
  | n + 1, x1, x2, x3, x4, x5, x6, x7, x8, σ =>
    (x4 ≤ x8 → (wM_layBest x4 x1 x2 (nI 0) σ (fun (σ14 : gM) => ∀ v17 : Int32, v17 = (if x6 = (-1000000 : Int32) then (nI 1) else (if (σ14 95 0) ≤ x5 then (nI 0) else (nI 1))) → (∀ v19 : Int32, v19 = (if v17 = nI 0 then x6 else x7) → (∀ v22 : Int32, v22 = (if v17 = nI 0 then x5 else (σ14 95 0)) → (∀ x7_23 : Int32, x7_23 = x7 + (nI 1) → (K40 x1 x2 x3 x4 v22 v19 x7_23 σ14))))))) ∧ (¬ (x4 ≤ x8) → (¬ x4 = nI 0 ∧ (wM_heap ((x7 + x8) - (x7 + x8) / x4 * x4) σ (fun (r29 : Int32) (σ29 : gM) => vp_in x8 16 ∧ (∀ σ30 : gM, σ30 = gU σ29 94 x8.toNatClampNeg r29 → (∀ x8_31 : Int32, x8_31 = x8 + (nI 1) → (wM_ring_l50 Q K40 n x1 x2 x3 x4 x5 x6 x7 x8_31 σ30)))))))
def wM_ring_l40 (Q : Int32 → gM → Prop)  : Nat → Int32 → Int32 → Int32 → Int32 → Int32 → Int32 → Int32 → gM → Prop
  | 0, _, _, _, _, _, _, _, _ => False
  | n + 1, x1, x2, x3, x4, x5, x6, x7, σ =>
    (x4 ≤ x7 → (∀ v11 : Int32, v11 = (if x3 = nI 0 then x5 else x6) → (Q v11 σ))) ∧ (¬ (x4 ≤ x7) → (∃ n32 : Nat, wM_ring_l50 Q (wM_ring_l40 Q n) n32 x1 x2 x3 x4 x5 x6 x7 (nI 0) σ))
def wM_ring (x1 : Int32) (x2 : Int32) (x3 : Int32) (σ : gM) (Q : Int32 → gM → Prop) : Prop :=
    wM_areUnlike x1 x2 σ (fun (r2 : Int32) (σ2 : gM) => (r2 = nI 0 → (Q (-1000001 : Int32) σ2)) ∧ (¬ (r2 = nI 0) → (wM_in x3 (nI 0) (nI 1) σ2 (fun (r5 : Int32) (σ5 : gM) => (r5 = nI 0 → (Q (-1000001 : Int32) σ5)) ∧ (¬ (r5 = nI 0) → (∀ x4_8 : Int32, x4_8 = (σ5 89 5) → (∃ n33 : Nat, wM_ring_l40 Q n33 x1 x2 x3 x4_8 (-1000000 : Int32) (-1000000 : Int32) (nI 0) σ5)))))))
set_option maxHeartbeats 4000000 in
set_option maxRecDepth 100000 in
theorem tM_ring_l50 {X : gX} {Q : Int32 → gM → Prop} (hC : VC X cX7_ring RX7 9 rmM_ring) (hR : VR X (some .int) (gPi Q)) {K40 : Int32 → Int32 → Int32 → Int32 → Int32 → Int32 → Int32 → gM → Prop} (hK40 : ∀ (x1 : Int32) (x2 : Int32) (x3 : Int32) (x4 : Int32) (x5 : Int32) (x6 : Int32) (x7 : Int32) (σ : gM), K40 x1 x2 x3 x4 x5 x6 x7 σ → V X 9 40 [(0, .ref (xad X 82)), (1, .int x1), (2, .int x2), (3, .int x3), (4, .int x4), (5, .int x5), (6, .int x6), (7, .int x7)] [] σ) : ∀ (n : Nat) (x1 : Int32) (x2 : Int32) (x3 : Int32) (x4 : Int32) (x5 : Int32) (x6 : Int32) (x7 : Int32) (x8 : Int32) (σ : gM), wM_ring_l50 Q K40 n x1 x2 x3 x4 x5 x6 x7 x8 σ → V X 9 50 [(0, .ref (xad X 82)), (1, .int x1), (2, .int x2), (3, .int x3), (4, .int x4), (5, .int x5), (6, .int x6), (7, .int x7), (8, .int x8)] [] σ := by
  intro n
  induction n with
  | zero => intro x1 x2 x3 x4 x5 x6 x7 x8 σ h; exact h.elim
  | succ n ih =>
    intro x1 x2 x3 x4 x5 x6 x7 x8 σ h
    replace h : (x4 ≤ x8 → (wM_layBest x4 x1 x2 (nI 0) σ (fun (σ14 : gM) => ∀ v17 : Int32, v17 = (if x6 = (-1000000 : Int32) then (nI 1) else (if (σ14 95 0) ≤ x5 then (nI 0) else (nI 1))) → (∀ v19 : Int32, v19 = (if v17 = nI 0 then x6 else x7) → (∀ v22 : Int32, v22 = (if v17 = nI 0 then x5 else (σ14 95 0)) → (∀ x7_23 : Int32, x7_23 = x7 + (nI 1) → (K40 x1 x2 x3 x4 v22 v19 x7_23 σ14))))))) ∧ (¬ (x4 ≤ x8) → (¬ x4 = nI 0 ∧ (wM_heap ((x7 + x8) - (x7 + x8) / x4 * x4) σ (fun (r29 : Int32) (σ29 : gM) => vp_in x8 16 ∧ (∀ σ30 : gM, σ30 = gU σ29 94 x8.toNatClampNeg r29 → (∀ x8_31 : Int32, x8_31 = x8 + (nI 1) → (wM_ring_l50 Q K40 n x1 x2 x3 x4 x5 x6 x7 x8_31 σ30))))))) := h
    refine v_iload hC 8 dX7_ring_50 rfl ?_
    refine v_iload hC 4 dX7_ring_52 rfl ?_
    refine v_icmp_ge hC 82 dX7_ring_54 (by decide) (fun c12 => ?_) (fun c12 => ?_)
    · replace h := h.1 c12
      refine v_aload_n hC 0 dX7_ring_82 rfl ?_
      refine v_iload hC 4 dX7_ring_83 rfl ?_
      refine v_iload_n hC 1 dX7_ring_85 rfl ?_
      refine v_iload_n hC 2 dX7_ring_86 rfl ?_
      refine v_iconst hC (nI 0) dX7_ring_87 rfl ?_
      refine v_callV hC (kM_layBest _ _ _ _ _ _ h) cmM_layBest ⟨kw1231, kw65⟩ kw1229 ⟨Nat.le_of_ble_eq_true rfl, Nat.le_of_ble_eq_true rfl⟩ (Nat.le_of_ble_eq_true rfl) rfl (ci := 7) (T := TX7) (N := 30) rfl (As := fun G => [.int x4, .int x1, .int x2, .int (nI 0)]) (fun _ => rfl) (fun _ => rfl) (st := []) (Nat.le_of_ble_eq_true rfl) rfl dX7_ring_88 (kk_v (fun σ14 h => ?_))
      refine v_iload hC 6 dX7_ring_91 rfl ?_
      refine v_ldc hC kw1132 dX7_ring_93 ?_
      have J15 : ∀ (v17 : Int32) (ev17 : v17 = (if x6 = (-1000000 : Int32) then (nI 1) else (if (σ14 95 0) ≤ x5 then (nI 0) else (nI 1)))), V X 9 114 [(0, .ref (xad X 82)), (1, .int x1), (2, .int x2), (3, .int x3), (4, .int x4), (5, .int x5), (6, .int x6), (7, .int x7)] [.int v17] σ14 := by
        intro v17 ev17
        replace h := h v17 ev17
        refine v_istore hC dX7_ring_114 (by decide) rfl ?_
        refine v_iload hC 0 dX7_ring_116 rfl ?_
        have J18 : ∀ (v19 : Int32) (ev19 : v19 = (if v17 = nI 0 then x6 else x7)), V X 9 128 [(0, .ref (xad X 82)), (1, .int x1), (2, .int x2), (3, .int x3), (4, .int x4), (5, .int x5), (7, .int x7), (8, .int v17)] [.int v19] σ14 := by
          intro v19 ev19
          replace h := h v19 ev19
          refine v_istore hC dX7_ring_128 (by decide) rfl ?_
          refine v_iload hC 8 dX7_ring_130 rfl ?_
          have J20 : ∀ (v22 : Int32) (ev22 : v22 = (if v17 = nI 0 then x5 else (σ14 95 0))), V X 9 146 [(0, .ref (xad X 82)), (1, .int x1), (2, .int x2), (3, .int x3), (4, .int x4), (6, .int v19), (7, .int x7)] [.int v22] σ14 := by
            intro v22 ev22
            replace h := h v22 ev22
            refine v_istore hC dX7_ring_146 (by decide) rfl ?_
            refine v_iincN hC (nI 1) 7 dX7_ring_148 rfl rfl (by decide) (lo2 := fun x7_23 => [(7, .int x7_23), (5, .int v22), (0, .ref (xad X 82)), (1, .int x1), (2, .int x2), (3, .int x3), (4, .int x4), (6, .int v19)]) (fun _ => rfl) (fun x7_23 e23 => ?_)
            replace h := h x7_23 e23
            refine v_goto hC 40 dX7_ring_151 (by decide) ?_
            exact V.sub [2, 3, 4, 5, 6, 1, 7, 0] rfl (hK40 _ _ _ _ _ _ _ _ h)
          refine v_if_eq hC 144 dX7_ring_132 (by decide) (fun c20 => ?_) (fun c20 => ?_)
          · refine v_iload hC 6 dX7_ring_144 rfl ?_
            exact V.sub [1, 2, 3, 4, 5, 0, 7] rfl (J20 _ (by rw [if_pos c20]))
          · refine v_aload_n hC 1 dX7_ring_135 rfl ?_
            refine gf_X7_47 hC dX7_ring_136 ?_
            refine v_iconst hC (nI 0) dX7_ring_139 rfl ?_
            refine v_iald hC (Nat.le_of_ble_eq_true rfl) rfl (j := 0) (by decide) (by unfold vp_in; decide) dX7_ring_140 ?_
            refine v_goto hC 146 dX7_ring_141 (by decide) ?_
            exact V.sub [1, 2, 3, 4, 5, 0, 7] rfl (J20 _ (by rw [if_neg c20]))
        refine v_if_eq hC 126 dX7_ring_118 (by decide) (fun c18 => ?_) (fun c18 => ?_)
        · refine v_iload hC 7 dX7_ring_126 rfl ?_
          exact V.sub [1, 2, 3, 4, 5, 6, 8, 0] rfl (J18 _ (by rw [if_pos c18]))
        · refine v_iload hC 8 dX7_ring_121 rfl ?_
          refine v_goto hC 128 dX7_ring_123 (by decide) ?_
          exact V.sub [1, 2, 3, 4, 5, 6, 8, 0] rfl (J18 _ (by rw [if_neg c18]))
      refine v_icmp_eq hC 109 dX7_ring_95 (by decide) (fun c15 => ?_) (fun c15 => ?_)
      · refine v_iconst hC (nI 1) dX7_ring_109 rfl ?_
        refine v_goto hC 114 dX7_ring_110 (by decide) ?_
        exact V.sub [0, 1, 2, 3, 4, 5, 6, 7] rfl (J15 _ (by rw [if_pos c15]))
      · refine v_aload_n hC 0 dX7_ring_98 rfl ?_
        refine gf_X7_47 hC dX7_ring_99 ?_
        refine v_iconst hC (nI 0) dX7_ring_102 rfl ?_
        refine v_iald hC (Nat.le_of_ble_eq_true rfl) rfl (j := 0) (by decide) (by unfold vp_in; decide) dX7_ring_103 ?_
        refine v_iload hC 5 dX7_ring_104 rfl ?_
        have J26 : V X 9 114 [(0, .ref (xad X 82)), (1, .int x1), (2, .int x2), (3, .int x3), (4, .int x4), (5, .int x5), (6, .int x6), (7, .int x7)] [.int (if (σ14 95 0) ≤ x5 then (nI 0) else (nI 1))] σ14 := by
          exact V.sub [0, 1, 2, 3, 4, 5, 6, 7] rfl (J15 _ (by rw [if_neg c15]))
        refine v_icmp_le hC 113 dX7_ring_106 (by decide) (fun c26 => ?_) (fun c26 => ?_)
        · refine v_iconst hC (nI 0) dX7_ring_113 rfl ?_
          rw [if_pos c26] at J26
          exact V.sub [0, 1, 2, 3, 4, 5, 6, 7] rfl J26
        · refine v_iconst hC (nI 1) dX7_ring_109 rfl ?_
          refine v_goto hC 114 dX7_ring_110 (by decide) ?_
          rw [if_neg c26] at J26
          exact V.sub [0, 1, 2, 3, 4, 5, 6, 7] rfl J26
    · replace h := h.2 c12
      refine v_aload_n hC 0 dX7_ring_57 rfl ?_
      refine gf_X7_44 hC dX7_ring_58 ?_
      refine v_iload hC 8 dX7_ring_61 rfl ?_
      refine v_aload_n hC 0 dX7_ring_63 rfl ?_
      refine v_iload hC 7 dX7_ring_64 rfl ?_
      refine v_iload hC 8 dX7_ring_66 rfl ?_
      refine v_iadd hC dX7_ring_68 ?_
      refine v_iload hC 4 dX7_ring_69 rfl ?_
      obtain ⟨hz27, h⟩ := h
      refine v_irem hC dX7_ring_71 hz27 ?_
      refine v_callV hC (kM_heap _ _ _ h) cmM_heap ⟨kw1148, kw52⟩ kw1146 ⟨Nat.le_of_ble_eq_true rfl, Nat.le_of_ble_eq_true rfl⟩ (Nat.le_of_ble_eq_true rfl) rfl (ci := 7) (T := TX7) (N := 30) rfl (As := fun G => [.int ((x7 + x8) - (x7 + x8) / x4 * x4)]) (fun _ => rfl) (fun _ => rfl) (st := [.int x8, .ref (xad X 94)]) (Nat.le_of_ble_eq_true rfl) rfl dX7_ring_72 (kk_i (fun r29 σ29 h => ?_))
      obtain ⟨hi30, h⟩ := h
      refine v_iast hC (Nat.le_of_ble_eq_true rfl) rfl rfl hi30 dX7_ring_75 (fun σ30 e30 => ?_)
      replace h := h σ30 e30
      refine v_iincN hC (nI 1) 8 dX7_ring_76 rfl rfl (by decide) (lo2 := fun x8_31 => [(8, .int x8_31), (0, .ref (xad X 82)), (1, .int x1), (2, .int x2), (3, .int x3), (4, .int x4), (5, .int x5), (6, .int x6), (7, .int x7)]) (fun _ => rfl) (fun x8_31 e31 => ?_)
      replace h := h x8_31 e31
      refine v_goto hC 50 dX7_ring_79 (by decide) ?_
      exact V.sub [1, 2, 3, 4, 5, 6, 7, 8, 0] rfl (ih _ _ _ _ _ _ _ _ _ h)
set_option maxHeartbeats 4000000 in
set_option maxRecDepth 100000 in
theorem tM_ring_l40 {X : gX} {Q : Int32 → gM → Prop} (hC : VC X cX7_ring RX7 9 rmM_ring) (hR : VR X (some .int) (gPi Q))  : ∀ (n : Nat) (x1 : Int32) (x2 : Int32) (x3 : Int32) (x4 : Int32) (x5 : Int32) (x6 : Int32) (x7 : Int32) (σ : gM), wM_ring_l40 Q  n x1 x2 x3 x4 x5 x6 x7 σ → V X 9 40 [(0, .ref (xad X 82)), (1, .int x1), (2, .int x2), (3, .int x3), (4, .int x4), (5, .int x5), (6, .int x6), (7, .int x7)] [] σ := by
  intro n
  induction n with
  | zero => intro x1 x2 x3 x4 x5 x6 x7 σ h; exact h.elim
  | succ n ih =>
    intro x1 x2 x3 x4 x5 x6 x7 σ h
    replace h : (x4 ≤ x7 → (∀ v11 : Int32, v11 = (if x3 = nI 0 then x5 else x6) → (Q v11 σ))) ∧ (¬ (x4 ≤ x7) → (∃ n32 : Nat, wM_ring_l50 Q (wM_ring_l40 Q n) n32 x1 x2 x3 x4 x5 x6 x7 (nI 0) σ)) := h
    refine v_iload hC 7 dX7_ring_40 rfl ?_
    refine v_iload hC 4 dX7_ring_42 rfl ?_
    refine v_icmp_ge hC 154 dX7_ring_44 (by decide) (fun c9 => ?_) (fun c9 => ?_)
    · replace h := h.1 c9
      refine v_iload_n hC 3 dX7_ring_154 rfl ?_
      have J10 : ∀ (v11 : Int32) (ev11 : v11 = (if x3 = nI 0 then x5 else x6)), V X 9 165 [] [.int v11] σ := by
        intro v11 ev11
        replace h := h v11 ev11
        exact v_iret hC hR h dX7_ring_165
      refine v_if_ne hC 163 dX7_ring_155 (by decide) (fun c10 => ?_) (fun c10 => ?_)
      · refine v_iload hC 6 dX7_ring_163 rfl ?_
        exact V.sub [] rfl (J10 _ (by rw [if_neg c10]))
      · refine v_iload hC 5 dX7_ring_158 rfl ?_
        refine v_goto hC 165 dX7_ring_160 (by decide) ?_
        exact V.sub [] rfl (J10 _ (by rw [if_pos c10]))
    · replace h := h.2 c9
      refine v_iconst hC (nI 0) dX7_ring_47 rfl ?_
      refine v_istore hC dX7_ring_48 (by decide) rfl ?_
      obtain ⟨n32, h⟩ := h
      exact V.sub [1, 2, 3, 4, 5, 6, 7, 8, 0] rfl (tM_ring_l50 hC hR ih n32 _ _ _ _ _ _ _ _ _ h)
set_option maxHeartbeats 4000000 in
set_option maxRecDepth 100000 in
theorem kM_ring (x1 : Int32) (x2 : Int32) (x3 : Int32) (σ : gM) (Q : Int32 → gM → Prop) (h : wM_ring x1 x2 x3 σ Q) : CT yX7_ring cX7_ring 9 (some .int) rmM_ring (fun G => [.ref (gad G 82), .int x1, .int x2, .int x3]) σ (gPi Q) := by
  refine c_enter (by decide) (fun _ => Nat.le_of_ble_eq_true rfl) (fun X hC hR => ?_)
  show V X 9 0 [(0, .ref (xad X 82)), (1, .int x1), (2, .int x2), (3, .int x3)] [] σ
  replace h : wM_areUnlike x1 x2 σ (fun (r2 : Int32) (σ2 : gM) => (r2 = nI 0 → (Q (-1000001 : Int32) σ2)) ∧ (¬ (r2 = nI 0) → (wM_in x3 (nI 0) (nI 1) σ2 (fun (r5 : Int32) (σ5 : gM) => (r5 = nI 0 → (Q (-1000001 : Int32) σ5)) ∧ (¬ (r5 = nI 0) → (∀ x4_8 : Int32, x4_8 = (σ5 89 5) → (∃ n33 : Nat, wM_ring_l40 Q n33 x1 x2 x3 x4_8 (-1000000 : Int32) (-1000000 : Int32) (nI 0) σ5))))))) := h
  refine v_aload_n hC 0 dX7_ring_0 rfl ?_
  refine v_iload_n hC 1 dX7_ring_1 rfl ?_
  refine v_iload_n hC 2 dX7_ring_2 rfl ?_
  refine v_callV hC (kM_areUnlike _ _ _ _ h) cmM_areUnlike ⟨kw1223, kw63⟩ kw1221 ⟨Nat.le_of_ble_eq_true rfl, Nat.le_of_ble_eq_true rfl⟩ (Nat.le_of_ble_eq_true rfl) rfl (ci := 7) (T := TX7) (N := 30) rfl (As := fun G => [.int x1, .int x2]) (fun _ => rfl) (fun _ => rfl) (st := []) (Nat.le_of_ble_eq_true rfl) rfl dX7_ring_3 (kk_i (fun r2 σ2 h => ?_))
  refine v_if_eq hC 18 dX7_ring_6 (by decide) (fun c3 => ?_) (fun c3 => ?_)
  · replace h := h.1 c3
    refine v_ldc hC kw1053 dX7_ring_18 ?_
    exact v_iret hC hR h dX7_ring_20
  · replace h := h.2 c3
    refine v_iload_n hC 3 dX7_ring_9 rfl ?_
    refine v_iconst hC (nI 0) dX7_ring_10 rfl ?_
    refine v_iconst hC (nI 1) dX7_ring_11 rfl ?_
    refine v_callS hC (kM_in _ _ _ _ _ h) cmM_in kw1051 kw1050 ⟨Nat.le_of_ble_eq_true rfl, Nat.le_of_ble_eq_true rfl⟩ (fun _ => rfl) (st := []) (Nat.le_of_ble_eq_true rfl) rfl dX7_ring_12 (kk_i (fun r5 σ5 h => ?_))
    refine v_if_ne hC 21 dX7_ring_15 (by decide) (fun c6 => ?_) (fun c6 => ?_)
    · replace h := h.2 c6
      refine v_aload_n hC 0 dX7_ring_21 rfl ?_
      refine gf_X7_28 hC dX7_ring_22 ?_
      refine v_iconst hC (nI 5) dX7_ring_25 rfl ?_
      refine v_iald hC (Nat.le_of_ble_eq_true rfl) rfl (j := 5) (by decide) (by unfold vp_in; decide) dX7_ring_26 ?_
      refine v_istoreN hC dX7_ring_27 (by decide) (lo2 := fun x4_8 => [(4, .int x4_8), (0, .ref (xad X 82)), (1, .int x1), (2, .int x2), (3, .int x3)]) (fun _ => rfl) (fun x4_8 e8 => ?_)
      replace h := h x4_8 e8
      refine v_ldc hC kw1132 dX7_ring_29 ?_
      refine v_istore hC dX7_ring_31 (by decide) rfl ?_
      refine v_ldc hC kw1132 dX7_ring_33 ?_
      refine v_istore hC dX7_ring_35 (by decide) rfl ?_
      refine v_iconst hC (nI 0) dX7_ring_37 rfl ?_
      refine v_istore hC dX7_ring_38 (by decide) rfl ?_
      obtain ⟨n33, h⟩ := h
      exact V.sub [4, 5, 6, 7, 3, 2, 1, 0] rfl (tM_ring_l40 hC hR  n33 _ _ _ _ _ _ _ _ h)
    · replace h := h.1 c6
      refine v_ldc hC kw1053 dX7_ring_18 ?_
      exact v_iret hC hR h dX7_ring_20
theorem cmM_ring : CM yX7_ring cX7_ring 9 (some .int) rmM_ring 3 := ⟨kw82, kw1252, rfl, rfl, by decide, by decide, by decide +kernel⟩
def rmM_whyNot : Room := { frames := 1, cells := 0, slots := 0, locals := 21 }
def wM_whyNot (x1 : Int32) (x2 : Int32) (x3 : Int32) (σ : gM) (Q : Int32 → gM → Prop) : Prop :=
    wM_isNull x1 σ (fun (r2 : Int32) (σ2 : gM) => ((r2 = nI 0 → (((x2 < nI 0 → (True)) ∧ (¬ (x2 < nI 0) → (vp_in x1 8 ∧ True))) ∧ True)) ∧ (¬ (r2 = nI 0) → (True))) ∧ (∀ v5 : Int32, v5 = (if r2 = nI 0 then (if x2 < nI 0 then (nI 2) else (if x3 ≤ ((σ2 84 x1.toNatClampNeg) - x2) then (nI 0) else (nI 2))) else (nI 1)) → (Q v5 σ2)))
set_option maxHeartbeats 4000000 in
set_option maxRecDepth 100000 in
theorem kM_whyNot (x1 : Int32) (x2 : Int32) (x3 : Int32) (σ : gM) (Q : Int32 → gM → Prop) (h : wM_whyNot x1 x2 x3 σ Q) : CT yX7_whyNot cX7_whyNot 4 (some .int) rmM_whyNot (fun G => [.ref (gad G 82), .int x1, .int x2, .int x3]) σ (gPi Q) := by
  refine c_enter (by decide) (fun _ => Nat.le_of_ble_eq_true rfl) (fun X hC hR => ?_)
  show V X 4 0 [(0, .ref (xad X 82)), (1, .int x1), (2, .int x2), (3, .int x3)] [] σ
  replace h : wM_isNull x1 σ (fun (r2 : Int32) (σ2 : gM) => ((r2 = nI 0 → (((x2 < nI 0 → (True)) ∧ (¬ (x2 < nI 0) → (vp_in x1 8 ∧ True))) ∧ True)) ∧ (¬ (r2 = nI 0) → (True))) ∧ (∀ v5 : Int32, v5 = (if r2 = nI 0 then (if x2 < nI 0 then (nI 2) else (if x3 ≤ ((σ2 84 x1.toNatClampNeg) - x2) then (nI 0) else (nI 2))) else (nI 1)) → (Q v5 σ2))) := h
  refine v_aload_n hC 0 dX7_whyNot_0 rfl ?_
  refine v_iload_n hC 1 dX7_whyNot_1 rfl ?_
  refine v_callV hC (kM_isNull _ _ _ h) cmM_isNull ⟨kw1069, kw43⟩ kw1067 ⟨Nat.le_of_ble_eq_true rfl, Nat.le_of_ble_eq_true rfl⟩ (Nat.le_of_ble_eq_true rfl) rfl (ci := 7) (T := TX7) (N := 30) rfl (As := fun G => [.int x1]) (fun _ => rfl) (fun _ => rfl) (st := []) (Nat.le_of_ble_eq_true rfl) rfl dX7_whyNot_2 (kk_i (fun r2 σ2 h => ?_))
  obtain ⟨hO3, h⟩ := h
  have J3 : ∀ (v5 : Int32) (ev5 : v5 = (if r2 = nI 0 then (if x2 < nI 0 then (nI 2) else (if x3 ≤ ((σ2 84 x1.toNatClampNeg) - x2) then (nI 0) else (nI 2))) else (nI 1))), V X 4 33 [] [.int v5] σ2 := by
    intro v5 ev5
    replace h := h v5 ev5
    exact v_iret hC hR h dX7_whyNot_33
  refine v_if_eq hC 12 dX7_whyNot_5 (by decide) (fun c3 => ?_) (fun c3 => ?_)
  · replace h := hO3.1 c3
    refine v_iload_n hC 2 dX7_whyNot_12 rfl ?_
    obtain ⟨hO6, h⟩ := h
    have J6 : V X 4 33 [] [.int (if x2 < nI 0 then (nI 2) else (if x3 ≤ ((σ2 84 x1.toNatClampNeg) - x2) then (nI 0) else (nI 2)))] σ2 := by
      exact V.sub [] rfl (J3 _ (by rw [if_pos c3]))
    refine v_if_lt hC 28 dX7_whyNot_13 (by decide) (fun c6 => ?_) (fun c6 => ?_)
    · replace h := hO6.1 c6
      refine v_iconst hC (nI 2) dX7_whyNot_28 rfl ?_
      refine v_goto hC 33 dX7_whyNot_29 (by decide) ?_
      rw [if_pos c6] at J6
      exact V.sub [] rfl J6
    · replace h := hO6.2 c6
      refine v_iload_n hC 3 dX7_whyNot_16 rfl ?_
      refine v_aload_n hC 0 dX7_whyNot_17 rfl ?_
      refine gf_X7_13 hC dX7_whyNot_18 ?_
      refine v_iload_n hC 1 dX7_whyNot_21 rfl ?_
      obtain ⟨hi8, h⟩ := h
      refine v_iald hC (Nat.le_of_ble_eq_true rfl) rfl rfl hi8 dX7_whyNot_22 ?_
      refine v_iload_n hC 2 dX7_whyNot_23 rfl ?_
      refine v_isub hC dX7_whyNot_24 ?_
      have J9 : V X 4 33 [] [.int (if x3 ≤ ((σ2 84 x1.toNatClampNeg) - x2) then (nI 0) else (nI 2))] σ2 := by
        rw [if_neg c6] at J6
        exact V.sub [] rfl J6
      refine v_icmp_le hC 32 dX7_whyNot_25 (by decide) (fun c9 => ?_) (fun c9 => ?_)
      · refine v_iconst hC (nI 0) dX7_whyNot_32 rfl ?_
        rw [if_pos c9] at J9
        exact V.sub [] rfl J9
      · refine v_iconst hC (nI 2) dX7_whyNot_28 rfl ?_
        refine v_goto hC 33 dX7_whyNot_29 (by decide) ?_
        rw [if_neg c9] at J9
        exact V.sub [] rfl J9
  · replace h := hO3.2 c3
    refine v_iconst hC (nI 1) dX7_whyNot_8 rfl ?_
    refine v_goto hC 33 dX7_whyNot_9 (by decide) ?_
    exact V.sub [] rfl (J3 _ (by rw [if_neg c3]))
theorem cmM_whyNot : CM yX7_whyNot cX7_whyNot 4 (some .int) rmM_whyNot 3 := ⟨kw82, kw1260, rfl, rfl, by decide, by decide, by decide +kernel⟩
def rmM_line : Room := { frames := 3, cells := 0, slots := 0, locals := 69 }
def wM_line_l126 (Q : Int32 → gM → Prop)  : Nat → Int32 → Int32 → Int32 → Int32 → Int32 → Int32 → Int32 → Int32 → gM → Prop
  | 0, _, _, _, _, _, _, _, _, _ => False
  | n + 1, x1, x2, x3, x4, x6, x7, x8, x9, σ =>
    (x3 ≤ x9 → (∀ v18 : Int32, v18 = (if x4 = (-1 : Int32) then ((x7 - x6) + (nI 1)) else x8) → (wM_did v18 σ (fun (r20 : Int32) (σ20 : gM) => Q r20 σ20)))) ∧ (¬ (x3 ≤ x9) → ((x7 < x6 → (∀ v23 : Int32, v23 = (if x4 = (-1 : Int32) then ((x7 - x6) + (nI 1)) else x8) → (wM_did v23 σ (fun (r25 : Int32) (σ25 : gM) => Q r25 σ25)))) ∧ (¬ (x7 < x6) → (vp_in ((((nI 40) * x1) + x2) + x9) 320 ∧ (∀ x10_27 : Int32, x10_27 = (σ 85 ((((nI 40) * x1) + x2) + x9).toNatClampNeg) → (wM_heap x6 σ (fun (r29 : Int32) (σ29 : gM) => wM_worthOf r29 x10_27 (nI 0) σ29 (fun (r31 : Int32) (σ31 : gM) => wM_heap x7 σ31 (fun (r33 : Int32) (σ33 : gM) => wM_worthOf r33 x10_27 (nI 0) σ33 (fun (r35 : Int32) (σ35 : gM) => ∀ v37 : Int32, v37 = (if x10_27 = x4 then (if r31 < r35 then r35 else r31) else (nI 0)) → (∀ x8_38 : Int32, x8_38 = (x8 + v37) → (∀ v40 : Int32, v40 = (if r31 < r35 then (nI 0) else (nI 1)) → (∀ x6_41 : Int32, x6_41 = (x6 + v40) → (∀ v43 : Int32, v43 = (if r31 < r35 then (nI 1) else (nI 0)) → (∀ x7_44 : Int32, x7_44 = (x7 - v43) → (∀ x9_45 : Int32, x9_45 = x9 + (nI 1) → (wM_line_l126 Q n x1 x2 x3 x4 x6_41 x7_44 x8_38 x9_45 σ35)))))))))))))))))
def wM_line_l71 (Q : Int32 → gM → Prop)  : Nat → Int32 → Int32 → Int32 → Int32 → Int32 → gM → Prop
  | 0, _, _, _, _, _, _ => False
  | n + 1, x1, x2, x3, x4, x6, σ =>
    (x3 ≤ x6 → (∀ x7_15 : Int32, x7_15 = ((σ 89 5) - (nI 1)) → (∃ n47 : Nat, wM_line_l126 Q n47 x1 x2 x3 x4 (nI 0) x7_15 (nI 0) (nI 0) σ))) ∧ (¬ (x3 ≤ x6) → (vp_in ((((nI 40) * x1) + x2) + x6) 320 ∧ (wM_isBuyerAt (σ 85 ((((nI 40) * x1) + x2) + x6).toNatClampNeg) σ (fun (r50 : Int32) (σ50 : gM) => (r50 = nI 0 → (Q (-1000001 : Int32) σ50)) ∧ (¬ (r50 = nI 0) → (∀ x6_52 : Int32, x6_52 = x6 + (nI 1) → (wM_line_l71 Q n x1 x2 x3 x4 x6_52 σ50)))))))
def wM_line_b47 (Q : Int32 → gM → Prop)  (x1 : Int32) (x2 : Int32) (x3 : Int32) (x4 : Int32) (σ : gM) : Prop :=
    wM_whyNot x1 x2 x3 σ (fun (r11 : Int32) (σ11 : gM) => (r11 = nI 0 → (∃ n53 : Nat, wM_line_l71 Q n53 x1 x2 x3 x4 (nI 0) σ11)) ∧ (¬ (r11 = nI 0) → (wM_finds r11 σ11 (fun (r55 : Int32) (σ55 : gM) => Q r55 σ55))))
def wM_line (x1 : Int32) (x2 : Int32) (x3 : Int32) (x4 : Int32) (σ : gM) (Q : Int32 → gM → Prop) : Prop :=
    ((σ 89 0) = nI 0 → (Q (-1000002 : Int32) σ)) ∧ (¬ ((σ 89 0) = nI 0) → (wM_isRow x1 σ (fun (r4 : Int32) (σ4 : gM) => (r4 = nI 0 → (Q (-1000001 : Int32) σ4)) ∧ (¬ (r4 = nI 0) → (wM_in x3 (nI 1) (nI 40) σ4 (fun (r7 : Int32) (σ7 : gM) => (r7 = nI 0 → (Q (-1000001 : Int32) σ7)) ∧ (¬ (r7 = nI 0) → ((x4 = (-1 : Int32) → (wM_line_b47 Q x1 x2 x3 x4 σ7)) ∧ (¬ (x4 = (-1 : Int32)) → (wM_isBuyerAt x4 σ7 (fun (r57 : Int32) (σ57 : gM) => (r57 = nI 0 → (Q (-1000001 : Int32) σ57)) ∧ (¬ (r57 = nI 0) → (wM_line_b47 Q x1 x2 x3 x4 σ57)))))))))))))
set_option maxHeartbeats 4000000 in
set_option maxRecDepth 100000 in
theorem tM_line_l126 {X : gX} {Q : Int32 → gM → Prop} (hC : VC X cX7_line RX7 13 rmM_line) (hR : VR X (some .int) (gPi Q))  : ∀ (n : Nat) (x1 : Int32) (x2 : Int32) (x3 : Int32) (x4 : Int32) (x6 : Int32) (x7 : Int32) (x8 : Int32) (x9 : Int32) (σ : gM), wM_line_l126 Q  n x1 x2 x3 x4 x6 x7 x8 x9 σ → V X 13 126 [(0, .ref (xad X 82)), (1, .int x1), (2, .int x2), (3, .int x3), (4, .int x4), (6, .int x6), (7, .int x7), (8, .int x8), (9, .int x9)] [] σ := by
  intro n
  induction n with
  | zero => intro x1 x2 x3 x4 x6 x7 x8 x9 σ h; exact h.elim
  | succ n ih =>
    intro x1 x2 x3 x4 x6 x7 x8 x9 σ h
    replace h : (x3 ≤ x9 → (∀ v18 : Int32, v18 = (if x4 = (-1 : Int32) then ((x7 - x6) + (nI 1)) else x8) → (wM_did v18 σ (fun (r20 : Int32) (σ20 : gM) => Q r20 σ20)))) ∧ (¬ (x3 ≤ x9) → ((x7 < x6 → (∀ v23 : Int32, v23 = (if x4 = (-1 : Int32) then ((x7 - x6) + (nI 1)) else x8) → (wM_did v23 σ (fun (r25 : Int32) (σ25 : gM) => Q r25 σ25)))) ∧ (¬ (x7 < x6) → (vp_in ((((nI 40) * x1) + x2) + x9) 320 ∧ (∀ x10_27 : Int32, x10_27 = (σ 85 ((((nI 40) * x1) + x2) + x9).toNatClampNeg) → (wM_heap x6 σ (fun (r29 : Int32) (σ29 : gM) => wM_worthOf r29 x10_27 (nI 0) σ29 (fun (r31 : Int32) (σ31 : gM) => wM_heap x7 σ31 (fun (r33 : Int32) (σ33 : gM) => wM_worthOf r33 x10_27 (nI 0) σ33 (fun (r35 : Int32) (σ35 : gM) => ∀ v37 : Int32, v37 = (if x10_27 = x4 then (if r31 < r35 then r35 else r31) else (nI 0)) → (∀ x8_38 : Int32, x8_38 = (x8 + v37) → (∀ v40 : Int32, v40 = (if r31 < r35 then (nI 0) else (nI 1)) → (∀ x6_41 : Int32, x6_41 = (x6 + v40) → (∀ v43 : Int32, v43 = (if r31 < r35 then (nI 1) else (nI 0)) → (∀ x7_44 : Int32, x7_44 = (x7 - v43) → (∀ x9_45 : Int32, x9_45 = x9 + (nI 1) → (wM_line_l126 Q n x1 x2 x3 x4 x6_41 x7_44 x8_38 x9_45 σ35))))))))))))))))) := h
    refine v_iload hC 8 dX7_line_126 rfl ?_
    refine v_iload_n hC 3 dX7_line_128 rfl ?_
    refine v_icmp_ge hC 255 dX7_line_129 (by decide) (fun c16 => ?_) (fun c16 => ?_)
    · replace h := h.1 c16
      refine v_aload_n hC 0 dX7_line_255 rfl ?_
      refine v_iload hC 4 dX7_line_256 rfl ?_
      refine v_iconst hC (-1 : Int32) dX7_line_258 rfl ?_
      have J17 : ∀ (v18 : Int32) (ev18 : v18 = (if x4 = (-1 : Int32) then ((x7 - x6) + (nI 1)) else x8)), V X 13 274 [] [.int v18, .ref (xad X 82)] σ := by
        intro v18 ev18
        replace h := h v18 ev18
        refine v_callV hC (kM_did _ _ _ h) cmM_did ⟨kw1061, kw42⟩ kw1059 ⟨Nat.le_of_ble_eq_true rfl, Nat.le_of_ble_eq_true rfl⟩ (Nat.le_of_ble_eq_true rfl) rfl (ci := 7) (T := TX7) (N := 30) rfl (As := fun G => [.int v18]) (fun _ => rfl) (fun _ => rfl) (st := []) (Nat.le_of_ble_eq_true rfl) rfl dX7_line_274 (kk_i (fun r20 σ20 h => ?_))
        exact v_iret hC hR h dX7_line_277
      refine v_icmp_ne hC 272 dX7_line_259 (by decide) (fun c17 => ?_) (fun c17 => ?_)
      · refine v_iload hC 7 dX7_line_272 rfl ?_
        exact V.sub [] rfl (J17 _ (by rw [if_neg c17]))
      · refine v_iload hC 6 dX7_line_262 rfl ?_
        refine v_iload hC 5 dX7_line_264 rfl ?_
        refine v_isub hC dX7_line_266 ?_
        refine v_iconst hC (nI 1) dX7_line_267 rfl ?_
        refine v_iadd hC dX7_line_268 ?_
        refine v_goto hC 274 dX7_line_269 (by decide) ?_
        exact V.sub [] rfl (J17 _ (by rw [if_pos c17]))
    · replace h := h.2 c16
      refine v_iload hC 5 dX7_line_132 rfl ?_
      refine v_iload hC 6 dX7_line_134 rfl ?_
      refine v_icmp_gt hC 255 dX7_line_136 (by decide) (fun c21 => ?_) (fun c21 => ?_)
      · replace h := h.1 c21
        refine v_aload_n hC 0 dX7_line_255 rfl ?_
        refine v_iload hC 4 dX7_line_256 rfl ?_
        refine v_iconst hC (-1 : Int32) dX7_line_258 rfl ?_
        have J22 : ∀ (v23 : Int32) (ev23 : v23 = (if x4 = (-1 : Int32) then ((x7 - x6) + (nI 1)) else x8)), V X 13 274 [] [.int v23, .ref (xad X 82)] σ := by
          intro v23 ev23
          replace h := h v23 ev23
          refine v_callV hC (kM_did _ _ _ h) cmM_did ⟨kw1061, kw42⟩ kw1059 ⟨Nat.le_of_ble_eq_true rfl, Nat.le_of_ble_eq_true rfl⟩ (Nat.le_of_ble_eq_true rfl) rfl (ci := 7) (T := TX7) (N := 30) rfl (As := fun G => [.int v23]) (fun _ => rfl) (fun _ => rfl) (st := []) (Nat.le_of_ble_eq_true rfl) rfl dX7_line_274 (kk_i (fun r25 σ25 h => ?_))
          exact v_iret hC hR h dX7_line_277
        refine v_icmp_ne hC 272 dX7_line_259 (by decide) (fun c22 => ?_) (fun c22 => ?_)
        · refine v_iload hC 7 dX7_line_272 rfl ?_
          exact V.sub [] rfl (J22 _ (by rw [if_neg c22]))
        · refine v_iload hC 6 dX7_line_262 rfl ?_
          refine v_iload hC 5 dX7_line_264 rfl ?_
          refine v_isub hC dX7_line_266 ?_
          refine v_iconst hC (nI 1) dX7_line_267 rfl ?_
          refine v_iadd hC dX7_line_268 ?_
          refine v_goto hC 274 dX7_line_269 (by decide) ?_
          exact V.sub [] rfl (J22 _ (by rw [if_pos c22]))
      · replace h := h.2 c21
        refine v_aload_n hC 0 dX7_line_139 rfl ?_
        refine gf_X7_16 hC dX7_line_140 ?_
        refine v_bipush hC (nI 40) dX7_line_143 rfl ?_
        refine v_iload_n hC 1 dX7_line_145 rfl ?_
        refine v_imul hC dX7_line_146 ?_
        refine v_iload_n hC 2 dX7_line_147 rfl ?_
        refine v_iadd hC dX7_line_148 ?_
        refine v_iload hC 8 dX7_line_149 rfl ?_
        refine v_iadd hC dX7_line_151 ?_
        obtain ⟨hi26, h⟩ := h
        refine v_iald hC (Nat.le_of_ble_eq_true rfl) rfl rfl hi26 dX7_line_152 ?_
        refine v_istoreN hC dX7_line_153 (by decide) (lo2 := fun x10_27 => [(10, .int x10_27), (0, .ref (xad X 82)), (1, .int x1), (2, .int x2), (3, .int x3), (4, .int x4), (6, .int x6), (7, .int x7), (8, .int x8), (9, .int x9)]) (fun _ => rfl) (fun x10_27 e27 => ?_)
        replace h := h x10_27 e27
        refine v_aload_n hC 1 dX7_line_155 rfl ?_
        refine v_aload_n hC 1 dX7_line_156 rfl ?_
        refine v_iload hC 6 dX7_line_157 rfl ?_
        refine v_callV hC (kM_heap _ _ _ h) cmM_heap ⟨kw1148, kw52⟩ kw1146 ⟨Nat.le_of_ble_eq_true rfl, Nat.le_of_ble_eq_true rfl⟩ (Nat.le_of_ble_eq_true rfl) rfl (ci := 7) (T := TX7) (N := 30) rfl (As := fun G => [.int x6]) (fun _ => rfl) (fun _ => rfl) (st := [.ref (xad X 82)]) (Nat.le_of_ble_eq_true rfl) rfl dX7_line_159 (kk_i (fun r29 σ29 h => ?_))
        refine v_iload hC 0 dX7_line_162 rfl ?_
        refine v_iconst hC (nI 0) dX7_line_164 rfl ?_
        refine v_callV hC (kM_worthOf _ _ _ _ _ h) cmM_worthOf ⟨kw1160, kw55⟩ kw1158 ⟨Nat.le_of_ble_eq_true rfl, Nat.le_of_ble_eq_true rfl⟩ (Nat.le_of_ble_eq_true rfl) rfl (ci := 7) (T := TX7) (N := 30) rfl (As := fun G => [.int r29, .int x10_27, .int (nI 0)]) (fun _ => rfl) (fun _ => rfl) (st := []) (Nat.le_of_ble_eq_true rfl) rfl dX7_line_165 (kk_i (fun r31 σ31 h => ?_))
        refine v_istore hC dX7_line_168 (by decide) rfl ?_
        refine v_aload_n hC 2 dX7_line_170 rfl ?_
        refine v_aload_n hC 2 dX7_line_171 rfl ?_
        refine v_iload hC 8 dX7_line_172 rfl ?_
        refine v_callV hC (kM_heap _ _ _ h) cmM_heap ⟨kw1148, kw52⟩ kw1146 ⟨Nat.le_of_ble_eq_true rfl, Nat.le_of_ble_eq_true rfl⟩ (Nat.le_of_ble_eq_true rfl) rfl (ci := 7) (T := TX7) (N := 30) rfl (As := fun G => [.int x7]) (fun _ => rfl) (fun _ => rfl) (st := [.ref (xad X 82)]) (Nat.le_of_ble_eq_true rfl) rfl dX7_line_174 (kk_i (fun r33 σ33 h => ?_))
        refine v_iload hC 1 dX7_line_177 rfl ?_
        refine v_iconst hC (nI 0) dX7_line_179 rfl ?_
        refine v_callV hC (kM_worthOf _ _ _ _ _ h) cmM_worthOf ⟨kw1160, kw55⟩ kw1158 ⟨Nat.le_of_ble_eq_true rfl, Nat.le_of_ble_eq_true rfl⟩ (Nat.le_of_ble_eq_true rfl) rfl (ci := 7) (T := TX7) (N := 30) rfl (As := fun G => [.int r33, .int x10_27, .int (nI 0)]) (fun _ => rfl) (fun _ => rfl) (st := []) (Nat.le_of_ble_eq_true rfl) rfl dX7_line_180 (kk_i (fun r35 σ35 h => ?_))
        refine v_istore hC dX7_line_183 (by decide) rfl ?_
        refine v_iload hC 10 dX7_line_185 rfl ?_
        refine v_iload hC 2 dX7_line_187 rfl ?_
        refine v_iload hC 7 dX7_line_189 rfl ?_
        have J36 : ∀ (v37 : Int32) (ev37 : v37 = (if x10_27 = x4 then (if r31 < r35 then r35 else r31) else (nI 0))), V X 13 212 [(0, .ref (xad X 82)), (1, .int x1), (2, .int x2), (3, .int x3), (4, .int x4), (6, .int x6), (7, .int x7), (9, .int x9), (11, .int r31), (12, .int r35)] [.int v37, .int x8] σ35 := by
          intro v37 ev37
          replace h := h v37 ev37
          refine v_iadd hC dX7_line_212 ?_
          refine v_istoreN hC dX7_line_213 (by decide) (lo2 := fun x8_38 => [(8, .int x8_38), (0, .ref (xad X 82)), (1, .int x1), (2, .int x2), (3, .int x3), (4, .int x4), (6, .int x6), (7, .int x7), (9, .int x9), (11, .int r31), (12, .int r35)]) (fun _ => rfl) (fun x8_38 e38 => ?_)
          replace h := h x8_38 e38
          refine v_iload hC 6 dX7_line_215 rfl ?_
          refine v_iload hC 9 dX7_line_217 rfl ?_
          refine v_iload hC 10 dX7_line_219 rfl ?_
          have J39 : ∀ (v40 : Int32) (ev40 : v40 = (if r31 < r35 then (nI 0) else (nI 1))), V X 13 229 [(0, .ref (xad X 82)), (1, .int x1), (2, .int x2), (3, .int x3), (4, .int x4), (7, .int x7), (8, .int x8_38), (9, .int x9), (11, .int r31), (12, .int r35)] [.int v40, .int x6] σ35 := by
            intro v40 ev40
            replace h := h v40 ev40
            refine v_iadd hC dX7_line_229 ?_
            refine v_istoreN hC dX7_line_230 (by decide) (lo2 := fun x6_41 => [(6, .int x6_41), (0, .ref (xad X 82)), (1, .int x1), (2, .int x2), (3, .int x3), (4, .int x4), (7, .int x7), (8, .int x8_38), (9, .int x9), (11, .int r31), (12, .int r35)]) (fun _ => rfl) (fun x6_41 e41 => ?_)
            replace h := h x6_41 e41
            refine v_iload hC 6 dX7_line_232 rfl ?_
            refine v_iload hC 9 dX7_line_234 rfl ?_
            refine v_iload hC 10 dX7_line_236 rfl ?_
            have J42 : ∀ (v43 : Int32) (ev43 : v43 = (if r31 < r35 then (nI 1) else (nI 0))), V X 13 246 [(0, .ref (xad X 82)), (1, .int x1), (2, .int x2), (3, .int x3), (4, .int x4), (6, .int x6_41), (8, .int x8_38), (9, .int x9)] [.int v43, .int x7] σ35 := by
              intro v43 ev43
              replace h := h v43 ev43
              refine v_isub hC dX7_line_246 ?_
              refine v_istoreN hC dX7_line_247 (by decide) (lo2 := fun x7_44 => [(7, .int x7_44), (0, .ref (xad X 82)), (1, .int x1), (2, .int x2), (3, .int x3), (4, .int x4), (6, .int x6_41), (8, .int x8_38), (9, .int x9)]) (fun _ => rfl) (fun x7_44 e44 => ?_)
              replace h := h x7_44 e44
              refine v_iincN hC (nI 1) 8 dX7_line_249 rfl rfl (by decide) (lo2 := fun x9_45 => [(9, .int x9_45), (7, .int x7_44), (0, .ref (xad X 82)), (1, .int x1), (2, .int x2), (3, .int x3), (4, .int x4), (6, .int x6_41), (8, .int x8_38)]) (fun _ => rfl) (fun x9_45 e45 => ?_)
              replace h := h x9_45 e45
              refine v_goto hC 126 dX7_line_252 (by decide) ?_
              exact V.sub [2, 3, 4, 5, 6, 7, 1, 8, 0] rfl (ih _ _ _ _ _ _ _ _ _ h)
            refine v_icmp_lt hC 245 dX7_line_238 (by decide) (fun c42 => ?_) (fun c42 => ?_)
            · refine v_iconst hC (nI 1) dX7_line_245 rfl ?_
              exact V.sub [1, 2, 3, 4, 5, 0, 7, 8] rfl (J42 _ (by rw [if_pos c42]))
            · refine v_iconst hC (nI 0) dX7_line_241 rfl ?_
              refine v_goto hC 246 dX7_line_242 (by decide) ?_
              exact V.sub [1, 2, 3, 4, 5, 0, 7, 8] rfl (J42 _ (by rw [if_neg c42]))
          refine v_icmp_lt hC 228 dX7_line_221 (by decide) (fun c39 => ?_) (fun c39 => ?_)
          · refine v_iconst hC (nI 0) dX7_line_228 rfl ?_
            exact V.sub [1, 2, 3, 4, 5, 7, 0, 8, 9, 10] rfl (J39 _ (by rw [if_pos c39]))
          · refine v_iconst hC (nI 1) dX7_line_224 rfl ?_
            refine v_goto hC 229 dX7_line_225 (by decide) ?_
            exact V.sub [1, 2, 3, 4, 5, 7, 0, 8, 9, 10] rfl (J39 _ (by rw [if_neg c39]))
        refine v_icmp_eq hC 198 dX7_line_191 (by decide) (fun c36 => ?_) (fun c36 => ?_)
        · refine v_iload hC 1 dX7_line_198 rfl ?_
          refine v_iload hC 0 dX7_line_200 rfl ?_
          have J46 : V X 13 212 [(0, .ref (xad X 82)), (1, .int x1), (2, .int x2), (3, .int x3), (4, .int x4), (6, .int x6), (7, .int x7), (9, .int x9), (11, .int r31), (12, .int r35)] [.int (if r31 < r35 then r35 else r31), .int x8] σ35 := by
            exact V.sub [0, 1, 2, 3, 4, 5, 6, 7, 8, 9] rfl (J36 _ (by rw [if_pos c36]))
          refine v_icmp_lt hC 210 dX7_line_202 (by decide) (fun c46 => ?_) (fun c46 => ?_)
          · refine v_iload hC 0 dX7_line_210 rfl ?_
            rw [if_pos c46] at J46
            exact V.sub [3, 4, 5, 6, 7, 8, 9, 11, 1, 0] rfl J46
          · refine v_iload hC 1 dX7_line_205 rfl ?_
            refine v_goto hC 212 dX7_line_207 (by decide) ?_
            rw [if_neg c46] at J46
            exact V.sub [3, 4, 5, 6, 7, 8, 9, 11, 1, 0] rfl J46
        · refine v_iconst hC (nI 0) dX7_line_194 rfl ?_
          refine v_goto hC 212 dX7_line_195 (by decide) ?_
          exact V.sub [3, 4, 5, 6, 7, 8, 9, 11, 1, 0] rfl (J36 _ (by rw [if_neg c36]))
set_option maxHeartbeats 4000000 in
set_option maxRecDepth 100000 in
theorem tM_line_l71 {X : gX} {Q : Int32 → gM → Prop} (hC : VC X cX7_line RX7 13 rmM_line) (hR : VR X (some .int) (gPi Q))  : ∀ (n : Nat) (x1 : Int32) (x2 : Int32) (x3 : Int32) (x4 : Int32) (x6 : Int32) (σ : gM), wM_line_l71 Q  n x1 x2 x3 x4 x6 σ → V X 13 71 [(0, .ref (xad X 82)), (1, .int x1), (2, .int x2), (3, .int x3), (4, .int x4), (6, .int x6)] [] σ := by
  intro n
  induction n with
  | zero => intro x1 x2 x3 x4 x6 σ h; exact h.elim
  | succ n ih =>
    intro x1 x2 x3 x4 x6 σ h
    replace h : (x3 ≤ x6 → (∀ x7_15 : Int32, x7_15 = ((σ 89 5) - (nI 1)) → (∃ n47 : Nat, wM_line_l126 Q n47 x1 x2 x3 x4 (nI 0) x7_15 (nI 0) (nI 0) σ))) ∧ (¬ (x3 ≤ x6) → (vp_in ((((nI 40) * x1) + x2) + x6) 320 ∧ (wM_isBuyerAt (σ 85 ((((nI 40) * x1) + x2) + x6).toNatClampNeg) σ (fun (r50 : Int32) (σ50 : gM) => (r50 = nI 0 → (Q (-1000001 : Int32) σ50)) ∧ (¬ (r50 = nI 0) → (∀ x6_52 : Int32, x6_52 = x6 + (nI 1) → (wM_line_l71 Q n x1 x2 x3 x4 x6_52 σ50))))))) := h
    refine v_iload hC 5 dX7_line_71 rfl ?_
    refine v_iload_n hC 3 dX7_line_73 rfl ?_
    refine v_icmp_ge hC 107 dX7_line_74 (by decide) (fun c13 => ?_) (fun c13 => ?_)
    · replace h := h.1 c13
      refine v_iconst hC (nI 0) dX7_line_107 rfl ?_
      refine v_istore hC dX7_line_108 (by decide) rfl ?_
      refine v_aload_n hC 1 dX7_line_110 rfl ?_
      refine gf_X7_28 hC dX7_line_111 ?_
      refine v_iconst hC (nI 5) dX7_line_114 rfl ?_
      refine v_iald hC (Nat.le_of_ble_eq_true rfl) rfl (j := 5) (by decide) (by unfold vp_in; decide) dX7_line_115 ?_
      refine v_iconst hC (nI 1) dX7_line_116 rfl ?_
      refine v_isub hC dX7_line_117 ?_
      refine v_istoreN hC dX7_line_118 (by decide) (lo2 := fun x7_15 => [(7, .int x7_15), (6, .int (nI 0)), (0, .ref (xad X 82)), (1, .int x1), (2, .int x2), (3, .int x3), (4, .int x4)]) (fun _ => rfl) (fun x7_15 e15 => ?_)
      replace h := h x7_15 e15
      refine v_iconst hC (nI 0) dX7_line_120 rfl ?_
      refine v_istore hC dX7_line_121 (by decide) rfl ?_
      refine v_iconst hC (nI 0) dX7_line_123 rfl ?_
      refine v_istore hC dX7_line_124 (by decide) rfl ?_
      obtain ⟨n47, h⟩ := h
      exact V.sub [4, 5, 6, 7, 8, 3, 2, 1, 0] rfl (tM_line_l126 hC hR  n47 _ _ _ _ _ _ _ _ _ h)
    · replace h := h.2 c13
      refine v_aload_n hC 0 dX7_line_77 rfl ?_
      refine v_aload_n hC 0 dX7_line_78 rfl ?_
      refine gf_X7_16 hC dX7_line_79 ?_
      refine v_bipush hC (nI 40) dX7_line_82 rfl ?_
      refine v_iload_n hC 1 dX7_line_84 rfl ?_
      refine v_imul hC dX7_line_85 ?_
      refine v_iload_n hC 2 dX7_line_86 rfl ?_
      refine v_iadd hC dX7_line_87 ?_
      refine v_iload hC 5 dX7_line_88 rfl ?_
      refine v_iadd hC dX7_line_90 ?_
      obtain ⟨hi48, h⟩ := h
      refine v_iald hC (Nat.le_of_ble_eq_true rfl) rfl rfl hi48 dX7_line_91 ?_
      refine v_callV hC (kM_isBuyerAt _ _ _ h) cmM_isBuyerAt ⟨kw1143, kw51⟩ kw1141 ⟨Nat.le_of_ble_eq_true rfl, Nat.le_of_ble_eq_true rfl⟩ (Nat.le_of_ble_eq_true rfl) rfl (ci := 7) (T := TX7) (N := 30) rfl (As := fun G => [.int (σ 85 ((((nI 40) * x1) + x2) + x6).toNatClampNeg)]) (fun _ => rfl) (fun _ => rfl) (st := []) (Nat.le_of_ble_eq_true rfl) rfl dX7_line_92 (kk_i (fun r50 σ50 h => ?_))
      refine v_if_ne hC 101 dX7_line_95 (by decide) (fun c51 => ?_) (fun c51 => ?_)
      · replace h := h.2 c51
        refine v_iincN hC (nI 1) 5 dX7_line_101 rfl rfl (by decide) (lo2 := fun x6_52 => [(6, .int x6_52), (0, .ref (xad X 82)), (1, .int x1), (2, .int x2), (3, .int x3), (4, .int x4)]) (fun _ => rfl) (fun x6_52 e52 => ?_)
        replace h := h x6_52 e52
        refine v_goto hC 71 dX7_line_104 (by decide) ?_
        exact V.sub [1, 2, 3, 4, 5, 0] rfl (ih _ _ _ _ _ _ h)
      · replace h := h.1 c51
        refine v_ldc hC kw1053 dX7_line_98 ?_
        exact v_iret hC hR h dX7_line_100
set_option maxHeartbeats 4000000 in
set_option maxRecDepth 100000 in
theorem tM_line_b47 {X : gX} {Q : Int32 → gM → Prop} (hC : VC X cX7_line RX7 13 rmM_line) (hR : VR X (some .int) (gPi Q))  (x1 : Int32) (x2 : Int32) (x3 : Int32) (x4 : Int32) (σ : gM) (h : wM_line_b47 Q  x1 x2 x3 x4 σ) : V X 13 47 [(0, .ref (xad X 82)), (1, .int x1), (2, .int x2), (3, .int x3), (4, .int x4)] [] σ := by
  replace h : wM_whyNot x1 x2 x3 σ (fun (r11 : Int32) (σ11 : gM) => (r11 = nI 0 → (∃ n53 : Nat, wM_line_l71 Q n53 x1 x2 x3 x4 (nI 0) σ11)) ∧ (¬ (r11 = nI 0) → (wM_finds r11 σ11 (fun (r55 : Int32) (σ55 : gM) => Q r55 σ55)))) := h
  refine v_aload_n hC 0 dX7_line_47 rfl ?_
  refine v_iload_n hC 1 dX7_line_48 rfl ?_
  refine v_iload_n hC 2 dX7_line_49 rfl ?_
  refine v_iload_n hC 3 dX7_line_50 rfl ?_
  refine v_callV hC (kM_whyNot _ _ _ _ _ h) cmM_whyNot ⟨kw1259, kw68⟩ kw1257 ⟨Nat.le_of_ble_eq_true rfl, Nat.le_of_ble_eq_true rfl⟩ (Nat.le_of_ble_eq_true rfl) rfl (ci := 7) (T := TX7) (N := 30) rfl (As := fun G => [.int x1, .int x2, .int x3]) (fun _ => rfl) (fun _ => rfl) (st := []) (Nat.le_of_ble_eq_true rfl) rfl dX7_line_51 (kk_i (fun r11 σ11 h => ?_))
  refine v_istore hC dX7_line_54 (by decide) rfl ?_
  refine v_iload hC 0 dX7_line_56 rfl ?_
  refine v_if_eq hC 68 dX7_line_58 (by decide) (fun c12 => ?_) (fun c12 => ?_)
  · replace h := h.1 c12
    refine v_iconst hC (nI 0) dX7_line_68 rfl ?_
    refine v_istore hC dX7_line_69 (by decide) rfl ?_
    obtain ⟨n53, h⟩ := h
    exact V.sub [2, 3, 4, 5, 6, 0] rfl (tM_line_l71 hC hR  n53 _ _ _ _ _ _ h)
  · replace h := h.2 c12
    refine v_aload_n hC 1 dX7_line_61 rfl ?_
    refine v_iload hC 0 dX7_line_62 rfl ?_
    refine v_callV hC (kM_finds _ _ _ h) cmM_finds ⟨kw1056, kw41⟩ kw1054 ⟨Nat.le_of_ble_eq_true rfl, Nat.le_of_ble_eq_true rfl⟩ (Nat.le_of_ble_eq_true rfl) rfl (ci := 7) (T := TX7) (N := 30) rfl (As := fun G => [.int r11]) (fun _ => rfl) (fun _ => rfl) (st := []) (Nat.le_of_ble_eq_true rfl) rfl dX7_line_64 (kk_i (fun r55 σ55 h => ?_))
    exact v_iret hC hR h dX7_line_67
set_option maxHeartbeats 4000000 in
set_option maxRecDepth 100000 in
theorem kM_line (x1 : Int32) (x2 : Int32) (x3 : Int32) (x4 : Int32) (σ : gM) (Q : Int32 → gM → Prop) (h : wM_line x1 x2 x3 x4 σ Q) : CT yX7_line cX7_line 13 (some .int) rmM_line (fun G => [.ref (gad G 82), .int x1, .int x2, .int x3, .int x4]) σ (gPi Q) := by
  refine c_enter (by decide) (fun _ => Nat.le_of_ble_eq_true rfl) (fun X hC hR => ?_)
  show V X 13 0 [(0, .ref (xad X 82)), (1, .int x1), (2, .int x2), (3, .int x3), (4, .int x4)] [] σ
  replace h : ((σ 89 0) = nI 0 → (Q (-1000002 : Int32) σ)) ∧ (¬ ((σ 89 0) = nI 0) → (wM_isRow x1 σ (fun (r4 : Int32) (σ4 : gM) => (r4 = nI 0 → (Q (-1000001 : Int32) σ4)) ∧ (¬ (r4 = nI 0) → (wM_in x3 (nI 1) (nI 40) σ4 (fun (r7 : Int32) (σ7 : gM) => (r7 = nI 0 → (Q (-1000001 : Int32) σ7)) ∧ (¬ (r7 = nI 0) → ((x4 = (-1 : Int32) → (wM_line_b47 Q x1 x2 x3 x4 σ7)) ∧ (¬ (x4 = (-1 : Int32)) → (wM_isBuyerAt x4 σ7 (fun (r57 : Int32) (σ57 : gM) => (r57 = nI 0 → (Q (-1000001 : Int32) σ57)) ∧ (¬ (r57 = nI 0) → (wM_line_b47 Q x1 x2 x3 x4 σ57))))))))))))) := h
  refine v_aload_n hC 0 dX7_line_0 rfl ?_
  refine gf_X7_28 hC dX7_line_1 ?_
  refine v_iconst hC (nI 0) dX7_line_4 rfl ?_
  refine v_iald hC (Nat.le_of_ble_eq_true rfl) rfl (j := 0) (by decide) (by unfold vp_in; decide) dX7_line_5 ?_
  refine v_if_ne hC 12 dX7_line_6 (by decide) (fun c2 => ?_) (fun c2 => ?_)
  · replace h := h.2 c2
    refine v_iload_n hC 1 dX7_line_12 rfl ?_
    refine v_callS hC (kM_isRow _ _ _ h) cmM_isRow kw1048 kw1047 ⟨Nat.le_of_ble_eq_true rfl, Nat.le_of_ble_eq_true rfl⟩ (fun _ => rfl) (st := []) (Nat.le_of_ble_eq_true rfl) rfl dX7_line_13 (kk_i (fun r4 σ4 h => ?_))
    refine v_if_eq hC 44 dX7_line_16 (by decide) (fun c5 => ?_) (fun c5 => ?_)
    · replace h := h.1 c5
      refine v_ldc hC kw1053 dX7_line_44 ?_
      exact v_iret hC hR h dX7_line_46
    · replace h := h.2 c5
      refine v_iload_n hC 3 dX7_line_19 rfl ?_
      refine v_iconst hC (nI 1) dX7_line_20 rfl ?_
      refine v_bipush hC (nI 40) dX7_line_21 rfl ?_
      refine v_callS hC (kM_in _ _ _ _ _ h) cmM_in kw1051 kw1050 ⟨Nat.le_of_ble_eq_true rfl, Nat.le_of_ble_eq_true rfl⟩ (fun _ => rfl) (st := []) (Nat.le_of_ble_eq_true rfl) rfl dX7_line_23 (kk_i (fun r7 σ7 h => ?_))
      refine v_if_eq hC 44 dX7_line_26 (by decide) (fun c8 => ?_) (fun c8 => ?_)
      · replace h := h.1 c8
        refine v_ldc hC kw1053 dX7_line_44 ?_
        exact v_iret hC hR h dX7_line_46
      · replace h := h.2 c8
        refine v_iload hC 4 dX7_line_29 rfl ?_
        refine v_iconst hC (-1 : Int32) dX7_line_31 rfl ?_
        refine v_icmp_eq hC 47 dX7_line_32 (by decide) (fun c9 => ?_) (fun c9 => ?_)
        · replace h := h.1 c9
          exact V.sub [0, 1, 2, 3, 4] rfl (tM_line_b47 hC hR  _ _ _ _ _ h)
        · replace h := h.2 c9
          refine v_aload_n hC 0 dX7_line_35 rfl ?_
          refine v_iload hC 4 dX7_line_36 rfl ?_
          refine v_callV hC (kM_isBuyerAt _ _ _ h) cmM_isBuyerAt ⟨kw1143, kw51⟩ kw1141 ⟨Nat.le_of_ble_eq_true rfl, Nat.le_of_ble_eq_true rfl⟩ (Nat.le_of_ble_eq_true rfl) rfl (ci := 7) (T := TX7) (N := 30) rfl (As := fun G => [.int x4]) (fun _ => rfl) (fun _ => rfl) (st := []) (Nat.le_of_ble_eq_true rfl) rfl dX7_line_38 (kk_i (fun r57 σ57 h => ?_))
          refine v_if_ne hC 47 dX7_line_41 (by decide) (fun c58 => ?_) (fun c58 => ?_)
          · replace h := h.2 c58
            exact V.sub [0, 1, 2, 3, 4] rfl (tM_line_b47 hC hR  _ _ _ _ _ h)
          · replace h := h.1 c58
            refine v_ldc hC kw1053 dX7_line_44 ?_
            exact v_iret hC hR h dX7_line_46
  · replace h := h.1 c2
    refine v_ldc hC kw1145 dX7_line_9 ?_
    exact v_iret hC hR h dX7_line_11
theorem cmM_line : CM yX7_line cX7_line 13 (some .int) rmM_line 4 := ⟨kw82, kw1256, rfl, rfl, by decide, by decide, by decide +kernel⟩
def rmM_bits : Room := { frames := 0, cells := 0, slots := 0, locals := 0 }
def wM_bits_l4 (Q : Int32 → gM → Prop)  : Nat → Int32 → Int32 → Int32 → gM → Prop
  | 0, _, _, _, _ => False
  | n + 1, x0, x1, x2, σ =>
    ((nI 16) ≤ x2 → (Q x1 σ)) ∧ (¬ ((nI 16) ≤ x2) → (∀ x1_2 : Int32, x1_2 = (x1 + ((x0 >>> (x2 &&& 31)) &&& (nI 1))) → (∀ x2_3 : Int32, x2_3 = x2 + (nI 1) → (wM_bits_l4 Q n x0 x1_2 x2_3 σ))))
def wM_bits (x0 : Int32) (σ : gM) (Q : Int32 → gM → Prop) : Prop :=
    ∃ n4 : Nat, wM_bits_l4 Q n4 x0 (nI 0) (nI 0) σ
set_option maxHeartbeats 4000000 in
set_option maxRecDepth 100000 in
theorem tM_bits_l4 {X : gX} {Q : Int32 → gM → Prop} (hC : VC X cX7_bits RX7 3 rmM_bits) (hR : VR X (some .int) (gPi Q))  : ∀ (n : Nat) (x0 : Int32) (x1 : Int32) (x2 : Int32) (σ : gM), wM_bits_l4 Q  n x0 x1 x2 σ → V X 3 4 [(0, .int x0), (1, .int x1), (2, .int x2)] [] σ := by
  intro n
  induction n with
  | zero => intro x0 x1 x2 σ h; exact h.elim
  | succ n ih =>
    intro x0 x1 x2 σ h
    replace h : ((nI 16) ≤ x2 → (Q x1 σ)) ∧ (¬ ((nI 16) ≤ x2) → (∀ x1_2 : Int32, x1_2 = (x1 + ((x0 >>> (x2 &&& 31)) &&& (nI 1))) → (∀ x2_3 : Int32, x2_3 = x2 + (nI 1) → (wM_bits_l4 Q n x0 x1_2 x2_3 σ)))) := h
    refine v_iload_n hC 2 dX7_bits_4 rfl ?_
    refine v_bipush hC (nI 16) dX7_bits_5 rfl ?_
    refine v_icmp_ge hC 24 dX7_bits_7 (by decide) (fun c1 => ?_) (fun c1 => ?_)
    · replace h := h.1 c1
      refine v_iload_n hC 1 dX7_bits_24 rfl ?_
      exact v_iret hC hR h dX7_bits_25
    · replace h := h.2 c1
      refine v_iload_n hC 1 dX7_bits_10 rfl ?_
      refine v_iload_n hC 0 dX7_bits_11 rfl ?_
      refine v_iload_n hC 2 dX7_bits_12 rfl ?_
      refine v_ishr hC dX7_bits_13 ?_
      refine v_iconst hC (nI 1) dX7_bits_14 rfl ?_
      refine v_iand hC dX7_bits_15 ?_
      refine v_iadd hC dX7_bits_16 ?_
      refine v_istore_nN hC dX7_bits_17 (by decide) (lo2 := fun x1_2 => [(1, .int x1_2), (0, .int x0), (2, .int x2)]) (fun _ => rfl) (fun x1_2 e2 => ?_)
      replace h := h x1_2 e2
      refine v_iincN hC (nI 1) 2 dX7_bits_18 rfl rfl (by decide) (lo2 := fun x2_3 => [(2, .int x2_3), (1, .int x1_2), (0, .int x0)]) (fun _ => rfl) (fun x2_3 e3 => ?_)
      replace h := h x2_3 e3
      refine v_goto hC 4 dX7_bits_21 (by decide) ?_
      exact V.sub [2, 1, 0] rfl (ih _ _ _ _ h)
set_option maxHeartbeats 4000000 in
set_option maxRecDepth 100000 in
theorem kM_bits (x0 : Int32) (σ : gM) (Q : Int32 → gM → Prop) (h : wM_bits x0 σ Q) : CT yX7_bits cX7_bits 3 (some .int) rmM_bits (fun G => [.int x0]) σ (gPi Q) := by
  refine c_enter (by decide) (fun _ => Nat.le_of_ble_eq_true rfl) (fun X hC hR => ?_)
  show V X 3 0 [(0, .int x0)] [] σ
  replace h : ∃ n4 : Nat, wM_bits_l4 Q n4 x0 (nI 0) (nI 0) σ := h
  refine v_iconst hC (nI 0) dX7_bits_0 rfl ?_
  refine v_istore_n hC dX7_bits_1 (by decide) rfl ?_
  refine v_iconst hC (nI 0) dX7_bits_2 rfl ?_
  refine v_istore_n hC dX7_bits_3 (by decide) rfl ?_
  obtain ⟨n4, h⟩ := h
  exact V.sub [2, 1, 0] rfl (tM_bits_l4 hC hR  n4 _ _ _ _ h)
theorem cmM_bits : CM yX7_bits cX7_bits 3 (some .int) rmM_bits 1 := ⟨kw82, kw1267, rfl, rfl, by decide, by decide, by decide +kernel⟩
def rmM_rots : Room := { frames := 3, cells := 0, slots := 0, locals := 69 }
def wM_rots_b75 (Q : Int32 → gM → Prop)  (x2 : Int32) (x3 : Int32) (s0 : Int32) (σ : gM) : Prop :=
    (x2 = nI 0 → (wM_bits x3 σ (fun (r15 : Int32) (σ15 : gM) => Q r15 σ15))) ∧ (¬ (x2 = nI 0) → (∀ v17 : Int32, v17 = (if x2 = (nI 1) then x3 else (x3 &&& (s0 ^^^ (-1 : Int32)))) → (Q v17 σ)))
def wM_rots (x1 : Int32) (x2 : Int32) (σ : gM) (Q : Int32 → gM → Prop) : Prop :=
    ((σ 89 0) = nI 0 → (Q (-1000002 : Int32) σ)) ∧ (¬ ((σ 89 0) = nI 0) → (wM_in x1 (nI 0) (nI 99) σ (fun (r4 : Int32) (σ4 : gM) => (r4 = nI 0 → (Q (-1000001 : Int32) σ4)) ∧ (¬ (r4 = nI 0) → (wM_in x2 (nI 0) (nI 2) σ4 (fun (r7 : Int32) (σ7 : gM) => (r7 = nI 0 → (Q (-1000001 : Int32) σ7)) ∧ (¬ (r7 = nI 0) → (wM_rotten x1 σ7 (fun (r10 : Int32) (σ10 : gM) => ((σ10 89 5) = nI 0 → (wM_rots_b75 Q x2 r10 (nI 0) σ10)) ∧ (¬ ((σ10 89 5) = nI 0) → (wM_heap (nI 0) σ10 (fun (r19 : Int32) (σ19 : gM) => wM_heap ((σ19 89 5) - (nI 1)) σ19 (fun (r22 : Int32) (σ22 : gM) => wM_rots_b75 Q x2 r10 (((nI 1) <<< (r19 &&& 31)) ||| ((nI 1) <<< (r22 &&& 31))) σ22)))))))))))))
set_option maxHeartbeats 4000000 in
set_option maxRecDepth 100000 in
theorem tM_rots_b75 {X : gX} {Q : Int32 → gM → Prop} (hC : VC X cX7_rots RX7 5 rmM_rots) (hR : VR X (some .int) (gPi Q))  (x2 : Int32) (x3 : Int32) (s0 : Int32) (σ : gM) (h : wM_rots_b75 Q  x2 x3 s0 σ) : V X 5 75 [(2, .int x2), (3, .int x3)] [.int s0] σ := by
  replace h : (x2 = nI 0 → (wM_bits x3 σ (fun (r15 : Int32) (σ15 : gM) => Q r15 σ15))) ∧ (¬ (x2 = nI 0) → (∀ v17 : Int32, v17 = (if x2 = (nI 1) then x3 else (x3 &&& (s0 ^^^ (-1 : Int32)))) → (Q v17 σ))) := h
  refine v_istore hC dX7_rots_75 (by decide) rfl ?_
  refine v_iload_n hC 1 dX7_rots_77 rfl ?_
  refine v_if_ne hC 88 dX7_rots_78 (by decide) (fun c13 => ?_) (fun c13 => ?_)
  · replace h := h.2 c13
    refine v_iload_n hC 1 dX7_rots_88 rfl ?_
    refine v_iconst hC (nI 1) dX7_rots_89 rfl ?_
    have J16 : ∀ (v17 : Int32) (ev17 : v17 = (if x2 = (nI 1) then x3 else (x3 &&& (s0 ^^^ (-1 : Int32))))), V X 5 103 [] [.int v17] σ := by
      intro v17 ev17
      replace h := h v17 ev17
      exact v_iret hC hR h dX7_rots_103
    refine v_icmp_ne hC 97 dX7_rots_90 (by decide) (fun c16 => ?_) (fun c16 => ?_)
    · refine v_iload_n hC 2 dX7_rots_97 rfl ?_
      refine v_iload hC 0 dX7_rots_98 rfl ?_
      refine v_iconst hC (-1 : Int32) dX7_rots_100 rfl ?_
      refine v_ixor hC dX7_rots_101 ?_
      refine v_iand hC dX7_rots_102 ?_
      exact V.sub [] rfl (J16 _ (by rw [if_neg c16]))
    · refine v_iload_n hC 2 dX7_rots_93 rfl ?_
      refine v_goto hC 103 dX7_rots_94 (by decide) ?_
      exact V.sub [] rfl (J16 _ (by rw [if_pos c16]))
  · replace h := h.1 c13
    refine v_iload_n hC 2 dX7_rots_81 rfl ?_
    refine v_callS hC (kM_bits _ _ _ h) cmM_bits kw1266 kw1265 ⟨Nat.le_of_ble_eq_true rfl, Nat.le_of_ble_eq_true rfl⟩ (fun _ => rfl) (st := []) (Nat.le_of_ble_eq_true rfl) rfl dX7_rots_82 (kk_i (fun r15 σ15 h => ?_))
    refine v_goto hC 103 dX7_rots_85 (by decide) ?_
    exact v_iret hC hR h dX7_rots_103
set_option maxHeartbeats 4000000 in
set_option maxRecDepth 100000 in
theorem kM_rots (x1 : Int32) (x2 : Int32) (σ : gM) (Q : Int32 → gM → Prop) (h : wM_rots x1 x2 σ Q) : CT yX7_rots cX7_rots 5 (some .int) rmM_rots (fun G => [.ref (gad G 82), .int x1, .int x2]) σ (gPi Q) := by
  refine c_enter (by decide) (fun _ => Nat.le_of_ble_eq_true rfl) (fun X hC hR => ?_)
  show V X 5 0 [(0, .ref (xad X 82)), (1, .int x1), (2, .int x2)] [] σ
  replace h : ((σ 89 0) = nI 0 → (Q (-1000002 : Int32) σ)) ∧ (¬ ((σ 89 0) = nI 0) → (wM_in x1 (nI 0) (nI 99) σ (fun (r4 : Int32) (σ4 : gM) => (r4 = nI 0 → (Q (-1000001 : Int32) σ4)) ∧ (¬ (r4 = nI 0) → (wM_in x2 (nI 0) (nI 2) σ4 (fun (r7 : Int32) (σ7 : gM) => (r7 = nI 0 → (Q (-1000001 : Int32) σ7)) ∧ (¬ (r7 = nI 0) → (wM_rotten x1 σ7 (fun (r10 : Int32) (σ10 : gM) => ((σ10 89 5) = nI 0 → (wM_rots_b75 Q x2 r10 (nI 0) σ10)) ∧ (¬ ((σ10 89 5) = nI 0) → (wM_heap (nI 0) σ10 (fun (r19 : Int32) (σ19 : gM) => wM_heap ((σ19 89 5) - (nI 1)) σ19 (fun (r22 : Int32) (σ22 : gM) => wM_rots_b75 Q x2 r10 (((nI 1) <<< (r19 &&& 31)) ||| ((nI 1) <<< (r22 &&& 31))) σ22))))))))))))) := h
  refine v_aload_n hC 0 dX7_rots_0 rfl ?_
  refine gf_X7_28 hC dX7_rots_1 ?_
  refine v_iconst hC (nI 0) dX7_rots_4 rfl ?_
  refine v_iald hC (Nat.le_of_ble_eq_true rfl) rfl (j := 0) (by decide) (by unfold vp_in; decide) dX7_rots_5 ?_
  refine v_if_ne hC 12 dX7_rots_6 (by decide) (fun c2 => ?_) (fun c2 => ?_)
  · replace h := h.2 c2
    refine v_iload_n hC 1 dX7_rots_12 rfl ?_
    refine v_iconst hC (nI 0) dX7_rots_13 rfl ?_
    refine v_bipush hC (nI 99) dX7_rots_14 rfl ?_
    refine v_callS hC (kM_in _ _ _ _ _ h) cmM_in kw1051 kw1050 ⟨Nat.le_of_ble_eq_true rfl, Nat.le_of_ble_eq_true rfl⟩ (fun _ => rfl) (st := []) (Nat.le_of_ble_eq_true rfl) rfl dX7_rots_16 (kk_i (fun r4 σ4 h => ?_))
    refine v_if_eq hC 31 dX7_rots_19 (by decide) (fun c5 => ?_) (fun c5 => ?_)
    · replace h := h.1 c5
      refine v_ldc hC kw1053 dX7_rots_31 ?_
      exact v_iret hC hR h dX7_rots_33
    · replace h := h.2 c5
      refine v_iload_n hC 2 dX7_rots_22 rfl ?_
      refine v_iconst hC (nI 0) dX7_rots_23 rfl ?_
      refine v_iconst hC (nI 2) dX7_rots_24 rfl ?_
      refine v_callS hC (kM_in _ _ _ _ _ h) cmM_in kw1051 kw1050 ⟨Nat.le_of_ble_eq_true rfl, Nat.le_of_ble_eq_true rfl⟩ (fun _ => rfl) (st := []) (Nat.le_of_ble_eq_true rfl) rfl dX7_rots_25 (kk_i (fun r7 σ7 h => ?_))
      refine v_if_ne hC 34 dX7_rots_28 (by decide) (fun c8 => ?_) (fun c8 => ?_)
      · replace h := h.2 c8
        refine v_aload_n hC 0 dX7_rots_34 rfl ?_
        refine v_iload_n hC 1 dX7_rots_35 rfl ?_
        refine v_callV hC (kM_rotten _ _ _ h) cmM_rotten ⟨kw1187, kw59⟩ kw1185 ⟨Nat.le_of_ble_eq_true rfl, Nat.le_of_ble_eq_true rfl⟩ (Nat.le_of_ble_eq_true rfl) rfl (ci := 7) (T := TX7) (N := 30) rfl (As := fun G => [.int x1]) (fun _ => rfl) (fun _ => rfl) (st := []) (Nat.le_of_ble_eq_true rfl) rfl dX7_rots_36 (kk_i (fun r10 σ10 h => ?_))
        refine v_istore_n hC dX7_rots_39 (by decide) rfl ?_
        refine v_aload_n hC 1 dX7_rots_40 rfl ?_
        refine gf_X7_28 hC dX7_rots_41 ?_
        refine v_iconst hC (nI 5) dX7_rots_44 rfl ?_
        refine v_iald hC (Nat.le_of_ble_eq_true rfl) rfl (j := 5) (by decide) (by unfold vp_in; decide) dX7_rots_45 ?_
        refine v_if_ne hC 53 dX7_rots_46 (by decide) (fun c12 => ?_) (fun c12 => ?_)
        · replace h := h.2 c12
          refine v_iconst hC (nI 1) dX7_rots_53 rfl ?_
          refine v_aload_n hC 1 dX7_rots_54 rfl ?_
          refine v_iconst hC (nI 0) dX7_rots_55 rfl ?_
          refine v_callV hC (kM_heap _ _ _ h) cmM_heap ⟨kw1148, kw52⟩ kw1146 ⟨Nat.le_of_ble_eq_true rfl, Nat.le_of_ble_eq_true rfl⟩ (Nat.le_of_ble_eq_true rfl) rfl (ci := 7) (T := TX7) (N := 30) rfl (As := fun G => [.int (nI 0)]) (fun _ => rfl) (fun _ => rfl) (st := [.int (nI 1)]) (Nat.le_of_ble_eq_true rfl) rfl dX7_rots_56 (kk_i (fun r19 σ19 h => ?_))
          refine v_ishl hC dX7_rots_59 ?_
          refine v_iconst hC (nI 1) dX7_rots_60 rfl ?_
          refine v_aload_n hC 1 dX7_rots_61 rfl ?_
          refine v_aload_n hC 1 dX7_rots_62 rfl ?_
          refine gf_X7_28 hC dX7_rots_63 ?_
          refine v_iconst hC (nI 5) dX7_rots_66 rfl ?_
          refine v_iald hC (Nat.le_of_ble_eq_true rfl) rfl (j := 5) (by decide) (by unfold vp_in; decide) dX7_rots_67 ?_
          refine v_iconst hC (nI 1) dX7_rots_68 rfl ?_
          refine v_isub hC dX7_rots_69 ?_
          refine v_callV hC (kM_heap _ _ _ h) cmM_heap ⟨kw1148, kw52⟩ kw1146 ⟨Nat.le_of_ble_eq_true rfl, Nat.le_of_ble_eq_true rfl⟩ (Nat.le_of_ble_eq_true rfl) rfl (ci := 7) (T := TX7) (N := 30) rfl (As := fun G => [.int ((σ19 89 5) - (nI 1))]) (fun _ => rfl) (fun _ => rfl) (st := [.int (nI 1), .int ((nI 1) <<< (r19 &&& 31))]) (Nat.le_of_ble_eq_true rfl) rfl dX7_rots_70 (kk_i (fun r22 σ22 h => ?_))
          refine v_ishl hC dX7_rots_73 ?_
          refine v_ior hC dX7_rots_74 ?_
          exact V.sub [3, 0] rfl (tM_rots_b75 hC hR  _ _ _ _ h)
        · replace h := h.1 c12
          refine v_iconst hC (nI 0) dX7_rots_49 rfl ?_
          refine v_goto hC 75 dX7_rots_50 (by decide) ?_
          exact V.sub [3, 0] rfl (tM_rots_b75 hC hR  _ _ _ _ h)
      · replace h := h.1 c8
        refine v_ldc hC kw1053 dX7_rots_31 ?_
        exact v_iret hC hR h dX7_rots_33
  · replace h := h.1 c2
    refine v_ldc hC kw1145 dX7_rots_9 ?_
    exact v_iret hC hR h dX7_rots_11
theorem cmM_rots : CM yX7_rots cX7_rots 5 (some .int) rmM_rots 2 := ⟨kw82, kw1264, rfl, rfl, by decide, by decide, by decide +kernel⟩
