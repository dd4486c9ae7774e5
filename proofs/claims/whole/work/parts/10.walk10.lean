def wK42_become_72  (σ : gM) (Q : gM → Prop) : Prop :=
    ((σ 72 0) = nI 0 ∨ (σ 72 0) = nI 1) ∧ (∀ σ1 : gM, σ1 = gU σ 42 0 (σ 72 0) → (∀ σ2 : gM, σ2 = gU σ1 42 1 (σ1 72 1) → (∀ σ3 : gM, σ3 = gU σ2 42 2 (σ2 72 2) → (∀ σ4 : gM, σ4 = gU σ3 42 3 (σ3 72 3) → (∀ σ5 : gM, σ5 = gU σ4 42 4 (σ4 72 4) → (∀ σ6 : gM, σ6 = gU σ5 42 5 (σ5 72 5) → (∀ σ7 : gM, σ7 = gCp σ6 73 0 43 0 4 → (∀ σ8 : gM, σ8 = gCp σ7 74 0 44 0 4 → (∀ σ9 : gM, σ9 = gCp σ8 75 0 45 0 4 → (∀ σ10 : gM, σ10 = gCp σ9 76 0 46 0 4 → (∀ σ11 : gM, σ11 = gCp σ10 77 0 47 0 16 → (∀ σ12 : gM, σ12 = gCp σ11 78 0 48 0 16 → (∀ σ13 : gM, σ13 = gCp σ12 79 0 49 0 16 → (∀ σ14 : gM, σ14 = gCp σ13 80 0 50 0 16 → (∀ σ15 : gM, σ15 = gCp σ14 81 0 51 0 16 → (Q σ15))))))))))))))))
set_option maxHeartbeats 4000000 in
set_option maxRecDepth 100000 in
theorem kK42_become_72  (σ : gM) (Q : gM → Prop) (h : wK42_become_72  σ Q) : CT yX2_become cX2_become 2 none rmK_become (fun G => [.ref (gad G 42), .ref (gad G 72)]) σ (gPv Q) := by
  refine c_enter (by decide) (fun _ => Nat.le_of_ble_eq_true rfl) (fun X hC hR => ?_)
  show V X 2 0 [(0, .ref (xad X 42)), (1, .ref (xad X 72))] [] σ
  replace h : ((σ 72 0) = nI 0 ∨ (σ 72 0) = nI 1) ∧ (∀ σ1 : gM, σ1 = gU σ 42 0 (σ 72 0) → (∀ σ2 : gM, σ2 = gU σ1 42 1 (σ1 72 1) → (∀ σ3 : gM, σ3 = gU σ2 42 2 (σ2 72 2) → (∀ σ4 : gM, σ4 = gU σ3 42 3 (σ3 72 3) → (∀ σ5 : gM, σ5 = gU σ4 42 4 (σ4 72 4) → (∀ σ6 : gM, σ6 = gU σ5 42 5 (σ5 72 5) → (∀ σ7 : gM, σ7 = gCp σ6 73 0 43 0 4 → (∀ σ8 : gM, σ8 = gCp σ7 74 0 44 0 4 → (∀ σ9 : gM, σ9 = gCp σ8 75 0 45 0 4 → (∀ σ10 : gM, σ10 = gCp σ9 76 0 46 0 4 → (∀ σ11 : gM, σ11 = gCp σ10 77 0 47 0 16 → (∀ σ12 : gM, σ12 = gCp σ11 78 0 48 0 16 → (∀ σ13 : gM, σ13 = gCp σ12 79 0 49 0 16 → (∀ σ14 : gM, σ14 = gCp σ13 80 0 50 0 16 → (∀ σ15 : gM, σ15 = gCp σ14 81 0 51 0 16 → (Q σ15)))))))))))))))) := h
  refine v_aload_n hC 0 dX2_become_0 rfl ?_
  refine v_aload_n hC 1 dX2_become_1 rfl ?_
  refine gf_X2_39_72 hC dX2_become_2 ?_
  obtain ⟨hb1, h⟩ := h
  refine pf_X2_39_42 hC hb1 dX2_become_5 (fun σ1 e1 => ?_)
  replace h := h σ1 e1
  refine v_aload_n hC 0 dX2_become_8 rfl ?_
  refine v_aload_n hC 1 dX2_become_9 rfl ?_
  refine gf_X2_43_72 hC dX2_become_10 ?_
  refine pf_X2_43_42 hC dX2_become_13 (fun σ2 e2 => ?_)
  replace h := h σ2 e2
  refine v_aload_n hC 0 dX2_become_16 rfl ?_
  refine v_aload_n hC 1 dX2_become_17 rfl ?_
  refine gf_X2_47_72 hC dX2_become_18 ?_
  refine pf_X2_47_42 hC dX2_become_21 (fun σ3 e3 => ?_)
  replace h := h σ3 e3
  refine v_aload_n hC 0 dX2_become_24 rfl ?_
  refine v_aload_n hC 1 dX2_become_25 rfl ?_
  refine gf_X2_50_72 hC dX2_become_26 ?_
  refine pf_X2_50_42 hC dX2_become_29 (fun σ4 e4 => ?_)
  replace h := h σ4 e4
  refine v_aload_n hC 0 dX2_become_32 rfl ?_
  refine v_aload_n hC 1 dX2_become_33 rfl ?_
  refine gf_X2_53_72 hC dX2_become_34 ?_
  refine pf_X2_53_42 hC dX2_become_37 (fun σ5 e5 => ?_)
  replace h := h σ5 e5
  refine v_aload_n hC 0 dX2_become_40 rfl ?_
  refine v_aload_n hC 1 dX2_become_41 rfl ?_
  refine gf_X2_56_72 hC dX2_become_42 ?_
  refine pf_X2_56_42 hC dX2_become_45 (fun σ6 e6 => ?_)
  replace h := h σ6 e6
  refine v_aload_n hC 1 dX2_become_48 rfl ?_
  refine gf_X2_9_72 hC dX2_become_49 ?_
  refine v_iconst hC (nI 0) dX2_become_52 rfl ?_
  refine v_aload_n hC 0 dX2_become_53 rfl ?_
  refine gf_X2_9_42 hC dX2_become_54 ?_
  refine v_iconst hC (nI 0) dX2_become_57 rfl ?_
  refine v_iconst hC (nI 4) dX2_become_58 rfl ?_
  refine v_copy hC (Nat.le_of_ble_eq_true rfl) (Nat.le_of_ble_eq_true rfl) rfl rfl kw571 kw420 kw419 kw84 (by decide) (by decide) (by decide) (by decide) (by decide) (Nat.le_of_ble_eq_true rfl) (by decide) dX2_become_59 (fun σ7 e7 => ?_)
  replace h := h σ7 e7
  refine v_aload_n hC 1 dX2_become_62 rfl ?_
  refine gf_X2_15_72 hC dX2_become_63 ?_
  refine v_iconst hC (nI 0) dX2_become_66 rfl ?_
  refine v_aload_n hC 0 dX2_become_67 rfl ?_
  refine gf_X2_15_42 hC dX2_become_68 ?_
  refine v_iconst hC (nI 0) dX2_become_71 rfl ?_
  refine v_iconst hC (nI 4) dX2_become_72 rfl ?_
  refine v_copy hC (Nat.le_of_ble_eq_true rfl) (Nat.le_of_ble_eq_true rfl) rfl rfl kw571 kw420 kw419 kw84 (by decide) (by decide) (by decide) (by decide) (by decide) (Nat.le_of_ble_eq_true rfl) (by decide) dX2_become_73 (fun σ8 e8 => ?_)
  replace h := h σ8 e8
  refine v_aload_n hC 1 dX2_become_76 rfl ?_
  refine gf_X2_18_72 hC dX2_become_77 ?_
  refine v_iconst hC (nI 0) dX2_become_80 rfl ?_
  refine v_aload_n hC 0 dX2_become_81 rfl ?_
  refine gf_X2_18_42 hC dX2_become_82 ?_
  refine v_iconst hC (nI 0) dX2_become_85 rfl ?_
  refine v_iconst hC (nI 4) dX2_become_86 rfl ?_
  refine v_copy hC (Nat.le_of_ble_eq_true rfl) (Nat.le_of_ble_eq_true rfl) rfl rfl kw571 kw420 kw419 kw84 (by decide) (by decide) (by decide) (by decide) (by decide) (Nat.le_of_ble_eq_true rfl) (by decide) dX2_become_87 (fun σ9 e9 => ?_)
  replace h := h σ9 e9
  refine v_aload_n hC 1 dX2_become_90 rfl ?_
  refine gf_X2_21_72 hC dX2_become_91 ?_
  refine v_iconst hC (nI 0) dX2_become_94 rfl ?_
  refine v_aload_n hC 0 dX2_become_95 rfl ?_
  refine gf_X2_21_42 hC dX2_become_96 ?_
  refine v_iconst hC (nI 0) dX2_become_99 rfl ?_
  refine v_iconst hC (nI 4) dX2_become_100 rfl ?_
  refine v_copy hC (Nat.le_of_ble_eq_true rfl) (Nat.le_of_ble_eq_true rfl) rfl rfl kw571 kw420 kw419 kw84 (by decide) (by decide) (by decide) (by decide) (by decide) (Nat.le_of_ble_eq_true rfl) (by decide) dX2_become_101 (fun σ10 e10 => ?_)
  replace h := h σ10 e10
  refine v_aload_n hC 1 dX2_become_104 rfl ?_
  refine gf_X2_24_72 hC dX2_become_105 ?_
  refine v_iconst hC (nI 0) dX2_become_108 rfl ?_
  refine v_aload_n hC 0 dX2_become_109 rfl ?_
  refine gf_X2_24_42 hC dX2_become_110 ?_
  refine v_iconst hC (nI 0) dX2_become_113 rfl ?_
  refine v_bipush hC (nI 16) dX2_become_114 rfl ?_
  refine v_copy hC (Nat.le_of_ble_eq_true rfl) (Nat.le_of_ble_eq_true rfl) rfl rfl kw571 kw420 kw419 kw84 (by decide) (by decide) (by decide) (by decide) (by decide) (Nat.le_of_ble_eq_true rfl) (by decide) dX2_become_116 (fun σ11 e11 => ?_)
  replace h := h σ11 e11
  refine v_aload_n hC 1 dX2_become_119 rfl ?_
  refine gf_X2_27_72 hC dX2_become_120 ?_
  refine v_iconst hC (nI 0) dX2_become_123 rfl ?_
  refine v_aload_n hC 0 dX2_become_124 rfl ?_
  refine gf_X2_27_42 hC dX2_become_125 ?_
  refine v_iconst hC (nI 0) dX2_become_128 rfl ?_
  refine v_bipush hC (nI 16) dX2_become_129 rfl ?_
  refine v_copy hC (Nat.le_of_ble_eq_true rfl) (Nat.le_of_ble_eq_true rfl) rfl rfl kw571 kw420 kw419 kw84 (by decide) (by decide) (by decide) (by decide) (by decide) (Nat.le_of_ble_eq_true rfl) (by decide) dX2_become_131 (fun σ12 e12 => ?_)
  replace h := h σ12 e12
  refine v_aload_n hC 1 dX2_become_134 rfl ?_
  refine gf_X2_30_72 hC dX2_become_135 ?_
  refine v_iconst hC (nI 0) dX2_become_138 rfl ?_
  refine v_aload_n hC 0 dX2_become_139 rfl ?_
  refine gf_X2_30_42 hC dX2_become_140 ?_
  refine v_iconst hC (nI 0) dX2_become_143 rfl ?_
  refine v_bipush hC (nI 16) dX2_become_144 rfl ?_
  refine v_copy hC (Nat.le_of_ble_eq_true rfl) (Nat.le_of_ble_eq_true rfl) rfl rfl kw571 kw420 kw419 kw84 (by decide) (by decide) (by decide) (by decide) (by decide) (Nat.le_of_ble_eq_true rfl) (by decide) dX2_become_146 (fun σ13 e13 => ?_)
  replace h := h σ13 e13
  refine v_aload_n hC 1 dX2_become_149 rfl ?_
  refine gf_X2_33_72 hC dX2_become_150 ?_
  refine v_iconst hC (nI 0) dX2_become_153 rfl ?_
  refine v_aload_n hC 0 dX2_become_154 rfl ?_
  refine gf_X2_33_42 hC dX2_become_155 ?_
  refine v_iconst hC (nI 0) dX2_become_158 rfl ?_
  refine v_bipush hC (nI 16) dX2_become_159 rfl ?_
  refine v_copy hC (Nat.le_of_ble_eq_true rfl) (Nat.le_of_ble_eq_true rfl) rfl rfl kw571 kw420 kw419 kw84 (by decide) (by decide) (by decide) (by decide) (by decide) (Nat.le_of_ble_eq_true rfl) (by decide) dX2_become_161 (fun σ14 e14 => ?_)
  replace h := h σ14 e14
  refine v_aload_n hC 1 dX2_become_164 rfl ?_
  refine gf_X2_36_72 hC dX2_become_165 ?_
  refine v_iconst hC (nI 0) dX2_become_168 rfl ?_
  refine v_aload_n hC 0 dX2_become_169 rfl ?_
  refine gf_X2_36_42 hC dX2_become_170 ?_
  refine v_iconst hC (nI 0) dX2_become_173 rfl ?_
  refine v_bipush hC (nI 16) dX2_become_174 rfl ?_
  refine v_copy hC (Nat.le_of_ble_eq_true rfl) (Nat.le_of_ble_eq_true rfl) rfl rfl kw571 kw420 kw419 kw84 (by decide) (by decide) (by decide) (by decide) (by decide) (Nat.le_of_ble_eq_true rfl) (by decide) dX2_become_176 (fun σ15 e15 => ?_)
  replace h := h σ15 e15
  exact v_vret hC hR h dX2_become_179
def rmH_restore : Room := { frames := 2, cells := 0, slots := 0, locals := 81 }
def wH_restore (x1 : Int32) (σ : gM) (Q : Int32 → gM → Prop) : Prop :=
    (x1 < nI 0 → (Q (-1000001 : Int32) σ)) ∧ (¬ (x1 < nI 0) → ((x1 < (nI 2) → ((x1 = nI 0 ∨ x1 = nI 1) ∧ (x1 = nI 0 → (((σ 62 0) = nI 0 → (Q (-1000002 : Int32) σ)) ∧ (¬ ((σ 62 0) = nI 0) → ((x1 = nI 0 ∨ x1 = nI 1) ∧ (x1 = nI 0 → (wK42_become_62  σ (fun (σ7 : gM) => wA_forget  σ7 (fun (σ9 : gM) => Q (nI 1) σ9)))) ∧ (x1 = nI 1 → (wK42_become_72  σ (fun (σ11 : gM) => wA_forget  σ11 (fun (σ13 : gM) => Q (nI 1) σ13)))))))) ∧ (x1 = nI 1 → (((σ 72 0) = nI 0 → (Q (-1000002 : Int32) σ)) ∧ (¬ ((σ 72 0) = nI 0) → ((x1 = nI 0 ∨ x1 = nI 1) ∧ (x1 = nI 0 → (wK42_become_62  σ (fun (σ17 : gM) => wA_forget  σ17 (fun (σ19 : gM) => Q (nI 1) σ19)))) ∧ (x1 = nI 1 → (wK42_become_72  σ (fun (σ21 : gM) => wA_forget  σ21 (fun (σ23 : gM) => Q (nI 1) σ23)))))))))) ∧ (¬ (x1 < (nI 2)) → (Q (-1000001 : Int32) σ))))
set_option maxHeartbeats 4000000 in
set_option maxRecDepth 100000 in
theorem kH_restore (x1 : Int32) (σ : gM) (Q : Int32 → gM → Prop) (h : wH_restore x1 σ Q) : CT yX6_restore cX6_restore 2 (some .int) rmH_restore (fun G => [.ref (gad G 0), .int x1]) σ (gPi Q) := by
  refine c_enter (by decide) (fun _ => Nat.le_of_ble_eq_true rfl) (fun X hC hR => ?_)
  show V X 2 0 [(0, .ref (xad X 0)), (1, .int x1)] [] σ
  replace h : (x1 < nI 0 → (Q (-1000001 : Int32) σ)) ∧ (¬ (x1 < nI 0) → ((x1 < (nI 2) → ((x1 = nI 0 ∨ x1 = nI 1) ∧ (x1 = nI 0 → (((σ 62 0) = nI 0 → (Q (-1000002 : Int32) σ)) ∧ (¬ ((σ 62 0) = nI 0) → ((x1 = nI 0 ∨ x1 = nI 1) ∧ (x1 = nI 0 → (wK42_become_62  σ (fun (σ7 : gM) => wA_forget  σ7 (fun (σ9 : gM) => Q (nI 1) σ9)))) ∧ (x1 = nI 1 → (wK42_become_72  σ (fun (σ11 : gM) => wA_forget  σ11 (fun (σ13 : gM) => Q (nI 1) σ13)))))))) ∧ (x1 = nI 1 → (((σ 72 0) = nI 0 → (Q (-1000002 : Int32) σ)) ∧ (¬ ((σ 72 0) = nI 0) → ((x1 = nI 0 ∨ x1 = nI 1) ∧ (x1 = nI 0 → (wK42_become_62  σ (fun (σ17 : gM) => wA_forget  σ17 (fun (σ19 : gM) => Q (nI 1) σ19)))) ∧ (x1 = nI 1 → (wK42_become_72  σ (fun (σ21 : gM) => wA_forget  σ21 (fun (σ23 : gM) => Q (nI 1) σ23)))))))))) ∧ (¬ (x1 < (nI 2)) → (Q (-1000001 : Int32) σ)))) := h
  refine v_iload_n hC 1 dX6_restore_0 rfl ?_
  refine v_if_lt hC 9 dX6_restore_1 (by decide) (fun c1 => ?_) (fun c1 => ?_)
  · replace h := h.1 c1
    refine v_ldc hC kw377 dX6_restore_9 ?_
    exact v_iret hC hR h dX6_restore_11
  · replace h := h.2 c1
    refine v_iload_n hC 1 dX6_restore_4 rfl ?_
    refine v_iconst hC (nI 2) dX6_restore_5 rfl ?_
    refine v_icmp_lt hC 12 dX6_restore_6 (by decide) (fun c2 => ?_) (fun c2 => ?_)
    · replace h := h.1 c2
      refine v_aload_n hC 0 dX6_restore_12 rfl ?_
      refine gf_X6_32 hC dX6_restore_13 ?_
      refine v_iload_n hC 1 dX6_restore_16 rfl ?_
      obtain ⟨hq, h⟩ := h
      rcases hq with hq | hq
      · replace h := h.1 hq
        refine v_img0 hC hq dX6_restore_17 ?_
        refine gf_X6_168_62 hC dX6_restore_18 ?_
        refine v_if_ne hC 27 dX6_restore_21 (by decide) (fun c4 => ?_) (fun c4 => ?_)
        · replace h := h.2 c4
          refine v_aload_n hC 0 dX6_restore_27 rfl ?_
          refine gf_X6_25 hC dX6_restore_28 ?_
          refine v_aload_n hC 0 dX6_restore_31 rfl ?_
          refine gf_X6_32 hC dX6_restore_32 ?_
          refine v_iload_n hC 1 dX6_restore_35 rfl ?_
          obtain ⟨hq, h⟩ := h
          rcases hq with hq | hq
          · replace h := h.1 hq
            refine v_img0 hC hq dX6_restore_36 ?_
            refine v_callV hC (kK42_become_62  _ _ h) cmK_become ⟨kw574, kw575⟩ kw573 ⟨Nat.le_of_ble_eq_true rfl, Nat.le_of_ble_eq_true rfl⟩ (Nat.le_of_ble_eq_true rfl) rfl (ci := 2) (T := TX2) (N := 15) rfl (As := fun G => [.ref (gad G 62)]) (fun _ => rfl) (fun _ => rfl) (st := []) (Nat.le_of_ble_eq_true rfl) rfl dX6_restore_37 (kk_v (fun σ7 h => ?_))
            refine v_aload_n hC 0 dX6_restore_40 rfl ?_
            refine gf_X6_39 hC dX6_restore_41 ?_
            refine v_callV hC (kA_forget  _ _ h) cmA_forget ⟨kw578, kw579⟩ kw577 ⟨Nat.le_of_ble_eq_true rfl, Nat.le_of_ble_eq_true rfl⟩ (Nat.le_of_ble_eq_true rfl) rfl (ci := 0) (T := TX0) (N := 5) rfl (As := fun G => []) (fun _ => rfl) (fun _ => rfl) (st := []) (Nat.le_of_ble_eq_true rfl) rfl dX6_restore_44 (kk_v (fun σ9 h => ?_))
            refine v_iconst hC (nI 1) dX6_restore_47 rfl ?_
            exact v_iret hC hR h dX6_restore_48
          · replace h := h.2 hq
            refine v_img1 hC hq dX6_restore_36 ?_
            refine v_callV hC (kK42_become_72  _ _ h) cmK_become ⟨kw574, kw575⟩ kw573 ⟨Nat.le_of_ble_eq_true rfl, Nat.le_of_ble_eq_true rfl⟩ (Nat.le_of_ble_eq_true rfl) rfl (ci := 2) (T := TX2) (N := 15) rfl (As := fun G => [.ref (gad G 72)]) (fun _ => rfl) (fun _ => rfl) (st := []) (Nat.le_of_ble_eq_true rfl) rfl dX6_restore_37 (kk_v (fun σ11 h => ?_))
            refine v_aload_n hC 0 dX6_restore_40 rfl ?_
            refine gf_X6_39 hC dX6_restore_41 ?_
            refine v_callV hC (kA_forget  _ _ h) cmA_forget ⟨kw578, kw579⟩ kw577 ⟨Nat.le_of_ble_eq_true rfl, Nat.le_of_ble_eq_true rfl⟩ (Nat.le_of_ble_eq_true rfl) rfl (ci := 0) (T := TX0) (N := 5) rfl (As := fun G => []) (fun _ => rfl) (fun _ => rfl) (st := []) (Nat.le_of_ble_eq_true rfl) rfl dX6_restore_44 (kk_v (fun σ13 h => ?_))
            refine v_iconst hC (nI 1) dX6_restore_47 rfl ?_
            exact v_iret hC hR h dX6_restore_48
        · replace h := h.1 c4
          refine v_ldc hC kw598 dX6_restore_24 ?_
          exact v_iret hC hR h dX6_restore_26
      · replace h := h.2 hq
        refine v_img1 hC hq dX6_restore_17 ?_
        refine gf_X6_168_72 hC dX6_restore_18 ?_
        refine v_if_ne hC 27 dX6_restore_21 (by decide) (fun c14 => ?_) (fun c14 => ?_)
        · replace h := h.2 c14
          refine v_aload_n hC 0 dX6_restore_27 rfl ?_
          refine gf_X6_25 hC dX6_restore_28 ?_
          refine v_aload_n hC 0 dX6_restore_31 rfl ?_
          refine gf_X6_32 hC dX6_restore_32 ?_
          refine v_iload_n hC 1 dX6_restore_35 rfl ?_
          obtain ⟨hq, h⟩ := h
          rcases hq with hq | hq
          · replace h := h.1 hq
            refine v_img0 hC hq dX6_restore_36 ?_
            refine v_callV hC (kK42_become_62  _ _ h) cmK_become ⟨kw574, kw575⟩ kw573 ⟨Nat.le_of_ble_eq_true rfl, Nat.le_of_ble_eq_true rfl⟩ (Nat.le_of_ble_eq_true rfl) rfl (ci := 2) (T := TX2) (N := 15) rfl (As := fun G => [.ref (gad G 62)]) (fun _ => rfl) (fun _ => rfl) (st := []) (Nat.le_of_ble_eq_true rfl) rfl dX6_restore_37 (kk_v (fun σ17 h => ?_))
            refine v_aload_n hC 0 dX6_restore_40 rfl ?_
            refine gf_X6_39 hC dX6_restore_41 ?_
            refine v_callV hC (kA_forget  _ _ h) cmA_forget ⟨kw578, kw579⟩ kw577 ⟨Nat.le_of_ble_eq_true rfl, Nat.le_of_ble_eq_true rfl⟩ (Nat.le_of_ble_eq_true rfl) rfl (ci := 0) (T := TX0) (N := 5) rfl (As := fun G => []) (fun _ => rfl) (fun _ => rfl) (st := []) (Nat.le_of_ble_eq_true rfl) rfl dX6_restore_44 (kk_v (fun σ19 h => ?_))
            refine v_iconst hC (nI 1) dX6_restore_47 rfl ?_
            exact v_iret hC hR h dX6_restore_48
          · replace h := h.2 hq
            refine v_img1 hC hq dX6_restore_36 ?_
            refine v_callV hC (kK42_become_72  _ _ h) cmK_become ⟨kw574, kw575⟩ kw573 ⟨Nat.le_of_ble_eq_true rfl, Nat.le_of_ble_eq_true rfl⟩ (Nat.le_of_ble_eq_true rfl) rfl (ci := 2) (T := TX2) (N := 15) rfl (As := fun G => [.ref (gad G 72)]) (fun _ => rfl) (fun _ => rfl) (st := []) (Nat.le_of_ble_eq_true rfl) rfl dX6_restore_37 (kk_v (fun σ21 h => ?_))
            refine v_aload_n hC 0 dX6_restore_40 rfl ?_
            refine gf_X6_39 hC dX6_restore_41 ?_
            refine v_callV hC (kA_forget  _ _ h) cmA_forget ⟨kw578, kw579⟩ kw577 ⟨Nat.le_of_ble_eq_true rfl, Nat.le_of_ble_eq_true rfl⟩ (Nat.le_of_ble_eq_true rfl) rfl (ci := 0) (T := TX0) (N := 5) rfl (As := fun G => []) (fun _ => rfl) (fun _ => rfl) (st := []) (Nat.le_of_ble_eq_true rfl) rfl dX6_restore_44 (kk_v (fun σ23 h => ?_))
            refine v_iconst hC (nI 1) dX6_restore_47 rfl ?_
            exact v_iret hC hR h dX6_restore_48
        · replace h := h.1 c14
          refine v_ldc hC kw598 dX6_restore_24 ?_
          exact v_iret hC hR h dX6_restore_26
    · replace h := h.2 c2
      refine v_ldc hC kw377 dX6_restore_9 ?_
      exact v_iret hC hR h dX6_restore_11
theorem cmH_restore : CM yX6_restore cX6_restore 2 (some .int) rmH_restore 1 := ⟨kw75, kw887, rfl, rfl, by decide, by decide, by decide +kernel⟩
def rmH_kind : Room := { frames := 1, cells := 0, slots := 0, locals := 21 }
def wH_kind (x1 : Int32) (σ : gM) (Q : Int32 → gM → Prop) : Prop :=
    wH_isNoWare x1 σ (fun (r2 : Int32) (σ2 : gM) => ((r2 = nI 0 → (vp_in x1 16 ∧ True)) ∧ (¬ (r2 = nI 0) → (True))) ∧ (∀ v5 : Int32, v5 = (if r2 = nI 0 then (σ2 47 x1.toNatClampNeg) else (-1000001 : Int32)) → (Q v5 σ2)))
set_option maxHeartbeats 4000000 in
set_option maxRecDepth 100000 in
theorem kH_kind (x1 : Int32) (σ : gM) (Q : Int32 → gM → Prop) (h : wH_kind x1 σ Q) : CT yX6_kind cX6_kind 2 (some .int) rmH_kind (fun G => [.ref (gad G 0), .int x1]) σ (gPi Q) := by
  refine c_enter (by decide) (fun _ => Nat.le_of_ble_eq_true rfl) (fun X hC hR => ?_)
  show V X 2 0 [(0, .ref (xad X 0)), (1, .int x1)] [] σ
  replace h : wH_isNoWare x1 σ (fun (r2 : Int32) (σ2 : gM) => ((r2 = nI 0 → (vp_in x1 16 ∧ True)) ∧ (¬ (r2 = nI 0) → (True))) ∧ (∀ v5 : Int32, v5 = (if r2 = nI 0 then (σ2 47 x1.toNatClampNeg) else (-1000001 : Int32)) → (Q v5 σ2))) := h
  refine v_aload_n hC 0 dX6_kind_0 rfl ?_
  refine v_iload_n hC 1 dX6_kind_1 rfl ?_
  refine v_callV hC (kH_isNoWare _ _ _ h) cmH_isNoWare ⟨kw679, kw20⟩ kw677 ⟨Nat.le_of_ble_eq_true rfl, Nat.le_of_ble_eq_true rfl⟩ (Nat.le_of_ble_eq_true rfl) rfl (ci := 6) (T := TX6) (N := 12) rfl (As := fun G => [.int x1]) (fun _ => rfl) (fun _ => rfl) (st := []) (Nat.le_of_ble_eq_true rfl) rfl dX6_kind_2 (kk_i (fun r2 σ2 h => ?_))
  obtain ⟨hO3, h⟩ := h
  have J3 : ∀ (v5 : Int32) (ev5 : v5 = (if r2 = nI 0 then (σ2 47 x1.toNatClampNeg) else (-1000001 : Int32))), V X 2 22 [] [.int v5] σ2 := by
    intro v5 ev5
    replace h := h v5 ev5
    exact v_iret hC hR h dX6_kind_22
  refine v_if_eq hC 13 dX6_kind_5 (by decide) (fun c3 => ?_) (fun c3 => ?_)
  · replace h := hO3.1 c3
    refine v_aload_n hC 0 dX6_kind_13 rfl ?_
    refine gf_X6_25 hC dX6_kind_14 ?_
    refine gf_X6_327_42 hC dX6_kind_17 ?_
    refine v_iload_n hC 1 dX6_kind_20 rfl ?_
    obtain ⟨hi6, h⟩ := h
    refine v_iald hC (Nat.le_of_ble_eq_true rfl) rfl rfl hi6 dX6_kind_21 ?_
    exact V.sub [] rfl (J3 _ (by rw [if_pos c3]))
  · replace h := hO3.2 c3
    refine v_ldc hC kw377 dX6_kind_8 ?_
    refine v_goto hC 22 dX6_kind_10 (by decide) ?_
    exact V.sub [] rfl (J3 _ (by rw [if_neg c3]))
theorem cmH_kind : CM yX6_kind cX6_kind 2 (some .int) rmH_kind 1 := ⟨kw75, kw891, rfl, rfl, by decide, by decide, by decide +kernel⟩
def rmH_as : Room := { frames := 1, cells := 0, slots := 0, locals := 21 }
def wH_as (x1 : Int32) (x2 : Int32) (σ : gM) (Q : Int32 → gM → Prop) : Prop :=
    wH_isNoWare x1 σ (fun (r2 : Int32) (σ2 : gM) => (r2 = nI 0 → ((x2 < nI 0 → (Q (-1000001 : Int32) σ2)) ∧ (¬ (x2 < nI 0) → ((x2 ≤ (nI 5) → (vp_in x1 16 ∧ (wH_isSuch (σ2 47 x1.toNatClampNeg) x2 σ2 (fun (r8 : Int32) (σ8 : gM) => (r8 = nI 0 → (wH_found (nI 3) σ8 (fun (r11 : Int32) (σ11 : gM) => Q r11 σ11))) ∧ (¬ (r8 = nI 0) → (wH_unfound x1 σ8 (fun (r13 : Int32) (σ13 : gM) => Q r13 σ13))))))) ∧ (¬ (x2 ≤ (nI 5)) → (Q (-1000001 : Int32) σ2)))))) ∧ (¬ (r2 = nI 0) → (Q (-1000001 : Int32) σ2)))
set_option maxHeartbeats 4000000 in
set_option maxRecDepth 100000 in
theorem kH_as (x1 : Int32) (x2 : Int32) (σ : gM) (Q : Int32 → gM → Prop) (h : wH_as x1 x2 σ Q) : CT yX6_as cX6_as 3 (some .int) rmH_as (fun G => [.ref (gad G 0), .int x1, .int x2]) σ (gPi Q) := by
  refine c_enter (by decide) (fun _ => Nat.le_of_ble_eq_true rfl) (fun X hC hR => ?_)
  show V X 3 0 [(0, .ref (xad X 0)), (1, .int x1), (2, .int x2)] [] σ
  replace h : wH_isNoWare x1 σ (fun (r2 : Int32) (σ2 : gM) => (r2 = nI 0 → ((x2 < nI 0 → (Q (-1000001 : Int32) σ2)) ∧ (¬ (x2 < nI 0) → ((x2 ≤ (nI 5) → (vp_in x1 16 ∧ (wH_isSuch (σ2 47 x1.toNatClampNeg) x2 σ2 (fun (r8 : Int32) (σ8 : gM) => (r8 = nI 0 → (wH_found (nI 3) σ8 (fun (r11 : Int32) (σ11 : gM) => Q r11 σ11))) ∧ (¬ (r8 = nI 0) → (wH_unfound x1 σ8 (fun (r13 : Int32) (σ13 : gM) => Q r13 σ13))))))) ∧ (¬ (x2 ≤ (nI 5)) → (Q (-1000001 : Int32) σ2)))))) ∧ (¬ (r2 = nI 0) → (Q (-1000001 : Int32) σ2))) := h
  refine v_aload_n hC 0 dX6_as_0 rfl ?_
  refine v_iload_n hC 1 dX6_as_1 rfl ?_
  refine v_callV hC (kH_isNoWare _ _ _ h) cmH_isNoWare ⟨kw679, kw20⟩ kw677 ⟨Nat.le_of_ble_eq_true rfl, Nat.le_of_ble_eq_true rfl⟩ (Nat.le_of_ble_eq_true rfl) rfl (ci := 6) (T := TX6) (N := 12) rfl (As := fun G => [.int x1]) (fun _ => rfl) (fun _ => rfl) (st := []) (Nat.le_of_ble_eq_true rfl) rfl dX6_as_2 (kk_i (fun r2 σ2 h => ?_))
  refine v_if_ne hC 17 dX6_as_5 (by decide) (fun c3 => ?_) (fun c3 => ?_)
  · replace h := h.2 c3
    refine v_ldc hC kw377 dX6_as_17 ?_
    exact v_iret hC hR h dX6_as_19
  · replace h := h.1 c3
    refine v_iload_n hC 2 dX6_as_8 rfl ?_
    refine v_if_lt hC 17 dX6_as_9 (by decide) (fun c4 => ?_) (fun c4 => ?_)
    · replace h := h.1 c4
      refine v_ldc hC kw377 dX6_as_17 ?_
      exact v_iret hC hR h dX6_as_19
    · replace h := h.2 c4
      refine v_iload_n hC 2 dX6_as_12 rfl ?_
      refine v_iconst hC (nI 5) dX6_as_13 rfl ?_
      refine v_icmp_le hC 20 dX6_as_14 (by decide) (fun c5 => ?_) (fun c5 => ?_)
      · replace h := h.1 c5
        refine v_aload_n hC 0 dX6_as_20 rfl ?_
        refine gf_X6_25 hC dX6_as_21 ?_
        refine gf_X6_327_42 hC dX6_as_24 ?_
        refine v_iload_n hC 1 dX6_as_27 rfl ?_
        obtain ⟨hi6, h⟩ := h
        refine v_iald hC (Nat.le_of_ble_eq_true rfl) rfl rfl hi6 dX6_as_28 ?_
        refine v_iload_n hC 2 dX6_as_29 rfl ?_
        refine v_callS hC (kH_isSuch _ _ _ _ h) cmH_isSuch kw631 kw896 ⟨Nat.le_of_ble_eq_true rfl, Nat.le_of_ble_eq_true rfl⟩ (fun _ => rfl) (st := []) (Nat.le_of_ble_eq_true rfl) rfl dX6_as_30 (kk_i (fun r8 σ8 h => ?_))
        refine v_if_eq hC 44 dX6_as_33 (by decide) (fun c9 => ?_) (fun c9 => ?_)
        · replace h := h.1 c9
          refine v_aload_n hC 0 dX6_as_44 rfl ?_
          refine v_iconst hC (nI 3) dX6_as_45 rfl ?_
          refine v_callV hC (kH_found _ _ _ h) cmH_found ⟨kw380, kw1⟩ kw378 ⟨Nat.le_of_ble_eq_true rfl, Nat.le_of_ble_eq_true rfl⟩ (Nat.le_of_ble_eq_true rfl) rfl (ci := 6) (T := TX6) (N := 12) rfl (As := fun G => [.int (nI 3)]) (fun _ => rfl) (fun _ => rfl) (st := []) (Nat.le_of_ble_eq_true rfl) rfl dX6_as_46 (kk_i (fun r11 σ11 h => ?_))
          exact v_iret hC hR h dX6_as_49
        · replace h := h.2 c9
          refine v_aload_n hC 0 dX6_as_36 rfl ?_
          refine v_iload_n hC 1 dX6_as_37 rfl ?_
          refine v_callV hC (kH_unfound _ _ _ h) cmH_unfound ⟨kw392, kw2⟩ kw390 ⟨Nat.le_of_ble_eq_true rfl, Nat.le_of_ble_eq_true rfl⟩ (Nat.le_of_ble_eq_true rfl) rfl (ci := 6) (T := TX6) (N := 12) rfl (As := fun G => [.int x1]) (fun _ => rfl) (fun _ => rfl) (st := []) (Nat.le_of_ble_eq_true rfl) rfl dX6_as_38 (kk_i (fun r13 σ13 h => ?_))
          refine v_goto hC 49 dX6_as_41 (by decide) ?_
          exact v_iret hC hR h dX6_as_49
      · replace h := h.2 c5
        refine v_ldc hC kw377 dX6_as_17 ?_
        exact v_iret hC hR h dX6_as_19
theorem cmH_as : CM yX6_as cX6_as 3 (some .int) rmH_as 2 := ⟨kw75, kw895, rfl, rfl, by decide, by decide, by decide +kernel⟩
def rmH_leave : Room := { frames := 0, cells := 0, slots := 0, locals := 0 }
def wH_leave (x1 : Int32) (σ : gM) (Q : gM → Prop) : Prop :=
    ((nI 16) ≤ (σ 0 9) → (Q σ)) ∧ (¬ ((nI 16) ≤ (σ 0 9)) → (vp_in (σ 0 9) 16 ∧ (∀ σ2 : gM, σ2 = gU σ 40 (σ 0 9).toNatClampNeg x1 → (∀ σ3 : gM, σ3 = gU σ2 0 9 ((σ2 0 9) + (nI 1)) → (Q σ3)))))
set_option maxHeartbeats 4000000 in
set_option maxRecDepth 100000 in
theorem kH_leave (x1 : Int32) (σ : gM) (Q : gM → Prop) (h : wH_leave x1 σ Q) : CT yX6_leave cX6_leave 2 none rmH_leave (fun G => [.ref (gad G 0), .int x1]) σ (gPv Q) := by
  refine c_enter (by decide) (fun _ => Nat.le_of_ble_eq_true rfl) (fun X hC hR => ?_)
  show V X 2 0 [(0, .ref (xad X 0)), (1, .int x1)] [] σ
  replace h : ((nI 16) ≤ (σ 0 9) → (Q σ)) ∧ (¬ ((nI 16) ≤ (σ 0 9)) → (vp_in (σ 0 9) 16 ∧ (∀ σ2 : gM, σ2 = gU σ 40 (σ 0 9).toNatClampNeg x1 → (∀ σ3 : gM, σ3 = gU σ2 0 9 ((σ2 0 9) + (nI 1)) → (Q σ3))))) := h
  refine v_aload_n hC 0 dX6_leave_0 rfl ?_
  refine gf_X6_333 hC dX6_leave_1 ?_
  refine v_bipush hC (nI 16) dX6_leave_4 rfl ?_
  refine v_icmp_ge hC 29 dX6_leave_6 (by decide) (fun c1 => ?_) (fun c1 => ?_)
  · replace h := h.1 c1
    exact v_vret hC hR h dX6_leave_29
  · replace h := h.2 c1
    refine v_aload_n hC 0 dX6_leave_9 rfl ?_
    refine gf_X6_57 hC dX6_leave_10 ?_
    refine v_aload_n hC 0 dX6_leave_13 rfl ?_
    refine gf_X6_333 hC dX6_leave_14 ?_
    refine v_iload_n hC 1 dX6_leave_17 rfl ?_
    obtain ⟨hi2, h⟩ := h
    refine v_iast hC (Nat.le_of_ble_eq_true rfl) rfl rfl hi2 dX6_leave_18 (fun σ2 e2 => ?_)
    replace h := h σ2 e2
    refine v_aload_n hC 0 dX6_leave_19 rfl ?_
    refine v_dup hC dX6_leave_20 rfl ?_
    refine gf_X6_333 hC dX6_leave_21 ?_
    refine v_iconst hC (nI 1) dX6_leave_24 rfl ?_
    refine v_iadd hC dX6_leave_25 ?_
    refine pf_X6_333 hC dX6_leave_26 (fun σ3 e3 => ?_)
    replace h := h σ3 e3
    exact v_vret hC hR h dX6_leave_29
theorem cmH_leave : CM yX6_leave cX6_leave 2 none rmH_leave 1 := ⟨kw75, kw908, rfl, rfl, by decide, by decide, by decide +kernel⟩
def rmH_sizeLent : Room := { frames := 1, cells := 0, slots := 0, locals := 21 }
def wH_sizeLent (x1 : Int32) (σ : gM) (Q : Int32 → gM → Prop) : Prop :=
    wH_leave (nI 10) σ (fun (σ2 : gM) => vp_in x1 16 ∧ (Q (σ2 48 x1.toNatClampNeg) σ2))
set_option maxHeartbeats 4000000 in
set_option maxRecDepth 100000 in
theorem kH_sizeLent (x1 : Int32) (σ : gM) (Q : Int32 → gM → Prop) (h : wH_sizeLent x1 σ Q) : CT yX6_sizeLent cX6_sizeLent 2 (some .int) rmH_sizeLent (fun G => [.ref (gad G 0), .int x1]) σ (gPi Q) := by
  refine c_enter (by decide) (fun _ => Nat.le_of_ble_eq_true rfl) (fun X hC hR => ?_)
  show V X 2 0 [(0, .ref (xad X 0)), (1, .int x1)] [] σ
  replace h : wH_leave (nI 10) σ (fun (σ2 : gM) => vp_in x1 16 ∧ (Q (σ2 48 x1.toNatClampNeg) σ2)) := h
  refine v_aload_n hC 0 dX6_sizeLent_0 rfl ?_
  refine v_bipush hC (nI 10) dX6_sizeLent_1 rfl ?_
  refine v_callV hC (kH_leave _ _ _ h) cmH_leave ⟨kw907, kw34⟩ kw905 ⟨Nat.le_of_ble_eq_true rfl, Nat.le_of_ble_eq_true rfl⟩ (Nat.le_of_ble_eq_true rfl) rfl (ci := 6) (T := TX6) (N := 12) rfl (As := fun G => [.int (nI 10)]) (fun _ => rfl) (fun _ => rfl) (st := []) (Nat.le_of_ble_eq_true rfl) rfl dX6_sizeLent_3 (kk_v (fun σ2 h => ?_))
  refine v_aload_n hC 0 dX6_sizeLent_6 rfl ?_
  refine gf_X6_25 hC dX6_sizeLent_7 ?_
  refine gf_X6_209_42 hC dX6_sizeLent_10 ?_
  refine v_iload_n hC 1 dX6_sizeLent_13 rfl ?_
  obtain ⟨hi3, h⟩ := h
  refine v_iald hC (Nat.le_of_ble_eq_true rfl) rfl rfl hi3 dX6_sizeLent_14 ?_
  exact v_iret hC hR h dX6_sizeLent_15
theorem cmH_sizeLent : CM yX6_sizeLent cX6_sizeLent 2 (some .int) rmH_sizeLent 1 := ⟨kw75, kw912, rfl, rfl, by decide, by decide, by decide +kernel⟩
def rmH_sizeOfCloth : Room := { frames := 2, cells := 0, slots := 0, locals := 42 }
def wH_sizeOfCloth_b29 (Q : Int32 → gM → Prop)  (x1 : Int32) (x2 : Int32) (σ : gM) : Prop :=
    wH_leave (nI 13) σ (fun (σ6 : gM) => wH_sizeLent x1 σ6 (fun (r8 : Int32) (σ8 : gM) => ∀ x3_9 : Int32, x3_9 = (r8 - (nI 100)) → (∀ v11 : Int32, v11 = (if x2 = nI 0 then x3_9 else ((nI 2) * x3_9)) → (Q v11 σ8))))
def wH_sizeOfCloth (x1 : Int32) (σ : gM) (Q : Int32 → gM → Prop) : Prop :=
    vp_in x1 16 ∧ (∀ v3 : Int32, v3 = (if (σ 47 x1.toNatClampNeg) = (nI 5) then (nI 1) else (nI 0)) → ((v3 = nI 0 → (wH_sizeOfCloth_b29 Q x1 v3 σ)) ∧ (¬ (v3 = nI 0) → (wH_leave (nI 14) σ (fun (σ13 : gM) => wH_sizeOfCloth_b29 Q x1 v3 σ13)))))
set_option maxHeartbeats 4000000 in
set_option maxRecDepth 100000 in
theorem tH_sizeOfCloth_b29 {X : gX} {Q : Int32 → gM → Prop} (hC : VC X cX6_sizeOfCloth RX6 4 rmH_sizeOfCloth) (hR : VR X (some .int) (gPi Q))  (x1 : Int32) (x2 : Int32) (σ : gM) (h : wH_sizeOfCloth_b29 Q  x1 x2 σ) : V X 4 29 [(0, .ref (xad X 0)), (1, .int x1), (2, .int x2)] [] σ := by
  replace h : wH_leave (nI 13) σ (fun (σ6 : gM) => wH_sizeLent x1 σ6 (fun (r8 : Int32) (σ8 : gM) => ∀ x3_9 : Int32, x3_9 = (r8 - (nI 100)) → (∀ v11 : Int32, v11 = (if x2 = nI 0 then x3_9 else ((nI 2) * x3_9)) → (Q v11 σ8)))) := h
  refine v_aload_n hC 0 dX6_sizeOfCloth_29 rfl ?_
  refine v_bipush hC (nI 13) dX6_sizeOfCloth_30 rfl ?_
  refine v_callV hC (kH_leave _ _ _ h) cmH_leave ⟨kw907, kw34⟩ kw905 ⟨Nat.le_of_ble_eq_true rfl, Nat.le_of_ble_eq_true rfl⟩ (Nat.le_of_ble_eq_true rfl) rfl (ci := 6) (T := TX6) (N := 12) rfl (As := fun G => [.int (nI 13)]) (fun _ => rfl) (fun _ => rfl) (st := []) (Nat.le_of_ble_eq_true rfl) rfl dX6_sizeOfCloth_32 (kk_v (fun σ6 h => ?_))
  refine v_aload_n hC 0 dX6_sizeOfCloth_35 rfl ?_
  refine v_iload_n hC 1 dX6_sizeOfCloth_36 rfl ?_
  refine v_callV hC (kH_sizeLent _ _ _ h) cmH_sizeLent ⟨kw911, kw35⟩ kw909 ⟨Nat.le_of_ble_eq_true rfl, Nat.le_of_ble_eq_true rfl⟩ (Nat.le_of_ble_eq_true rfl) rfl (ci := 6) (T := TX6) (N := 12) rfl (As := fun G => [.int x1]) (fun _ => rfl) (fun _ => rfl) (st := []) (Nat.le_of_ble_eq_true rfl) rfl dX6_sizeOfCloth_37 (kk_i (fun r8 σ8 h => ?_))
  refine v_bipush hC (nI 100) dX6_sizeOfCloth_40 rfl ?_
  refine v_isub hC dX6_sizeOfCloth_42 ?_
  refine v_istore_nN hC dX6_sizeOfCloth_43 (by decide) (lo2 := fun x3_9 => [(3, .int x3_9), (0, .ref (xad X 0)), (1, .int x1), (2, .int x2)]) (fun _ => rfl) (fun x3_9 e9 => ?_)
  replace h := h x3_9 e9
  refine v_iload_n hC 3 dX6_sizeOfCloth_44 rfl ?_
  have J10 : ∀ (v11 : Int32) (ev11 : v11 = (if x2 = nI 0 then x3_9 else ((nI 2) * x3_9))), V X 4 55 [] [.int v11] σ8 := by
    intro v11 ev11
    replace h := h v11 ev11
    exact v_iret hC hR h dX6_sizeOfCloth_55
  refine v_if_eq hC 54 dX6_sizeOfCloth_45 (by decide) (fun c10 => ?_) (fun c10 => ?_)
  · refine v_iload_n hC 0 dX6_sizeOfCloth_54 rfl ?_
    exact V.sub [] rfl (J10 _ (by rw [if_pos c10]))
  · refine v_iconst hC (nI 2) dX6_sizeOfCloth_48 rfl ?_
    refine v_iload_n hC 0 dX6_sizeOfCloth_49 rfl ?_
    refine v_imul hC dX6_sizeOfCloth_50 ?_
    refine v_goto hC 55 dX6_sizeOfCloth_51 (by decide) ?_
    exact V.sub [] rfl (J10 _ (by rw [if_neg c10]))
set_option maxHeartbeats 4000000 in
set_option maxRecDepth 100000 in
theorem kH_sizeOfCloth (x1 : Int32) (σ : gM) (Q : Int32 → gM → Prop) (h : wH_sizeOfCloth x1 σ Q) : CT yX6_sizeOfCloth cX6_sizeOfCloth 4 (some .int) rmH_sizeOfCloth (fun G => [.ref (gad G 0), .int x1]) σ (gPi Q) := by
  refine c_enter (by decide) (fun _ => Nat.le_of_ble_eq_true rfl) (fun X hC hR => ?_)
  show V X 4 0 [(0, .ref (xad X 0)), (1, .int x1)] [] σ
  replace h : vp_in x1 16 ∧ (∀ v3 : Int32, v3 = (if (σ 47 x1.toNatClampNeg) = (nI 5) then (nI 1) else (nI 0)) → ((v3 = nI 0 → (wH_sizeOfCloth_b29 Q x1 v3 σ)) ∧ (¬ (v3 = nI 0) → (wH_leave (nI 14) σ (fun (σ13 : gM) => wH_sizeOfCloth_b29 Q x1 v3 σ13))))) := h
  refine v_aload_n hC 0 dX6_sizeOfCloth_0 rfl ?_
  refine gf_X6_25 hC dX6_sizeOfCloth_1 ?_
  refine gf_X6_327_42 hC dX6_sizeOfCloth_4 ?_
  refine v_iload_n hC 1 dX6_sizeOfCloth_7 rfl ?_
  obtain ⟨hi1, h⟩ := h
  refine v_iald hC (Nat.le_of_ble_eq_true rfl) rfl rfl hi1 dX6_sizeOfCloth_8 ?_
  refine v_iconst hC (nI 5) dX6_sizeOfCloth_9 rfl ?_
  have J2 : ∀ (v3 : Int32) (ev3 : v3 = (if (σ 47 x1.toNatClampNeg) = (nI 5) then (nI 1) else (nI 0))), V X 4 18 [(0, .ref (xad X 0)), (1, .int x1)] [.int v3] σ := by
    intro v3 ev3
    replace h := h v3 ev3
    refine v_istore_n hC dX6_sizeOfCloth_18 (by decide) rfl ?_
    refine v_iload_n hC 0 dX6_sizeOfCloth_19 rfl ?_
    refine v_if_eq hC 29 dX6_sizeOfCloth_20 (by decide) (fun c4 => ?_) (fun c4 => ?_)
    · replace h := h.1 c4
      exact V.sub [1, 2, 0] rfl (tH_sizeOfCloth_b29 hC hR  _ _ _ h)
    · replace h := h.2 c4
      refine v_aload_n hC 1 dX6_sizeOfCloth_23 rfl ?_
      refine v_bipush hC (nI 14) dX6_sizeOfCloth_24 rfl ?_
      refine v_callV hC (kH_leave _ _ _ h) cmH_leave ⟨kw907, kw34⟩ kw905 ⟨Nat.le_of_ble_eq_true rfl, Nat.le_of_ble_eq_true rfl⟩ (Nat.le_of_ble_eq_true rfl) rfl (ci := 6) (T := TX6) (N := 12) rfl (As := fun G => [.int (nI 14)]) (fun _ => rfl) (fun _ => rfl) (st := []) (Nat.le_of_ble_eq_true rfl) rfl dX6_sizeOfCloth_26 (kk_v (fun σ13 h => ?_))
      exact V.sub [1, 2, 0] rfl (tH_sizeOfCloth_b29 hC hR  _ _ _ h)
  refine v_icmp_ne hC 17 dX6_sizeOfCloth_10 (by decide) (fun c2 => ?_) (fun c2 => ?_)
  · refine v_iconst hC (nI 0) dX6_sizeOfCloth_17 rfl ?_
    exact V.sub [0, 1] rfl (J2 _ (by rw [if_neg c2]))
  · refine v_iconst hC (nI 1) dX6_sizeOfCloth_13 rfl ?_
    refine v_goto hC 18 dX6_sizeOfCloth_14 (by decide) ?_
    exact V.sub [0, 1] rfl (J2 _ (by rw [if_pos c2]))
theorem cmH_sizeOfCloth : CM yX6_sizeOfCloth cX6_sizeOfCloth 4 (some .int) rmH_sizeOfCloth 1 := ⟨kw75, kw924, rfl, rfl, by decide, by decide, by decide +kernel⟩
def rmH_markLent : Room := { frames := 1, cells := 0, slots := 0, locals := 21 }
def wH_markLent (x1 : Int32) (σ : gM) (Q : Int32 → gM → Prop) : Prop :=
    wH_leave (nI 20) σ (fun (σ2 : gM) => Q x1 σ2)
set_option maxHeartbeats 4000000 in
set_option maxRecDepth 100000 in
theorem kH_markLent (x1 : Int32) (σ : gM) (Q : Int32 → gM → Prop) (h : wH_markLent x1 σ Q) : CT yX6_markLent cX6_markLent 2 (some .int) rmH_markLent (fun G => [.ref (gad G 0), .int x1]) σ (gPi Q) := by
  refine c_enter (by decide) (fun _ => Nat.le_of_ble_eq_true rfl) (fun X hC hR => ?_)
  show V X 2 0 [(0, .ref (xad X 0)), (1, .int x1)] [] σ
  replace h : wH_leave (nI 20) σ (fun (σ2 : gM) => Q x1 σ2) := h
  refine v_aload_n hC 0 dX6_markLent_0 rfl ?_
  refine v_bipush hC (nI 20) dX6_markLent_1 rfl ?_
  refine v_callV hC (kH_leave _ _ _ h) cmH_leave ⟨kw907, kw34⟩ kw905 ⟨Nat.le_of_ble_eq_true rfl, Nat.le_of_ble_eq_true rfl⟩ (Nat.le_of_ble_eq_true rfl) rfl (ci := 6) (T := TX6) (N := 12) rfl (As := fun G => [.int (nI 20)]) (fun _ => rfl) (fun _ => rfl) (st := []) (Nat.le_of_ble_eq_true rfl) rfl dX6_markLent_3 (kk_v (fun σ2 h => ?_))
  refine v_iload_n hC 1 dX6_markLent_6 rfl ?_
  exact v_iret hC hR h dX6_markLent_7
theorem cmH_markLent : CM yX6_markLent cX6_markLent 2 (some .int) rmH_markLent 1 := ⟨kw75, kw920, rfl, rfl, by decide, by decide, by decide +kernel⟩
def rmH_markOfCloth : Room := { frames := 3, cells := 0, slots := 0, locals := 65 }
def wH_markOfCloth (x1 : Int32) (σ : gM) (Q : Int32 → gM → Prop) : Prop :=
    wH_leave (nI 23) σ (fun (σ2 : gM) => wH_markLent x1 σ2 (fun (r4 : Int32) (σ4 : gM) => wH_sizeOfCloth x1 σ4 (fun (r6 : Int32) (σ6 : gM) => Q (r4 - r6) σ6)))
set_option maxHeartbeats 4000000 in
set_option maxRecDepth 100000 in
theorem kH_markOfCloth (x1 : Int32) (σ : gM) (Q : Int32 → gM → Prop) (h : wH_markOfCloth x1 σ Q) : CT yX6_markOfCloth cX6_markOfCloth 2 (some .int) rmH_markOfCloth (fun G => [.ref (gad G 0), .int x1]) σ (gPi Q) := by
  refine c_enter (by decide) (fun _ => Nat.le_of_ble_eq_true rfl) (fun X hC hR => ?_)
  show V X 2 0 [(0, .ref (xad X 0)), (1, .int x1)] [] σ
  replace h : wH_leave (nI 23) σ (fun (σ2 : gM) => wH_markLent x1 σ2 (fun (r4 : Int32) (σ4 : gM) => wH_sizeOfCloth x1 σ4 (fun (r6 : Int32) (σ6 : gM) => Q (r4 - r6) σ6))) := h
  refine v_aload_n hC 0 dX6_markOfCloth_0 rfl ?_
  refine v_bipush hC (nI 23) dX6_markOfCloth_1 rfl ?_
  refine v_callV hC (kH_leave _ _ _ h) cmH_leave ⟨kw907, kw34⟩ kw905 ⟨Nat.le_of_ble_eq_true rfl, Nat.le_of_ble_eq_true rfl⟩ (Nat.le_of_ble_eq_true rfl) rfl (ci := 6) (T := TX6) (N := 12) rfl (As := fun G => [.int (nI 23)]) (fun _ => rfl) (fun _ => rfl) (st := []) (Nat.le_of_ble_eq_true rfl) rfl dX6_markOfCloth_3 (kk_v (fun σ2 h => ?_))
  refine v_aload_n hC 0 dX6_markOfCloth_6 rfl ?_
  refine v_iload_n hC 1 dX6_markOfCloth_7 rfl ?_
  refine v_callV hC (kH_markLent _ _ _ h) cmH_markLent ⟨kw919, kw37⟩ kw917 ⟨Nat.le_of_ble_eq_true rfl, Nat.le_of_ble_eq_true rfl⟩ (Nat.le_of_ble_eq_true rfl) rfl (ci := 6) (T := TX6) (N := 12) rfl (As := fun G => [.int x1]) (fun _ => rfl) (fun _ => rfl) (st := []) (Nat.le_of_ble_eq_true rfl) rfl dX6_markOfCloth_8 (kk_i (fun r4 σ4 h => ?_))
  refine v_aload_n hC 0 dX6_markOfCloth_11 rfl ?_
  refine v_iload_n hC 1 dX6_markOfCloth_12 rfl ?_
  refine v_callV hC (kH_sizeOfCloth _ _ _ h) cmH_sizeOfCloth ⟨kw923, kw38⟩ kw921 ⟨Nat.le_of_ble_eq_true rfl, Nat.le_of_ble_eq_true rfl⟩ (Nat.le_of_ble_eq_true rfl) rfl (ci := 6) (T := TX6) (N := 12) rfl (As := fun G => [.int x1]) (fun _ => rfl) (fun _ => rfl) (st := [.int r4]) (Nat.le_of_ble_eq_true rfl) rfl dX6_markOfCloth_13 (kk_i (fun r6 σ6 h => ?_))
  refine v_isub hC dX6_markOfCloth_16 ?_
  exact v_iret hC hR h dX6_markOfCloth_17
theorem cmH_markOfCloth : CM yX6_markOfCloth cX6_markOfCloth 2 (some .int) rmH_markOfCloth 1 := ⟨kw75, kw928, rfl, rfl, by decide, by decide, by decide +kernel⟩
def rmH_markOfFruit : Room := { frames := 2, cells := 0, slots := 0, locals := 42 }
def wH_markOfFruit_b35 (Q : Int32 → gM → Prop)  (x1 : Int32) (x2 : Int32) (σ : gM) : Prop :=
    wH_leave (nI 21) σ (fun (σ7 : gM) => wH_markLent x1 σ7 (fun (r9 : Int32) (σ9 : gM) => vp_in x1 16 ∧ (∀ x3_11 : Int32, x3_11 = (r9 + (σ9 49 x1.toNatClampNeg)) → ((x2 = (nI 2) → (Q ((nI 2) * x3_11) σ9)) ∧ (¬ (x2 = (nI 2)) → (∀ v14 : Int32, v14 = (if x2 = (nI 3) then (x3_11 - (nI 1000)) else x3_11) → (Q v14 σ9)))))))
def wH_markOfFruit (x1 : Int32) (σ : gM) (Q : Int32 → gM → Prop) : Prop :=
    vp_in x1 16 ∧ (∀ x2_2 : Int32, x2_2 = (σ 47 x1.toNatClampNeg) → ((x2_2 = (nI 2) → (wH_leave (nI 24) σ (fun (σ5 : gM) => wH_markOfFruit_b35 Q x1 x2_2 σ5))) ∧ (¬ (x2_2 = (nI 2)) → ((x2_2 = (nI 3) → (wH_leave (nI 22) σ (fun (σ17 : gM) => wH_markOfFruit_b35 Q x1 x2_2 σ17))) ∧ (¬ (x2_2 = (nI 3)) → (wH_markOfFruit_b35 Q x1 x2_2 σ))))))
set_option maxHeartbeats 4000000 in
set_option maxRecDepth 100000 in
theorem tH_markOfFruit_b35 {X : gX} {Q : Int32 → gM → Prop} (hC : VC X cX6_markOfFruit RX6 4 rmH_markOfFruit) (hR : VR X (some .int) (gPi Q))  (x1 : Int32) (x2 : Int32) (σ : gM) (h : wH_markOfFruit_b35 Q  x1 x2 σ) : V X 4 35 [(0, .ref (xad X 0)), (1, .int x1), (2, .int x2)] [] σ := by
  replace h : wH_leave (nI 21) σ (fun (σ7 : gM) => wH_markLent x1 σ7 (fun (r9 : Int32) (σ9 : gM) => vp_in x1 16 ∧ (∀ x3_11 : Int32, x3_11 = (r9 + (σ9 49 x1.toNatClampNeg)) → ((x2 = (nI 2) → (Q ((nI 2) * x3_11) σ9)) ∧ (¬ (x2 = (nI 2)) → (∀ v14 : Int32, v14 = (if x2 = (nI 3) then (x3_11 - (nI 1000)) else x3_11) → (Q v14 σ9))))))) := h
  refine v_aload_n hC 0 dX6_markOfFruit_35 rfl ?_
  refine v_bipush hC (nI 21) dX6_markOfFruit_36 rfl ?_
  refine v_callV hC (kH_leave _ _ _ h) cmH_leave ⟨kw907, kw34⟩ kw905 ⟨Nat.le_of_ble_eq_true rfl, Nat.le_of_ble_eq_true rfl⟩ (Nat.le_of_ble_eq_true rfl) rfl (ci := 6) (T := TX6) (N := 12) rfl (As := fun G => [.int (nI 21)]) (fun _ => rfl) (fun _ => rfl) (st := []) (Nat.le_of_ble_eq_true rfl) rfl dX6_markOfFruit_38 (kk_v (fun σ7 h => ?_))
  refine v_aload_n hC 0 dX6_markOfFruit_41 rfl ?_
  refine v_iload_n hC 1 dX6_markOfFruit_42 rfl ?_
  refine v_callV hC (kH_markLent _ _ _ h) cmH_markLent ⟨kw919, kw37⟩ kw917 ⟨Nat.le_of_ble_eq_true rfl, Nat.le_of_ble_eq_true rfl⟩ (Nat.le_of_ble_eq_true rfl) rfl (ci := 6) (T := TX6) (N := 12) rfl (As := fun G => [.int x1]) (fun _ => rfl) (fun _ => rfl) (st := []) (Nat.le_of_ble_eq_true rfl) rfl dX6_markOfFruit_43 (kk_i (fun r9 σ9 h => ?_))
  refine v_aload_n hC 0 dX6_markOfFruit_46 rfl ?_
  refine gf_X6_25 hC dX6_markOfFruit_47 ?_
  refine gf_X6_212_42 hC dX6_markOfFruit_50 ?_
  refine v_iload_n hC 1 dX6_markOfFruit_53 rfl ?_
  obtain ⟨hi10, h⟩ := h
  refine v_iald hC (Nat.le_of_ble_eq_true rfl) rfl rfl hi10 dX6_markOfFruit_54 ?_
  refine v_iadd hC dX6_markOfFruit_55 ?_
  refine v_istore_nN hC dX6_markOfFruit_56 (by decide) (lo2 := fun x3_11 => [(3, .int x3_11), (0, .ref (xad X 0)), (1, .int x1), (2, .int x2)]) (fun _ => rfl) (fun x3_11 e11 => ?_)
  replace h := h x3_11 e11
  refine v_iload_n hC 3 dX6_markOfFruit_57 rfl ?_
  refine v_iconst hC (nI 2) dX6_markOfFruit_58 rfl ?_
  refine v_icmp_ne hC 66 dX6_markOfFruit_59 (by decide) (fun c12 => ?_) (fun c12 => ?_)
  · replace h := h.2 c12
    refine v_iload_n hC 3 dX6_markOfFruit_66 rfl ?_
    refine v_iconst hC (nI 3) dX6_markOfFruit_67 rfl ?_
    have J13 : ∀ (v14 : Int32) (ev14 : v14 = (if x2 = (nI 3) then (x3_11 - (nI 1000)) else x3_11)), V X 4 80 [] [.int v14] σ9 := by
      intro v14 ev14
      replace h := h v14 ev14
      exact v_iret hC hR h dX6_markOfFruit_80
    refine v_icmp_ne hC 79 dX6_markOfFruit_68 (by decide) (fun c13 => ?_) (fun c13 => ?_)
    · refine v_iload_n hC 0 dX6_markOfFruit_79 rfl ?_
      exact V.sub [] rfl (J13 _ (by rw [if_neg c13]))
    · refine v_iload_n hC 0 dX6_markOfFruit_71 rfl ?_
      refine v_sipush hC (nI 1000) dX6_markOfFruit_72 rfl ?_
      refine v_isub hC dX6_markOfFruit_75 ?_
      refine v_goto hC 80 dX6_markOfFruit_76 (by decide) ?_
      exact V.sub [] rfl (J13 _ (by rw [if_pos c13]))
  · replace h := h.1 c12
    refine v_iconst hC (nI 2) dX6_markOfFruit_62 rfl ?_
    refine v_iload_n hC 0 dX6_markOfFruit_63 rfl ?_
    refine v_imul hC dX6_markOfFruit_64 ?_
    exact v_iret hC hR h dX6_markOfFruit_65
set_option maxHeartbeats 4000000 in
set_option maxRecDepth 100000 in
theorem kH_markOfFruit (x1 : Int32) (σ : gM) (Q : Int32 → gM → Prop) (h : wH_markOfFruit x1 σ Q) : CT yX6_markOfFruit cX6_markOfFruit 4 (some .int) rmH_markOfFruit (fun G => [.ref (gad G 0), .int x1]) σ (gPi Q) := by
  refine c_enter (by decide) (fun _ => Nat.le_of_ble_eq_true rfl) (fun X hC hR => ?_)
  show V X 4 0 [(0, .ref (xad X 0)), (1, .int x1)] [] σ
  replace h : vp_in x1 16 ∧ (∀ x2_2 : Int32, x2_2 = (σ 47 x1.toNatClampNeg) → ((x2_2 = (nI 2) → (wH_leave (nI 24) σ (fun (σ5 : gM) => wH_markOfFruit_b35 Q x1 x2_2 σ5))) ∧ (¬ (x2_2 = (nI 2)) → ((x2_2 = (nI 3) → (wH_leave (nI 22) σ (fun (σ17 : gM) => wH_markOfFruit_b35 Q x1 x2_2 σ17))) ∧ (¬ (x2_2 = (nI 3)) → (wH_markOfFruit_b35 Q x1 x2_2 σ)))))) := h
  refine v_aload_n hC 0 dX6_markOfFruit_0 rfl ?_
  refine gf_X6_25 hC dX6_markOfFruit_1 ?_
  refine gf_X6_327_42 hC dX6_markOfFruit_4 ?_
  refine v_iload_n hC 1 dX6_markOfFruit_7 rfl ?_
  obtain ⟨hi1, h⟩ := h
  refine v_iald hC (Nat.le_of_ble_eq_true rfl) rfl rfl hi1 dX6_markOfFruit_8 ?_
  refine v_istore_nN hC dX6_markOfFruit_9 (by decide) (lo2 := fun x2_2 => [(2, .int x2_2), (0, .ref (xad X 0)), (1, .int x1)]) (fun _ => rfl) (fun x2_2 e2 => ?_)
  replace h := h x2_2 e2
  refine v_iload_n hC 0 dX6_markOfFruit_10 rfl ?_
  refine v_iconst hC (nI 2) dX6_markOfFruit_11 rfl ?_
  refine v_icmp_ne hC 24 dX6_markOfFruit_12 (by decide) (fun c3 => ?_) (fun c3 => ?_)
  · replace h := h.2 c3
    refine v_iload_n hC 0 dX6_markOfFruit_24 rfl ?_
    refine v_iconst hC (nI 3) dX6_markOfFruit_25 rfl ?_
    refine v_icmp_ne hC 35 dX6_markOfFruit_26 (by decide) (fun c15 => ?_) (fun c15 => ?_)
    · replace h := h.2 c15
      exact V.sub [1, 2, 0] rfl (tH_markOfFruit_b35 hC hR  _ _ _ h)
    · replace h := h.1 c15
      refine v_aload_n hC 1 dX6_markOfFruit_29 rfl ?_
      refine v_bipush hC (nI 22) dX6_markOfFruit_30 rfl ?_
      refine v_callV hC (kH_leave _ _ _ h) cmH_leave ⟨kw907, kw34⟩ kw905 ⟨Nat.le_of_ble_eq_true rfl, Nat.le_of_ble_eq_true rfl⟩ (Nat.le_of_ble_eq_true rfl) rfl (ci := 6) (T := TX6) (N := 12) rfl (As := fun G => [.int (nI 22)]) (fun _ => rfl) (fun _ => rfl) (st := []) (Nat.le_of_ble_eq_true rfl) rfl dX6_markOfFruit_32 (kk_v (fun σ17 h => ?_))
      exact V.sub [1, 2, 0] rfl (tH_markOfFruit_b35 hC hR  _ _ _ h)
  · replace h := h.1 c3
    refine v_aload_n hC 1 dX6_markOfFruit_15 rfl ?_
    refine v_bipush hC (nI 24) dX6_markOfFruit_16 rfl ?_
    refine v_callV hC (kH_leave _ _ _ h) cmH_leave ⟨kw907, kw34⟩ kw905 ⟨Nat.le_of_ble_eq_true rfl, Nat.le_of_ble_eq_true rfl⟩ (Nat.le_of_ble_eq_true rfl) rfl (ci := 6) (T := TX6) (N := 12) rfl (As := fun G => [.int (nI 24)]) (fun _ => rfl) (fun _ => rfl) (st := []) (Nat.le_of_ble_eq_true rfl) rfl dX6_markOfFruit_18 (kk_v (fun σ5 h => ?_))
    refine v_goto hC 35 dX6_markOfFruit_21 (by decide) ?_
    exact V.sub [1, 2, 0] rfl (tH_markOfFruit_b35 hC hR  _ _ _ h)
theorem cmH_markOfFruit : CM yX6_markOfFruit cX6_markOfFruit 4 (some .int) rmH_markOfFruit 1 := ⟨kw75, kw916, rfl, rfl, by decide, by decide, by decide +kernel⟩
def rmH_sizeOfFruit : Room := { frames := 3, cells := 0, slots := 0, locals := 65 }
def wH_sizeOfFruit_b29 (Q : Int32 → gM → Prop)  (x1 : Int32) (x2 : Int32) (σ : gM) : Prop :=
    wH_leave (nI 11) σ (fun (σ6 : gM) => wH_sizeLent x1 σ6 (fun (r8 : Int32) (σ8 : gM) => wH_markOfFruit x1 σ8 (fun (r10 : Int32) (σ10 : gM) => ∀ x3_11 : Int32, x3_11 = (r8 + r10) → (∀ v13 : Int32, v13 = (if x2 = nI 0 then x3_11 else (-x3_11)) → (Q v13 σ10)))))
def wH_sizeOfFruit (x1 : Int32) (σ : gM) (Q : Int32 → gM → Prop) : Prop :=
    vp_in x1 16 ∧ (∀ v3 : Int32, v3 = (if (σ 47 x1.toNatClampNeg) = (nI 2) then (nI 1) else (nI 0)) → ((v3 = nI 0 → (wH_sizeOfFruit_b29 Q x1 v3 σ)) ∧ (¬ (v3 = nI 0) → (wH_leave (nI 12) σ (fun (σ15 : gM) => wH_sizeOfFruit_b29 Q x1 v3 σ15)))))
set_option maxHeartbeats 4000000 in
set_option maxRecDepth 100000 in
theorem tH_sizeOfFruit_b29 {X : gX} {Q : Int32 → gM → Prop} (hC : VC X cX6_sizeOfFruit RX6 4 rmH_sizeOfFruit) (hR : VR X (some .int) (gPi Q))  (x1 : Int32) (x2 : Int32) (σ : gM) (h : wH_sizeOfFruit_b29 Q  x1 x2 σ) : V X 4 29 [(0, .ref (xad X 0)), (1, .int x1), (2, .int x2)] [] σ := by
  replace h : wH_leave (nI 11) σ (fun (σ6 : gM) => wH_sizeLent x1 σ6 (fun (r8 : Int32) (σ8 : gM) => wH_markOfFruit x1 σ8 (fun (r10 : Int32) (σ10 : gM) => ∀ x3_11 : Int32, x3_11 = (r8 + r10) → (∀ v13 : Int32, v13 = (if x2 = nI 0 then x3_11 else (-x3_11)) → (Q v13 σ10))))) := h
  refine v_aload_n hC 0 dX6_sizeOfFruit_29 rfl ?_
  refine v_bipush hC (nI 11) dX6_sizeOfFruit_30 rfl ?_
  refine v_callV hC (kH_leave _ _ _ h) cmH_leave ⟨kw907, kw34⟩ kw905 ⟨Nat.le_of_ble_eq_true rfl, Nat.le_of_ble_eq_true rfl⟩ (Nat.le_of_ble_eq_true rfl) rfl (ci := 6) (T := TX6) (N := 12) rfl (As := fun G => [.int (nI 11)]) (fun _ => rfl) (fun _ => rfl) (st := []) (Nat.le_of_ble_eq_true rfl) rfl dX6_sizeOfFruit_32 (kk_v (fun σ6 h => ?_))
  refine v_aload_n hC 0 dX6_sizeOfFruit_35 rfl ?_
  refine v_iload_n hC 1 dX6_sizeOfFruit_36 rfl ?_
  refine v_callV hC (kH_sizeLent _ _ _ h) cmH_sizeLent ⟨kw911, kw35⟩ kw909 ⟨Nat.le_of_ble_eq_true rfl, Nat.le_of_ble_eq_true rfl⟩ (Nat.le_of_ble_eq_true rfl) rfl (ci := 6) (T := TX6) (N := 12) rfl (As := fun G => [.int x1]) (fun _ => rfl) (fun _ => rfl) (st := []) (Nat.le_of_ble_eq_true rfl) rfl dX6_sizeOfFruit_37 (kk_i (fun r8 σ8 h => ?_))
  refine v_aload_n hC 0 dX6_sizeOfFruit_40 rfl ?_
  refine v_iload_n hC 1 dX6_sizeOfFruit_41 rfl ?_
  refine v_callV hC (kH_markOfFruit _ _ _ h) cmH_markOfFruit ⟨kw915, kw36⟩ kw913 ⟨Nat.le_of_ble_eq_true rfl, Nat.le_of_ble_eq_true rfl⟩ (Nat.le_of_ble_eq_true rfl) rfl (ci := 6) (T := TX6) (N := 12) rfl (As := fun G => [.int x1]) (fun _ => rfl) (fun _ => rfl) (st := [.int r8]) (Nat.le_of_ble_eq_true rfl) rfl dX6_sizeOfFruit_42 (kk_i (fun r10 σ10 h => ?_))
  refine v_iadd hC dX6_sizeOfFruit_45 ?_
  refine v_istore_nN hC dX6_sizeOfFruit_46 (by decide) (lo2 := fun x3_11 => [(3, .int x3_11), (0, .ref (xad X 0)), (1, .int x1), (2, .int x2)]) (fun _ => rfl) (fun x3_11 e11 => ?_)
  replace h := h x3_11 e11
  refine v_iload_n hC 3 dX6_sizeOfFruit_47 rfl ?_
  have J12 : ∀ (v13 : Int32) (ev13 : v13 = (if x2 = nI 0 then x3_11 else (-x3_11))), V X 4 57 [] [.int v13] σ10 := by
    intro v13 ev13
    replace h := h v13 ev13
    exact v_iret hC hR h dX6_sizeOfFruit_57
  refine v_if_eq hC 56 dX6_sizeOfFruit_48 (by decide) (fun c12 => ?_) (fun c12 => ?_)
  · refine v_iload_n hC 0 dX6_sizeOfFruit_56 rfl ?_
    exact V.sub [] rfl (J12 _ (by rw [if_pos c12]))
  · refine v_iload_n hC 0 dX6_sizeOfFruit_51 rfl ?_
    refine v_ineg hC dX6_sizeOfFruit_52 ?_
    refine v_goto hC 57 dX6_sizeOfFruit_53 (by decide) ?_
    exact V.sub [] rfl (J12 _ (by rw [if_neg c12]))
set_option maxHeartbeats 4000000 in
set_option maxRecDepth 100000 in
theorem kH_sizeOfFruit (x1 : Int32) (σ : gM) (Q : Int32 → gM → Prop) (h : wH_sizeOfFruit x1 σ Q) : CT yX6_sizeOfFruit cX6_sizeOfFruit 4 (some .int) rmH_sizeOfFruit (fun G => [.ref (gad G 0), .int x1]) σ (gPi Q) := by
  refine c_enter (by decide) (fun _ => Nat.le_of_ble_eq_true rfl) (fun X hC hR => ?_)
  show V X 4 0 [(0, .ref (xad X 0)), (1, .int x1)] [] σ
  replace h : vp_in x1 16 ∧ (∀ v3 : Int32, v3 = (if (σ 47 x1.toNatClampNeg) = (nI 2) then (nI 1) else (nI 0)) → ((v3 = nI 0 → (wH_sizeOfFruit_b29 Q x1 v3 σ)) ∧ (¬ (v3 = nI 0) → (wH_leave (nI 12) σ (fun (σ15 : gM) => wH_sizeOfFruit_b29 Q x1 v3 σ15))))) := h
  refine v_aload_n hC 0 dX6_sizeOfFruit_0 rfl ?_
  refine gf_X6_25 hC dX6_sizeOfFruit_1 ?_
  refine gf_X6_327_42 hC dX6_sizeOfFruit_4 ?_
  refine v_iload_n hC 1 dX6_sizeOfFruit_7 rfl ?_
  obtain ⟨hi1, h⟩ := h
  refine v_iald hC (Nat.le_of_ble_eq_true rfl) rfl rfl hi1 dX6_sizeOfFruit_8 ?_
  refine v_iconst hC (nI 2) dX6_sizeOfFruit_9 rfl ?_
  have J2 : ∀ (v3 : Int32) (ev3 : v3 = (if (σ 47 x1.toNatClampNeg) = (nI 2) then (nI 1) else (nI 0))), V X 4 18 [(0, .ref (xad X 0)), (1, .int x1)] [.int v3] σ := by
    intro v3 ev3
    replace h := h v3 ev3
    refine v_istore_n hC dX6_sizeOfFruit_18 (by decide) rfl ?_
    refine v_iload_n hC 0 dX6_sizeOfFruit_19 rfl ?_
    refine v_if_eq hC 29 dX6_sizeOfFruit_20 (by decide) (fun c4 => ?_) (fun c4 => ?_)
    · replace h := h.1 c4
      exact V.sub [1, 2, 0] rfl (tH_sizeOfFruit_b29 hC hR  _ _ _ h)
    · replace h := h.2 c4
      refine v_aload_n hC 1 dX6_sizeOfFruit_23 rfl ?_
      refine v_bipush hC (nI 12) dX6_sizeOfFruit_24 rfl ?_
      refine v_callV hC (kH_leave _ _ _ h) cmH_leave ⟨kw907, kw34⟩ kw905 ⟨Nat.le_of_ble_eq_true rfl, Nat.le_of_ble_eq_true rfl⟩ (Nat.le_of_ble_eq_true rfl) rfl (ci := 6) (T := TX6) (N := 12) rfl (As := fun G => [.int (nI 12)]) (fun _ => rfl) (fun _ => rfl) (st := []) (Nat.le_of_ble_eq_true rfl) rfl dX6_sizeOfFruit_26 (kk_v (fun σ15 h => ?_))
      exact V.sub [1, 2, 0] rfl (tH_sizeOfFruit_b29 hC hR  _ _ _ h)
  refine v_icmp_ne hC 17 dX6_sizeOfFruit_10 (by decide) (fun c2 => ?_) (fun c2 => ?_)
  · refine v_iconst hC (nI 0) dX6_sizeOfFruit_17 rfl ?_
    exact V.sub [0, 1] rfl (J2 _ (by rw [if_neg c2]))
  · refine v_iconst hC (nI 1) dX6_sizeOfFruit_13 rfl ?_
    refine v_goto hC 18 dX6_sizeOfFruit_14 (by decide) ?_
    exact V.sub [0, 1] rfl (J2 _ (by rw [if_pos c2]))
theorem cmH_sizeOfFruit : CM yX6_sizeOfFruit cX6_sizeOfFruit 4 (some .int) rmH_sizeOfFruit 1 := ⟨kw75, kw904, rfl, rfl, by decide, by decide, by decide +kernel⟩
def rmH_ask : Room := { frames := 4, cells := 0, slots := 0, locals := 88 }
def wH_ask (x1 : Int32) (x2 : Int32) (σ : gM) (Q : Int32 → gM → Prop) : Prop :=
    wH_isNoWare x1 σ (fun (r2 : Int32) (σ2 : gM) => (r2 = nI 0 → ((x2 < nI 0 → (Q (-1000001 : Int32) σ2)) ∧ (¬ (x2 < nI 0) → ((x2 ≤ (nI 1) → (∀ σ6 : gM, σ6 = gU σ2 0 9 (nI 0) → (vp_in x1 16 ∧ (wH_isSuch (σ6 47 x1.toNatClampNeg) (nI 1) σ6 (fun (r9 : Int32) (σ9 : gM) => (r9 = nI 0 → ((x2 = nI 0 → (wH_sizeOfCloth x1 σ9 (fun (r13 : Int32) (σ13 : gM) => Q r13 σ13))) ∧ (¬ (x2 = nI 0) → (wH_markOfCloth x1 σ9 (fun (r15 : Int32) (σ15 : gM) => Q r15 σ15))))) ∧ (¬ (r9 = nI 0) → ((x2 = nI 0 → (wH_sizeOfFruit x1 σ9 (fun (r18 : Int32) (σ18 : gM) => Q r18 σ18))) ∧ (¬ (x2 = nI 0) → (wH_markOfFruit x1 σ9 (fun (r20 : Int32) (σ20 : gM) => Q r20 σ20)))))))))) ∧ (¬ (x2 ≤ (nI 1)) → (Q (-1000001 : Int32) σ2)))))) ∧ (¬ (r2 = nI 0) → (Q (-1000001 : Int32) σ2)))
set_option maxHeartbeats 4000000 in
set_option maxRecDepth 100000 in
theorem kH_ask (x1 : Int32) (x2 : Int32) (σ : gM) (Q : Int32 → gM → Prop) (h : wH_ask x1 x2 σ Q) : CT yX6_ask cX6_ask 3 (some .int) rmH_ask (fun G => [.ref (gad G 0), .int x1, .int x2]) σ (gPi Q) := by
  refine c_enter (by decide) (fun _ => Nat.le_of_ble_eq_true rfl) (fun X hC hR => ?_)
  show V X 3 0 [(0, .ref (xad X 0)), (1, .int x1), (2, .int x2)] [] σ
  replace h : wH_isNoWare x1 σ (fun (r2 : Int32) (σ2 : gM) => (r2 = nI 0 → ((x2 < nI 0 → (Q (-1000001 : Int32) σ2)) ∧ (¬ (x2 < nI 0) → ((x2 ≤ (nI 1) → (∀ σ6 : gM, σ6 = gU σ2 0 9 (nI 0) → (vp_in x1 16 ∧ (wH_isSuch (σ6 47 x1.toNatClampNeg) (nI 1) σ6 (fun (r9 : Int32) (σ9 : gM) => (r9 = nI 0 → ((x2 = nI 0 → (wH_sizeOfCloth x1 σ9 (fun (r13 : Int32) (σ13 : gM) => Q r13 σ13))) ∧ (¬ (x2 = nI 0) → (wH_markOfCloth x1 σ9 (fun (r15 : Int32) (σ15 : gM) => Q r15 σ15))))) ∧ (¬ (r9 = nI 0) → ((x2 = nI 0 → (wH_sizeOfFruit x1 σ9 (fun (r18 : Int32) (σ18 : gM) => Q r18 σ18))) ∧ (¬ (x2 = nI 0) → (wH_markOfFruit x1 σ9 (fun (r20 : Int32) (σ20 : gM) => Q r20 σ20)))))))))) ∧ (¬ (x2 ≤ (nI 1)) → (Q (-1000001 : Int32) σ2)))))) ∧ (¬ (r2 = nI 0) → (Q (-1000001 : Int32) σ2))) := h
  refine v_aload_n hC 0 dX6_ask_0 rfl ?_
  refine v_iload_n hC 1 dX6_ask_1 rfl ?_
  refine v_callV hC (kH_isNoWare _ _ _ h) cmH_isNoWare ⟨kw679, kw20⟩ kw677 ⟨Nat.le_of_ble_eq_true rfl, Nat.le_of_ble_eq_true rfl⟩ (Nat.le_of_ble_eq_true rfl) rfl (ci := 6) (T := TX6) (N := 12) rfl (As := fun G => [.int x1]) (fun _ => rfl) (fun _ => rfl) (st := []) (Nat.le_of_ble_eq_true rfl) rfl dX6_ask_2 (kk_i (fun r2 σ2 h => ?_))
  refine v_if_ne hC 17 dX6_ask_5 (by decide) (fun c3 => ?_) (fun c3 => ?_)
  · replace h := h.2 c3
    refine v_ldc hC kw377 dX6_ask_17 ?_
    exact v_iret hC hR h dX6_ask_19
  · replace h := h.1 c3
    refine v_iload_n hC 2 dX6_ask_8 rfl ?_
    refine v_if_lt hC 17 dX6_ask_9 (by decide) (fun c4 => ?_) (fun c4 => ?_)
    · replace h := h.1 c4
      refine v_ldc hC kw377 dX6_ask_17 ?_
      exact v_iret hC hR h dX6_ask_19
    · replace h := h.2 c4
      refine v_iload_n hC 2 dX6_ask_12 rfl ?_
      refine v_iconst hC (nI 1) dX6_ask_13 rfl ?_
      refine v_icmp_le hC 20 dX6_ask_14 (by decide) (fun c5 => ?_) (fun c5 => ?_)
      · replace h := h.1 c5
        refine v_aload_n hC 0 dX6_ask_20 rfl ?_
        refine v_iconst hC (nI 0) dX6_ask_21 rfl ?_
        refine pf_X6_333 hC dX6_ask_22 (fun σ6 e6 => ?_)
        replace h := h σ6 e6
        refine v_aload_n hC 0 dX6_ask_25 rfl ?_
        refine gf_X6_25 hC dX6_ask_26 ?_
        refine gf_X6_327_42 hC dX6_ask_29 ?_
        refine v_iload_n hC 1 dX6_ask_32 rfl ?_
        obtain ⟨hi7, h⟩ := h
        refine v_iald hC (Nat.le_of_ble_eq_true rfl) rfl rfl hi7 dX6_ask_33 ?_
        refine v_iconst hC (nI 1) dX6_ask_34 rfl ?_
        refine v_callS hC (kH_isSuch _ _ _ _ h) cmH_isSuch kw631 kw896 ⟨Nat.le_of_ble_eq_true rfl, Nat.le_of_ble_eq_true rfl⟩ (fun _ => rfl) (st := []) (Nat.le_of_ble_eq_true rfl) rfl dX6_ask_35 (kk_i (fun r9 σ9 h => ?_))
        refine v_if_eq hC 59 dX6_ask_38 (by decide) (fun c10 => ?_) (fun c10 => ?_)
        · replace h := h.1 c10
          refine v_iload_n hC 2 dX6_ask_59 rfl ?_
          refine v_if_ne hC 71 dX6_ask_60 (by decide) (fun c11 => ?_) (fun c11 => ?_)
          · replace h := h.2 c11
            refine v_aload_n hC 0 dX6_ask_71 rfl ?_
            refine v_iload_n hC 1 dX6_ask_72 rfl ?_
            refine v_callV hC (kH_markOfCloth _ _ _ h) cmH_markOfCloth ⟨kw927, kw39⟩ kw925 ⟨Nat.le_of_ble_eq_true rfl, Nat.le_of_ble_eq_true rfl⟩ (Nat.le_of_ble_eq_true rfl) rfl (ci := 6) (T := TX6) (N := 12) rfl (As := fun G => [.int x1]) (fun _ => rfl) (fun _ => rfl) (st := []) (Nat.le_of_ble_eq_true rfl) rfl dX6_ask_73 (kk_i (fun r15 σ15 h => ?_))
            exact v_iret hC hR h dX6_ask_76
          · replace h := h.1 c11
            refine v_aload_n hC 0 dX6_ask_63 rfl ?_
            refine v_iload_n hC 1 dX6_ask_64 rfl ?_
            refine v_callV hC (kH_sizeOfCloth _ _ _ h) cmH_sizeOfCloth ⟨kw923, kw38⟩ kw921 ⟨Nat.le_of_ble_eq_true rfl, Nat.le_of_ble_eq_true rfl⟩ (Nat.le_of_ble_eq_true rfl) rfl (ci := 6) (T := TX6) (N := 12) rfl (As := fun G => [.int x1]) (fun _ => rfl) (fun _ => rfl) (st := []) (Nat.le_of_ble_eq_true rfl) rfl dX6_ask_65 (kk_i (fun r13 σ13 h => ?_))
            refine v_goto hC 76 dX6_ask_68 (by decide) ?_
            exact v_iret hC hR h dX6_ask_76
        · replace h := h.2 c10
          refine v_iload_n hC 2 dX6_ask_41 rfl ?_
          refine v_if_ne hC 53 dX6_ask_42 (by decide) (fun c16 => ?_) (fun c16 => ?_)
          · replace h := h.2 c16
            refine v_aload_n hC 0 dX6_ask_53 rfl ?_
            refine v_iload_n hC 1 dX6_ask_54 rfl ?_
            refine v_callV hC (kH_markOfFruit _ _ _ h) cmH_markOfFruit ⟨kw915, kw36⟩ kw913 ⟨Nat.le_of_ble_eq_true rfl, Nat.le_of_ble_eq_true rfl⟩ (Nat.le_of_ble_eq_true rfl) rfl (ci := 6) (T := TX6) (N := 12) rfl (As := fun G => [.int x1]) (fun _ => rfl) (fun _ => rfl) (st := []) (Nat.le_of_ble_eq_true rfl) rfl dX6_ask_55 (kk_i (fun r20 σ20 h => ?_))
            exact v_iret hC hR h dX6_ask_58
          · replace h := h.1 c16
            refine v_aload_n hC 0 dX6_ask_45 rfl ?_
            refine v_iload_n hC 1 dX6_ask_46 rfl ?_
            refine v_callV hC (kH_sizeOfFruit _ _ _ h) cmH_sizeOfFruit ⟨kw903, kw33⟩ kw901 ⟨Nat.le_of_ble_eq_true rfl, Nat.le_of_ble_eq_true rfl⟩ (Nat.le_of_ble_eq_true rfl) rfl (ci := 6) (T := TX6) (N := 12) rfl (As := fun G => [.int x1]) (fun _ => rfl) (fun _ => rfl) (st := []) (Nat.le_of_ble_eq_true rfl) rfl dX6_ask_47 (kk_i (fun r18 σ18 h => ?_))
            refine v_goto hC 58 dX6_ask_50 (by decide) ?_
            exact v_iret hC hR h dX6_ask_58
      · replace h := h.2 c5
        refine v_ldc hC kw377 dX6_ask_17 ?_
        exact v_iret hC hR h dX6_ask_19
theorem cmH_ask : CM yX6_ask cX6_ask 3 (some .int) rmH_ask 2 := ⟨kw75, kw900, rfl, rfl, by decide, by decide, by decide +kernel⟩
def rmH_trace : Room := { frames := 0, cells := 0, slots := 0, locals := 0 }
def wH_trace (x1 : Int32) (σ : gM) (Q : Int32 → gM → Prop) : Prop :=
    ((x1 < nI 0 → (True)) ∧ (¬ (x1 < nI 0) → (((x1 < (σ 0 9) → (vp_in x1 16 ∧ True)) ∧ (¬ (x1 < (σ 0 9)) → (True))) ∧ True))) ∧ (∀ v3 : Int32, v3 = (if x1 < nI 0 then (-1000000 : Int32) else (if x1 < (σ 0 9) then (σ 40 x1.toNatClampNeg) else (-1000000 : Int32))) → (Q v3 σ))
set_option maxHeartbeats 4000000 in
set_option maxRecDepth 100000 in
theorem kH_trace (x1 : Int32) (σ : gM) (Q : Int32 → gM → Prop) (h : wH_trace x1 σ Q) : CT yX6_trace cX6_trace 2 (some .int) rmH_trace (fun G => [.ref (gad G 0), .int x1]) σ (gPi Q) := by
  refine c_enter (by decide) (fun _ => Nat.le_of_ble_eq_true rfl) (fun X hC hR => ?_)
  show V X 2 0 [(0, .ref (xad X 0)), (1, .int x1)] [] σ
  replace h : ((x1 < nI 0 → (True)) ∧ (¬ (x1 < nI 0) → (((x1 < (σ 0 9) → (vp_in x1 16 ∧ True)) ∧ (¬ (x1 < (σ 0 9)) → (True))) ∧ True))) ∧ (∀ v3 : Int32, v3 = (if x1 < nI 0 then (-1000000 : Int32) else (if x1 < (σ 0 9) then (σ 40 x1.toNatClampNeg) else (-1000000 : Int32))) → (Q v3 σ)) := h
  refine v_iload_n hC 1 dX6_trace_0 rfl ?_
  obtain ⟨hO1, h⟩ := h
  have J1 : ∀ (v3 : Int32) (ev3 : v3 = (if x1 < nI 0 then (-1000000 : Int32) else (if x1 < (σ 0 9) then (σ 40 x1.toNatClampNeg) else (-1000000 : Int32)))), V X 2 23 [] [.int v3] σ := by
    intro v3 ev3
    replace h := h v3 ev3
    exact v_iret hC hR h dX6_trace_23
  refine v_if_lt hC 12 dX6_trace_1 (by decide) (fun c1 => ?_) (fun c1 => ?_)
  · replace h := hO1.1 c1
    refine v_ldc hC kw652 dX6_trace_12 ?_
    refine v_goto hC 23 dX6_trace_14 (by decide) ?_
    exact V.sub [] rfl (J1 _ (by rw [if_pos c1]))
  · replace h := hO1.2 c1
    refine v_iload_n hC 1 dX6_trace_4 rfl ?_
    refine v_aload_n hC 0 dX6_trace_5 rfl ?_
    refine gf_X6_333 hC dX6_trace_6 ?_
    obtain ⟨hO4, h⟩ := h
    have J4 : V X 2 23 [] [.int (if x1 < (σ 0 9) then (σ 40 x1.toNatClampNeg) else (-1000000 : Int32))] σ := by
      exact V.sub [] rfl (J1 _ (by rw [if_neg c1]))
    refine v_icmp_lt hC 17 dX6_trace_9 (by decide) (fun c4 => ?_) (fun c4 => ?_)
    · replace h := hO4.1 c4
      refine v_aload_n hC 0 dX6_trace_17 rfl ?_
      refine gf_X6_57 hC dX6_trace_18 ?_
      refine v_iload_n hC 1 dX6_trace_21 rfl ?_
      obtain ⟨hi6, h⟩ := h
      refine v_iald hC (Nat.le_of_ble_eq_true rfl) rfl rfl hi6 dX6_trace_22 ?_
      rw [if_pos c4] at J4
      exact V.sub [] rfl J4
    · replace h := hO4.2 c4
      refine v_ldc hC kw652 dX6_trace_12 ?_
      refine v_goto hC 23 dX6_trace_14 (by decide) ?_
      rw [if_neg c4] at J4
      exact V.sub [] rfl J4
theorem cmH_trace : CM yX6_trace cX6_trace 2 (some .int) rmH_trace 1 := ⟨kw75, kw932, rfl, rfl, by decide, by decide, by decide +kernel⟩
def rmH_rowsThere : Room := { frames := 0, cells := 0, slots := 0, locals := 0 }
def wH_rowsThere_l4 (Q : Int32 → gM → Prop)  : Nat → Int32 → Int32 → gM → Prop
  | 0, _, _, _ => False
  | n + 1, x1, x2, σ =>
    ((nI 8) ≤ x2 → (Q x1 σ)) ∧ (¬ ((nI 8) ≤ x2) → (vp_in x2 8 ∧ (((σ (2 + 2 * x2.toNatClampNeg) 1) = nI 0 → (∀ x2_4 : Int32, x2_4 = x2 + (nI 1) → (wH_rowsThere_l4 Q n x1 x2_4 σ))) ∧ (¬ ((σ (2 + 2 * x2.toNatClampNeg) 1) = nI 0) → (∀ x1_5 : Int32, x1_5 = x1 + (nI 1) → (∀ x2_6 : Int32, x2_6 = x2 + (nI 1) → (wH_rowsThere_l4 Q n x1_5 x2_6 σ)))))))
def wH_rowsThere  (σ : gM) (Q : Int32 → gM → Prop) : Prop :=
    ∃ n7 : Nat, wH_rowsThere_l4 Q n7 (nI 0) (nI 0) σ
set_option maxHeartbeats 4000000 in
set_option maxRecDepth 100000 in
theorem tH_rowsThere_l4 {X : gX} {Q : Int32 → gM → Prop} (hC : VC X cX6_rowsThere RX6 3 rmH_rowsThere) (hR : VR X (some .int) (gPi Q))  : ∀ (n : Nat) (x1 : Int32) (x2 : Int32) (σ : gM), wH_rowsThere_l4 Q  n x1 x2 σ → V X 3 4 [(0, .ref (xad X 0)), (1, .int x1), (2, .int x2)] [] σ := by
  intro n
  induction n with
  | zero => intro x1 x2 σ h; exact h.elim
  | succ n ih =>
    intro x1 x2 σ h
    replace h : ((nI 8) ≤ x2 → (Q x1 σ)) ∧ (¬ ((nI 8) ≤ x2) → (vp_in x2 8 ∧ (((σ (2 + 2 * x2.toNatClampNeg) 1) = nI 0 → (∀ x2_4 : Int32, x2_4 = x2 + (nI 1) → (wH_rowsThere_l4 Q n x1 x2_4 σ))) ∧ (¬ ((σ (2 + 2 * x2.toNatClampNeg) 1) = nI 0) → (∀ x1_5 : Int32, x1_5 = x1 + (nI 1) → (∀ x2_6 : Int32, x2_6 = x2 + (nI 1) → (wH_rowsThere_l4 Q n x1_5 x2_6 σ))))))) := h
    refine v_iload_n hC 2 dX6_rowsThere_4 rfl ?_
    refine v_bipush hC (nI 8) dX6_rowsThere_5 rfl ?_
    refine v_icmp_ge hC 31 dX6_rowsThere_7 (by decide) (fun c1 => ?_) (fun c1 => ?_)
    · replace h := h.1 c1
      refine v_iload_n hC 1 dX6_rowsThere_31 rfl ?_
      exact v_iret hC hR h dX6_rowsThere_32
    · replace h := h.2 c1
      refine v_aload_n hC 0 dX6_rowsThere_10 rfl ?_
      refine gf_X6_11 hC dX6_rowsThere_11 ?_
      refine v_iload_n hC 2 dX6_rowsThere_14 rfl ?_
      obtain ⟨hi2, h⟩ := h
      have hr2 := vin_lt hi2
      refine v_aald hC (Or.inl rfl) (o := 1) (Nat.le_of_ble_eq_true rfl) rfl hi2 dX6_rowsThere_15 ?_
      refine gf_X6_86 hC hr2 dX6_rowsThere_16 ?_
      refine v_if_eq hC 25 dX6_rowsThere_19 (by decide) (fun c3 => ?_) (fun c3 => ?_)
      · replace h := h.1 c3
        refine v_iincN hC (nI 1) 2 dX6_rowsThere_25 rfl rfl (by decide) (lo2 := fun x2_4 => [(2, .int x2_4), (0, .ref (xad X 0)), (1, .int x1)]) (fun _ => rfl) (fun x2_4 e4 => ?_)
        replace h := h x2_4 e4
        refine v_goto hC 4 dX6_rowsThere_28 (by decide) ?_
        exact V.sub [1, 2, 0] rfl (ih _ _ _ h)
      · replace h := h.2 c3
        refine v_iincN hC (nI 1) 1 dX6_rowsThere_22 rfl rfl (by decide) (lo2 := fun x1_5 => [(1, .int x1_5), (0, .ref (xad X 0)), (2, .int x2)]) (fun _ => rfl) (fun x1_5 e5 => ?_)
        replace h := h x1_5 e5
        refine v_iincN hC (nI 1) 2 dX6_rowsThere_25 rfl rfl (by decide) (lo2 := fun x2_6 => [(2, .int x2_6), (1, .int x1_5), (0, .ref (xad X 0))]) (fun _ => rfl) (fun x2_6 e6 => ?_)
        replace h := h x2_6 e6
        refine v_goto hC 4 dX6_rowsThere_28 (by decide) ?_
        exact V.sub [2, 1, 0] rfl (ih _ _ _ h)
set_option maxHeartbeats 4000000 in
set_option maxRecDepth 100000 in
theorem kH_rowsThere  (σ : gM) (Q : Int32 → gM → Prop) (h : wH_rowsThere  σ Q) : CT yX6_rowsThere cX6_rowsThere 3 (some .int) rmH_rowsThere (fun G => [.ref (gad G 0)]) σ (gPi Q) := by
  refine c_enter (by decide) (fun _ => Nat.le_of_ble_eq_true rfl) (fun X hC hR => ?_)
  show V X 3 0 [(0, .ref (xad X 0))] [] σ
  replace h : ∃ n7 : Nat, wH_rowsThere_l4 Q n7 (nI 0) (nI 0) σ := h
  refine v_iconst hC (nI 0) dX6_rowsThere_0 rfl ?_
  refine v_istore_n hC dX6_rowsThere_1 (by decide) rfl ?_
  refine v_iconst hC (nI 0) dX6_rowsThere_2 rfl ?_
  refine v_istore_n hC dX6_rowsThere_3 (by decide) rfl ?_
  obtain ⟨n7, h⟩ := h
  exact V.sub [2, 1, 0] rfl (tH_rowsThere_l4 hC hR  n7 _ _ _ h)
theorem cmH_rowsThere : CM yX6_rowsThere cX6_rowsThere 3 (some .int) rmH_rowsThere 0 := ⟨kw75, kw940, rfl, rfl, by decide, by decide, by decide +kernel⟩
def rmH_count : Room := { frames := 1, cells := 0, slots := 0, locals := 22 }
def wH_count (x1 : Int32) (σ : gM) (Q : Int32 → gM → Prop) : Prop :=
    (x1 = (nI 0) → (wH_rowsThere  σ (fun (r3 : Int32) (σ3 : gM) => Q r3 σ3))) ∧ (x1 = (nI 1) → (Q (σ 42 3) σ)) ∧ (x1 = (nI 2) → (Q (σ 42 4) σ)) ∧ (x1 = (nI 3) → (Q (σ 42 5) σ)) ∧ (x1 = (nI 4) → (Q (σ 42 2) σ)) ∧ (x1 = (nI 5) → (Q (σ 20 3) σ)) ∧ (x1 = (nI 6) → (Q (σ 18 0) σ)) ∧ ((¬ x1 = (nI 0) ∧ ¬ x1 = (nI 1) ∧ ¬ x1 = (nI 2) ∧ ¬ x1 = (nI 3) ∧ ¬ x1 = (nI 4) ∧ ¬ x1 = (nI 5) ∧ ¬ x1 = (nI 6)) → (Q (-1000001 : Int32) σ))
set_option maxHeartbeats 4000000 in
set_option maxRecDepth 100000 in
theorem kH_count (x1 : Int32) (σ : gM) (Q : Int32 → gM → Prop) (h : wH_count x1 σ Q) : CT yX6_count cX6_count 2 (some .int) rmH_count (fun G => [.ref (gad G 0), .int x1]) σ (gPi Q) := by
  refine c_enter (by decide) (fun _ => Nat.le_of_ble_eq_true rfl) (fun X hC hR => ?_)
  show V X 2 0 [(0, .ref (xad X 0)), (1, .int x1)] [] σ
  replace h : (x1 = (nI 0) → (wH_rowsThere  σ (fun (r3 : Int32) (σ3 : gM) => Q r3 σ3))) ∧ (x1 = (nI 1) → (Q (σ 42 3) σ)) ∧ (x1 = (nI 2) → (Q (σ 42 4) σ)) ∧ (x1 = (nI 3) → (Q (σ 42 5) σ)) ∧ (x1 = (nI 4) → (Q (σ 42 2) σ)) ∧ (x1 = (nI 5) → (Q (σ 20 3) σ)) ∧ (x1 = (nI 6) → (Q (σ 18 0) σ)) ∧ ((¬ x1 = (nI 0) ∧ ¬ x1 = (nI 1) ∧ ¬ x1 = (nI 2) ∧ ¬ x1 = (nI 3) ∧ ¬ x1 = (nI 4) ∧ ¬ x1 = (nI 5) ∧ ¬ x1 = (nI 6)) → (Q (-1000001 : Int32) σ)) := h
  refine v_iload_n hC 1 dX6_count_0 rfl ?_
  by_cases q1_0 : x1 = (nI 0)
  · replace h := h.1 q1_0
    refine v_tableIn hC (nI 0) 44 dX6_count_1 q1_0 (by decide) (by decide) rfl (by decide) ?_
    refine v_aload_n hC 0 dX6_count_44 rfl ?_
    refine v_callV hC (kH_rowsThere  _ _ h) cmH_rowsThere ⟨kw939, kw40⟩ kw937 ⟨Nat.le_of_ble_eq_true rfl, Nat.le_of_ble_eq_true rfl⟩ (Nat.le_of_ble_eq_true rfl) rfl (ci := 6) (T := TX6) (N := 12) rfl (As := fun G => []) (fun _ => rfl) (fun _ => rfl) (st := []) (Nat.le_of_ble_eq_true rfl) rfl dX6_count_45 (kk_i (fun r3 σ3 h => ?_))
    exact v_iret hC hR h dX6_count_48
  · by_cases q1_1 : x1 = (nI 1)
    · replace h := h.2.1 q1_1
      refine v_tableIn hC (nI 1) 49 dX6_count_1 q1_1 (by decide) (by decide) rfl (by decide) ?_
      refine v_aload_n hC 0 dX6_count_49 rfl ?_
      refine gf_X6_25 hC dX6_count_50 ?_
      refine gf_X6_275_42 hC dX6_count_53 ?_
      exact v_iret hC hR h dX6_count_56
    · by_cases q1_2 : x1 = (nI 2)
      · replace h := h.2.2.1 q1_2
        refine v_tableIn hC (nI 2) 57 dX6_count_1 q1_2 (by decide) (by decide) rfl (by decide) ?_
        refine v_aload_n hC 0 dX6_count_57 rfl ?_
        refine gf_X6_25 hC dX6_count_58 ?_
        refine gf_X6_139_42 hC dX6_count_61 ?_
        exact v_iret hC hR h dX6_count_64
      · by_cases q1_3 : x1 = (nI 3)
        · replace h := h.2.2.2.1 q1_3
          refine v_tableIn hC (nI 3) 65 dX6_count_1 q1_3 (by decide) (by decide) rfl (by decide) ?_
          refine v_aload_n hC 0 dX6_count_65 rfl ?_
          refine gf_X6_25 hC dX6_count_66 ?_
          refine gf_X6_148_42 hC dX6_count_69 ?_
          exact v_iret hC hR h dX6_count_72
        · by_cases q1_4 : x1 = (nI 4)
          · replace h := h.2.2.2.2.1 q1_4
            refine v_tableIn hC (nI 4) 73 dX6_count_1 q1_4 (by decide) (by decide) rfl (by decide) ?_
            refine v_aload_n hC 0 dX6_count_73 rfl ?_
            refine gf_X6_25 hC dX6_count_74 ?_
            refine gf_X6_175_42 hC dX6_count_77 ?_
            exact v_iret hC hR h dX6_count_80
          · by_cases q1_5 : x1 = (nI 5)
            · replace h := h.2.2.2.2.2.1 q1_5
              refine v_tableIn hC (nI 5) 81 dX6_count_1 q1_5 (by decide) (by decide) rfl (by decide) ?_
              refine v_aload_n hC 0 dX6_count_81 rfl ?_
              refine gf_X6_39 hC dX6_count_82 ?_
              refine gf_X6_185 hC dX6_count_85 ?_
              exact v_iret hC hR h dX6_count_88
            · by_cases q1_6 : x1 = (nI 6)
              · replace h := h.2.2.2.2.2.2.1 q1_6
                refine v_tableIn hC (nI 6) 89 dX6_count_1 q1_6 (by decide) (by decide) rfl (by decide) ?_
                refine v_aload_n hC 0 dX6_count_89 rfl ?_
                refine gf_X6_18 hC dX6_count_90 ?_
                refine gf_X6_110 hC dX6_count_93 ?_
                exact v_iret hC hR h dX6_count_96
              · replace h := h.2.2.2.2.2.2.2 ⟨q1_0, q1_1, q1_2, q1_3, q1_4, q1_5, q1_6⟩
                refine v_tableOut hC 97 dX6_count_1 (sw_out _ _ (fun j hj1 hj2 => by have hj : j = 0 ∨ j = 1 ∨ j = 2 ∨ j = 3 ∨ j = 4 ∨ j = 5 ∨ j = 6 := (by omega); rcases hj with rfl | rfl | rfl | rfl | rfl | rfl | rfl <;> first | exact q1_0 | exact q1_1 | exact q1_2 | exact q1_3 | exact q1_4 | exact q1_5 | exact q1_6)) (by decide) ?_
                refine v_ldc hC kw377 dX6_count_97 ?_
                exact v_iret hC hR h dX6_count_99
theorem cmH_count : CM yX6_count cX6_count 2 (some .int) rmH_count 1 := ⟨kw75, kw936, rfl, rfl, by decide, by decide, by decide +kernel⟩
