def rmM_take : Room := { frames := 3, cells := 0, slots := 0, locals := 69 }
def wM_take (x1 : Int32) (x2 : Int32) (σ : gM) (Q : Int32 → gM → Prop) : Prop :=
    wM_isBuyerAt x1 σ (fun (r2 : Int32) (σ2 : gM) => (r2 = nI 0 → (Q (-1000001 : Int32) σ2)) ∧ (¬ (r2 = nI 0) → (wM_in x2 (nI 0) (nI 1) σ2 (fun (r5 : Int32) (σ5 : gM) => (r5 = nI 0 → (Q (-1000001 : Int32) σ5)) ∧ (¬ (r5 = nI 0) → (((σ5 89 5) = nI 0 → (Q (-1000002 : Int32) σ5)) ∧ (¬ ((σ5 89 5) = nI 0) → (∀ v11 : Int32, v11 = (if x2 = nI 0 then (nI 0) else ((σ5 89 5) - (nI 1))) → (wM_heap v11 σ5 (fun (r13 : Int32) (σ13 : gM) => wM_valueOf r13 (nI 0) σ13 (fun (r15 : Int32) (σ15 : gM) => vp_in (((nI 6) + ((nI 4) * x1)) + (nI 1)) 102 ∧ ((r15 ≤ (σ15 89 (((nI 6) + ((nI 4) * x1)) + (nI 1)).toNatClampNeg) → (wM_worthOf r13 x1 (nI 0) σ15 (fun (r19 : Int32) (σ19 : gM) => wM_takeAt x2 σ19 (fun (r21 : Int32) (σ21 : gM) => vp_in (((nI 22) + ((nI 4) * r21)) + (nI 3)) 102 ∧ (∀ σ22 : gM, σ22 = gU σ21 89 (((nI 22) + ((nI 4) * r21)) + (nI 3)).toNatClampNeg x1 → (vp_in (((nI 6) + ((nI 4) * x1)) + (nI 1)) 102 ∧ (vp_in (((nI 6) + ((nI 4) * x1)) + (nI 1)) 102 ∧ (∀ σ24 : gM, σ24 = gU σ22 89 (((nI 6) + ((nI 4) * x1)) + (nI 1)).toNatClampNeg ((σ22 89 (((nI 6) + ((nI 4) * x1)) + (nI 1)).toNatClampNeg) - r15) → (vp_in (((nI 6) + ((nI 4) * x1)) + (nI 2)) 102 ∧ (vp_in (((nI 6) + ((nI 4) * x1)) + (nI 2)) 102 ∧ (∀ σ26 : gM, σ26 = gU σ24 89 (((nI 6) + ((nI 4) * x1)) + (nI 2)).toNatClampNeg ((σ24 89 (((nI 6) + ((nI 4) * x1)) + (nI 2)).toNatClampNeg) + r19) → (vp_in (((nI 6) + ((nI 4) * x1)) + (nI 3)) 102 ∧ (vp_in (((nI 6) + ((nI 4) * x1)) + (nI 3)) 102 ∧ (∀ σ28 : gM, σ28 = gU σ26 89 (((nI 6) + ((nI 4) * x1)) + (nI 3)).toNatClampNeg ((σ26 89 (((nI 6) + ((nI 4) * x1)) + (nI 3)).toNatClampNeg) + (nI 1)) → (wM_noteAct (nI 0) x2 x1 r15 r19 σ28 (fun (σ30 : gM) => vp_in ((nI 5) * ((σ30 82 20) - (nI 1))) 120 ∧ (∀ σ31 : gM, σ31 = gU σ30 92 ((nI 5) * ((σ30 82 20) - (nI 1))).toNatClampNeg ((nI 3) + r21) → (Q r19 σ31)))))))))))))))))) ∧ (¬ (r15 ≤ (σ15 89 (((nI 6) + ((nI 4) * x1)) + (nI 1)).toNatClampNeg)) → (Q (-1000002 : Int32) σ15))))))))))))))
set_option maxHeartbeats 4000000 in
set_option maxRecDepth 100000 in
theorem kM_take (x1 : Int32) (x2 : Int32) (σ : gM) (Q : Int32 → gM → Prop) (h : wM_take x1 x2 σ Q) : CT yX7_take cX7_take 6 (some .int) rmM_take (fun G => [.ref (gad G 82), .int x1, .int x2]) σ (gPi Q) := by
  refine c_enter (by decide) (fun _ => Nat.le_of_ble_eq_true rfl) (fun X hC hR => ?_)
  show V X 6 0 [(0, .ref (xad X 82)), (1, .int x1), (2, .int x2)] [] σ
  replace h : wM_isBuyerAt x1 σ (fun (r2 : Int32) (σ2 : gM) => (r2 = nI 0 → (Q (-1000001 : Int32) σ2)) ∧ (¬ (r2 = nI 0) → (wM_in x2 (nI 0) (nI 1) σ2 (fun (r5 : Int32) (σ5 : gM) => (r5 = nI 0 → (Q (-1000001 : Int32) σ5)) ∧ (¬ (r5 = nI 0) → (((σ5 89 5) = nI 0 → (Q (-1000002 : Int32) σ5)) ∧ (¬ ((σ5 89 5) = nI 0) → (∀ v11 : Int32, v11 = (if x2 = nI 0 then (nI 0) else ((σ5 89 5) - (nI 1))) → (wM_heap v11 σ5 (fun (r13 : Int32) (σ13 : gM) => wM_valueOf r13 (nI 0) σ13 (fun (r15 : Int32) (σ15 : gM) => vp_in (((nI 6) + ((nI 4) * x1)) + (nI 1)) 102 ∧ ((r15 ≤ (σ15 89 (((nI 6) + ((nI 4) * x1)) + (nI 1)).toNatClampNeg) → (wM_worthOf r13 x1 (nI 0) σ15 (fun (r19 : Int32) (σ19 : gM) => wM_takeAt x2 σ19 (fun (r21 : Int32) (σ21 : gM) => vp_in (((nI 22) + ((nI 4) * r21)) + (nI 3)) 102 ∧ (∀ σ22 : gM, σ22 = gU σ21 89 (((nI 22) + ((nI 4) * r21)) + (nI 3)).toNatClampNeg x1 → (vp_in (((nI 6) + ((nI 4) * x1)) + (nI 1)) 102 ∧ (vp_in (((nI 6) + ((nI 4) * x1)) + (nI 1)) 102 ∧ (∀ σ24 : gM, σ24 = gU σ22 89 (((nI 6) + ((nI 4) * x1)) + (nI 1)).toNatClampNeg ((σ22 89 (((nI 6) + ((nI 4) * x1)) + (nI 1)).toNatClampNeg) - r15) → (vp_in (((nI 6) + ((nI 4) * x1)) + (nI 2)) 102 ∧ (vp_in (((nI 6) + ((nI 4) * x1)) + (nI 2)) 102 ∧ (∀ σ26 : gM, σ26 = gU σ24 89 (((nI 6) + ((nI 4) * x1)) + (nI 2)).toNatClampNeg ((σ24 89 (((nI 6) + ((nI 4) * x1)) + (nI 2)).toNatClampNeg) + r19) → (vp_in (((nI 6) + ((nI 4) * x1)) + (nI 3)) 102 ∧ (vp_in (((nI 6) + ((nI 4) * x1)) + (nI 3)) 102 ∧ (∀ σ28 : gM, σ28 = gU σ26 89 (((nI 6) + ((nI 4) * x1)) + (nI 3)).toNatClampNeg ((σ26 89 (((nI 6) + ((nI 4) * x1)) + (nI 3)).toNatClampNeg) + (nI 1)) → (wM_noteAct (nI 0) x2 x1 r15 r19 σ28 (fun (σ30 : gM) => vp_in ((nI 5) * ((σ30 82 20) - (nI 1))) 120 ∧ (∀ σ31 : gM, σ31 = gU σ30 92 ((nI 5) * ((σ30 82 20) - (nI 1))).toNatClampNeg ((nI 3) + r21) → (Q r19 σ31)))))))))))))))))) ∧ (¬ (r15 ≤ (σ15 89 (((nI 6) + ((nI 4) * x1)) + (nI 1)).toNatClampNeg)) → (Q (-1000002 : Int32) σ15)))))))))))))) := h
  refine v_aload_n hC 0 dX7_take_0 rfl ?_
  refine v_iload_n hC 1 dX7_take_1 rfl ?_
  refine v_callV hC (kM_isBuyerAt _ _ _ h) cmM_isBuyerAt ⟨kw1143, kw51⟩ kw1141 ⟨Nat.le_of_ble_eq_true rfl, Nat.le_of_ble_eq_true rfl⟩ (Nat.le_of_ble_eq_true rfl) rfl (ci := 7) (T := TX7) (N := 30) rfl (As := fun G => [.int x1]) (fun _ => rfl) (fun _ => rfl) (st := []) (Nat.le_of_ble_eq_true rfl) rfl dX7_take_2 (kk_i (fun r2 σ2 h => ?_))
  refine v_if_eq hC 17 dX7_take_5 (by decide) (fun c3 => ?_) (fun c3 => ?_)
  · replace h := h.1 c3
    refine v_ldc hC kw1053 dX7_take_17 ?_
    exact v_iret hC hR h dX7_take_19
  · replace h := h.2 c3
    refine v_iload_n hC 2 dX7_take_8 rfl ?_
    refine v_iconst hC (nI 0) dX7_take_9 rfl ?_
    refine v_iconst hC (nI 1) dX7_take_10 rfl ?_
    refine v_callS hC (kM_in _ _ _ _ _ h) cmM_in kw1051 kw1050 ⟨Nat.le_of_ble_eq_true rfl, Nat.le_of_ble_eq_true rfl⟩ (fun _ => rfl) (st := []) (Nat.le_of_ble_eq_true rfl) rfl dX7_take_11 (kk_i (fun r5 σ5 h => ?_))
    refine v_if_ne hC 20 dX7_take_14 (by decide) (fun c6 => ?_) (fun c6 => ?_)
    · replace h := h.2 c6
      refine v_aload_n hC 0 dX7_take_20 rfl ?_
      refine gf_X7_28 hC dX7_take_21 ?_
      refine v_iconst hC (nI 5) dX7_take_24 rfl ?_
      refine v_iald hC (Nat.le_of_ble_eq_true rfl) rfl (j := 5) (by decide) (by unfold vp_in; decide) dX7_take_25 ?_
      refine v_if_ne hC 32 dX7_take_26 (by decide) (fun c8 => ?_) (fun c8 => ?_)
      · replace h := h.2 c8
        refine v_aload_n hC 0 dX7_take_32 rfl ?_
        refine v_iload_n hC 2 dX7_take_33 rfl ?_
        have J9 : ∀ (v11 : Int32) (ev11 : v11 = (if x2 = nI 0 then (nI 0) else ((σ5 89 5) - (nI 1)))), V X 6 49 [(0, .ref (xad X 82)), (1, .int x1), (2, .int x2)] [.int v11, .ref (xad X 82)] σ5 := by
          intro v11 ev11
          replace h := h v11 ev11
          refine v_callV hC (kM_heap _ _ _ h) cmM_heap ⟨kw1148, kw52⟩ kw1146 ⟨Nat.le_of_ble_eq_true rfl, Nat.le_of_ble_eq_true rfl⟩ (Nat.le_of_ble_eq_true rfl) rfl (ci := 7) (T := TX7) (N := 30) rfl (As := fun G => [.int v11]) (fun _ => rfl) (fun _ => rfl) (st := []) (Nat.le_of_ble_eq_true rfl) rfl dX7_take_49 (kk_i (fun r13 σ13 h => ?_))
          refine v_istore_n hC dX7_take_52 (by decide) rfl ?_
          refine v_aload_n hC 1 dX7_take_53 rfl ?_
          refine v_iload_n hC 0 dX7_take_54 rfl ?_
          refine v_iconst hC (nI 0) dX7_take_55 rfl ?_
          refine v_callV hC (kM_valueOf _ _ _ _ h) cmM_valueOf ⟨kw1152, kw53⟩ kw1150 ⟨Nat.le_of_ble_eq_true rfl, Nat.le_of_ble_eq_true rfl⟩ (Nat.le_of_ble_eq_true rfl) rfl (ci := 7) (T := TX7) (N := 30) rfl (As := fun G => [.int r13, .int (nI 0)]) (fun _ => rfl) (fun _ => rfl) (st := []) (Nat.le_of_ble_eq_true rfl) rfl dX7_take_56 (kk_i (fun r15 σ15 h => ?_))
          refine v_istore hC dX7_take_59 (by decide) rfl ?_
          refine v_aload_n hC 2 dX7_take_61 rfl ?_
          refine gf_X7_28 hC dX7_take_62 ?_
          refine v_bipush hC (nI 6) dX7_take_65 rfl ?_
          refine v_iconst hC (nI 4) dX7_take_67 rfl ?_
          refine v_iload_n hC 3 dX7_take_68 rfl ?_
          refine v_imul hC dX7_take_69 ?_
          refine v_iadd hC dX7_take_70 ?_
          refine v_iconst hC (nI 1) dX7_take_71 rfl ?_
          refine v_iadd hC dX7_take_72 ?_
          obtain ⟨hi16, h⟩ := h
          refine v_iald hC (Nat.le_of_ble_eq_true rfl) rfl rfl hi16 dX7_take_73 ?_
          refine v_iload hC 0 dX7_take_74 rfl ?_
          refine v_icmp_ge hC 82 dX7_take_76 (by decide) (fun c17 => ?_) (fun c17 => ?_)
          · replace h := h.1 c17
            refine v_aload_n hC 2 dX7_take_82 rfl ?_
            refine v_iload_n hC 1 dX7_take_83 rfl ?_
            refine v_iload_n hC 3 dX7_take_84 rfl ?_
            refine v_iconst hC (nI 0) dX7_take_85 rfl ?_
            refine v_callV hC (kM_worthOf _ _ _ _ _ h) cmM_worthOf ⟨kw1160, kw55⟩ kw1158 ⟨Nat.le_of_ble_eq_true rfl, Nat.le_of_ble_eq_true rfl⟩ (Nat.le_of_ble_eq_true rfl) rfl (ci := 7) (T := TX7) (N := 30) rfl (As := fun G => [.int r13, .int x1, .int (nI 0)]) (fun _ => rfl) (fun _ => rfl) (st := []) (Nat.le_of_ble_eq_true rfl) rfl dX7_take_86 (kk_i (fun r19 σ19 h => ?_))
            refine v_istore hC dX7_take_89 (by decide) rfl ?_
            refine v_aload_n hC 3 dX7_take_91 rfl ?_
            refine v_iload_n hC 5 dX7_take_92 rfl ?_
            refine v_callV hC (kM_takeAt _ _ _ h) cmM_takeAt ⟨kw1167, kw56⟩ kw1165 ⟨Nat.le_of_ble_eq_true rfl, Nat.le_of_ble_eq_true rfl⟩ (Nat.le_of_ble_eq_true rfl) rfl (ci := 7) (T := TX7) (N := 30) rfl (As := fun G => [.int x2]) (fun _ => rfl) (fun _ => rfl) (st := []) (Nat.le_of_ble_eq_true rfl) rfl dX7_take_93 (kk_i (fun r21 σ21 h => ?_))
            refine v_istore_n hC dX7_take_96 (by decide) rfl ?_
            refine v_aload_n hC 3 dX7_take_97 rfl ?_
            refine gf_X7_28 hC dX7_take_98 ?_
            refine v_bipush hC (nI 22) dX7_take_101 rfl ?_
            refine v_iconst hC (nI 4) dX7_take_103 rfl ?_
            refine v_iload_n hC 0 dX7_take_104 rfl ?_
            refine v_imul hC dX7_take_105 ?_
            refine v_iadd hC dX7_take_106 ?_
            refine v_iconst hC (nI 3) dX7_take_107 rfl ?_
            refine v_iadd hC dX7_take_108 ?_
            refine v_iload_n hC 4 dX7_take_109 rfl ?_
            obtain ⟨hi22, h⟩ := h
            refine v_iast hC (Nat.le_of_ble_eq_true rfl) rfl rfl hi22 dX7_take_110 (fun σ22 e22 => ?_)
            replace h := h σ22 e22
            refine v_aload_n hC 3 dX7_take_111 rfl ?_
            refine gf_X7_28 hC dX7_take_112 ?_
            refine v_bipush hC (nI 6) dX7_take_115 rfl ?_
            refine v_iconst hC (nI 4) dX7_take_117 rfl ?_
            refine v_iload_n hC 4 dX7_take_118 rfl ?_
            refine v_imul hC dX7_take_119 ?_
            refine v_iadd hC dX7_take_120 ?_
            refine v_iconst hC (nI 1) dX7_take_121 rfl ?_
            refine v_iadd hC dX7_take_122 ?_
            refine v_dup2 hC dX7_take_123 rfl rfl ?_
            obtain ⟨hi23, h⟩ := h
            refine v_iald hC (Nat.le_of_ble_eq_true rfl) rfl rfl hi23 dX7_take_124 ?_
            refine v_iload hC 2 dX7_take_125 rfl ?_
            refine v_isub hC dX7_take_127 ?_
            obtain ⟨hi24, h⟩ := h
            refine v_iast hC (Nat.le_of_ble_eq_true rfl) rfl rfl hi24 dX7_take_128 (fun σ24 e24 => ?_)
            replace h := h σ24 e24
            refine v_aload_n hC 3 dX7_take_129 rfl ?_
            refine gf_X7_28 hC dX7_take_130 ?_
            refine v_bipush hC (nI 6) dX7_take_133 rfl ?_
            refine v_iconst hC (nI 4) dX7_take_135 rfl ?_
            refine v_iload_n hC 4 dX7_take_136 rfl ?_
            refine v_imul hC dX7_take_137 ?_
            refine v_iadd hC dX7_take_138 ?_
            refine v_iconst hC (nI 2) dX7_take_139 rfl ?_
            refine v_iadd hC dX7_take_140 ?_
            refine v_dup2 hC dX7_take_141 rfl rfl ?_
            obtain ⟨hi25, h⟩ := h
            refine v_iald hC (Nat.le_of_ble_eq_true rfl) rfl rfl hi25 dX7_take_142 ?_
            refine v_iload hC 1 dX7_take_143 rfl ?_
            refine v_iadd hC dX7_take_145 ?_
            obtain ⟨hi26, h⟩ := h
            refine v_iast hC (Nat.le_of_ble_eq_true rfl) rfl rfl hi26 dX7_take_146 (fun σ26 e26 => ?_)
            replace h := h σ26 e26
            refine v_aload_n hC 3 dX7_take_147 rfl ?_
            refine gf_X7_28 hC dX7_take_148 ?_
            refine v_bipush hC (nI 6) dX7_take_151 rfl ?_
            refine v_iconst hC (nI 4) dX7_take_153 rfl ?_
            refine v_iload_n hC 4 dX7_take_154 rfl ?_
            refine v_imul hC dX7_take_155 ?_
            refine v_iadd hC dX7_take_156 ?_
            refine v_iconst hC (nI 3) dX7_take_157 rfl ?_
            refine v_iadd hC dX7_take_158 ?_
            refine v_dup2 hC dX7_take_159 rfl rfl ?_
            obtain ⟨hi27, h⟩ := h
            refine v_iald hC (Nat.le_of_ble_eq_true rfl) rfl rfl hi27 dX7_take_160 ?_
            refine v_iconst hC (nI 1) dX7_take_161 rfl ?_
            refine v_iadd hC dX7_take_162 ?_
            obtain ⟨hi28, h⟩ := h
            refine v_iast hC (Nat.le_of_ble_eq_true rfl) rfl rfl hi28 dX7_take_163 (fun σ28 e28 => ?_)
            replace h := h σ28 e28
            refine v_aload_n hC 3 dX7_take_164 rfl ?_
            refine v_iconst hC (nI 0) dX7_take_165 rfl ?_
            refine v_iload_n hC 5 dX7_take_166 rfl ?_
            refine v_iload_n hC 4 dX7_take_167 rfl ?_
            refine v_iload hC 2 dX7_take_168 rfl ?_
            refine v_iload hC 1 dX7_take_170 rfl ?_
            refine v_callV hC (kM_noteAct _ _ _ _ _ _ _ h) cmM_noteAct ⟨kw1171, kw57⟩ kw1169 ⟨Nat.le_of_ble_eq_true rfl, Nat.le_of_ble_eq_true rfl⟩ (Nat.le_of_ble_eq_true rfl) rfl (ci := 7) (T := TX7) (N := 30) rfl (As := fun G => [.int (nI 0), .int x2, .int x1, .int r15, .int r19]) (fun _ => rfl) (fun _ => rfl) (st := []) (Nat.le_of_ble_eq_true rfl) rfl dX7_take_172 (kk_v (fun σ30 h => ?_))
            refine v_aload_n hC 3 dX7_take_175 rfl ?_
            refine gf_X7_38 hC dX7_take_176 ?_
            refine v_iconst hC (nI 5) dX7_take_179 rfl ?_
            refine v_aload_n hC 3 dX7_take_180 rfl ?_
            refine gf_X7_173 hC dX7_take_181 ?_
            refine v_iconst hC (nI 1) dX7_take_184 rfl ?_
            refine v_isub hC dX7_take_185 ?_
            refine v_imul hC dX7_take_186 ?_
            refine v_iconst hC (nI 3) dX7_take_187 rfl ?_
            refine v_iload_n hC 0 dX7_take_188 rfl ?_
            refine v_iadd hC dX7_take_189 ?_
            obtain ⟨hi31, h⟩ := h
            refine v_iast hC (Nat.le_of_ble_eq_true rfl) rfl rfl hi31 dX7_take_190 (fun σ31 e31 => ?_)
            replace h := h σ31 e31
            refine v_iload hC 1 dX7_take_191 rfl ?_
            exact v_iret hC hR h dX7_take_193
          · replace h := h.2 c17
            refine v_ldc hC kw1145 dX7_take_79 ?_
            exact v_iret hC hR h dX7_take_81
        refine v_if_ne hC 41 dX7_take_34 (by decide) (fun c9 => ?_) (fun c9 => ?_)
        · refine v_aload_n hC 0 dX7_take_41 rfl ?_
          refine gf_X7_28 hC dX7_take_42 ?_
          refine v_iconst hC (nI 5) dX7_take_45 rfl ?_
          refine v_iald hC (Nat.le_of_ble_eq_true rfl) rfl (j := 5) (by decide) (by unfold vp_in; decide) dX7_take_46 ?_
          refine v_iconst hC (nI 1) dX7_take_47 rfl ?_
          refine v_isub hC dX7_take_48 ?_
          exact V.sub [0, 1, 2] rfl (J9 _ (by rw [if_neg c9]))
        · refine v_iconst hC (nI 0) dX7_take_37 rfl ?_
          refine v_goto hC 49 dX7_take_38 (by decide) ?_
          exact V.sub [0, 1, 2] rfl (J9 _ (by rw [if_pos c9]))
      · replace h := h.1 c8
        refine v_ldc hC kw1145 dX7_take_29 ?_
        exact v_iret hC hR h dX7_take_31
    · replace h := h.1 c6
      refine v_ldc hC kw1053 dX7_take_17 ?_
      exact v_iret hC hR h dX7_take_19
theorem cmM_take : CM yX7_take cX7_take 6 (some .int) rmM_take 2 := ⟨kw82, kw1140, rfl, rfl, by decide, by decide, by decide +kernel⟩
def rmM_putAt : Room := { frames := 1, cells := 0, slots := 0, locals := 21 }
def wM_putAt_b37 (Q : gM → Prop)  (x1 : Int32) (x2 : Int32) (σ : gM) : Prop :=
    ∀ v7 : Int32, v7 = (if x1 = nI 0 then (nI 86) else ((nI 86) + (σ 89 5))) → (vp_in v7 102 ∧ (∀ σ8 : gM, σ8 = gU σ 89 v7.toNatClampNeg x2 → (∀ σ10 : gM, σ10 = gU σ8 89 5 ((σ8 89 5) + (nI 1)) → (Q σ10))))
def wM_putAt_l11 (Q : gM → Prop)  : Nat → Int32 → Int32 → Int32 → gM → Prop
  | 0, _, _, _, _ => False
  | n + 1, x1, x2, x3, σ =>
    (x3 ≤ nI 0 → (wM_putAt_b37 Q x1 x2 σ)) ∧ (¬ (x3 ≤ nI 0) → (wM_heap (x3 - (nI 1)) σ (fun (r13 : Int32) (σ13 : gM) => vp_in ((nI 86) + x3) 102 ∧ (∀ σ14 : gM, σ14 = gU σ13 89 ((nI 86) + x3).toNatClampNeg r13 → (∀ x3_15 : Int32, x3_15 = x3 + (-1 : Int32) → (wM_putAt_l11 Q n x1 x2 x3_15 σ14))))))
def wM_putAt (x1 : Int32) (x2 : Int32) (σ : gM) (Q : gM → Prop) : Prop :=
    (x1 = nI 0 → (∀ x3_3 : Int32, x3_3 = (σ 89 5) → (∃ n16 : Nat, wM_putAt_l11 Q n16 x1 x2 x3_3 σ))) ∧ (¬ (x1 = nI 0) → (wM_putAt_b37 Q x1 x2 σ))
set_option maxHeartbeats 4000000 in
set_option maxRecDepth 100000 in
theorem tM_putAt_b37 {X : gX} {Q : gM → Prop} (hC : VC X cX7_putAt RX7 4 rmM_putAt) (hR : VR X none (gPv Q))  (x1 : Int32) (x2 : Int32) (σ : gM) (h : wM_putAt_b37 Q  x1 x2 σ) : V X 4 37 [(0, .ref (xad X 82)), (1, .int x1), (2, .int x2)] [] σ := by
  replace h : ∀ v7 : Int32, v7 = (if x1 = nI 0 then (nI 86) else ((nI 86) + (σ 89 5))) → (vp_in v7 102 ∧ (∀ σ8 : gM, σ8 = gU σ 89 v7.toNatClampNeg x2 → (∀ σ10 : gM, σ10 = gU σ8 89 5 ((σ8 89 5) + (nI 1)) → (Q σ10)))) := h
  refine v_aload_n hC 0 dX7_putAt_37 rfl ?_
  refine gf_X7_28 hC dX7_putAt_38 ?_
  refine v_iload_n hC 1 dX7_putAt_41 rfl ?_
  have J5 : ∀ (v7 : Int32) (ev7 : v7 = (if x1 = nI 0 then (nI 86) else ((nI 86) + (σ 89 5)))), V X 4 59 [(0, .ref (xad X 82)), (2, .int x2)] [.int v7, .ref (xad X 89)] σ := by
    intro v7 ev7
    replace h := h v7 ev7
    refine v_iload_n hC 1 dX7_putAt_59 rfl ?_
    obtain ⟨hi8, h⟩ := h
    refine v_iast hC (Nat.le_of_ble_eq_true rfl) rfl rfl hi8 dX7_putAt_60 (fun σ8 e8 => ?_)
    replace h := h σ8 e8
    refine v_aload_n hC 0 dX7_putAt_61 rfl ?_
    refine gf_X7_28 hC dX7_putAt_62 ?_
    refine v_iconst hC (nI 5) dX7_putAt_65 rfl ?_
    refine v_dup2 hC dX7_putAt_66 rfl rfl ?_
    refine v_iald hC (Nat.le_of_ble_eq_true rfl) rfl (j := 5) (by decide) (by unfold vp_in; decide) dX7_putAt_67 ?_
    refine v_iconst hC (nI 1) dX7_putAt_68 rfl ?_
    refine v_iadd hC dX7_putAt_69 ?_
    refine v_iast hC (Nat.le_of_ble_eq_true rfl) rfl (j := 5) (by decide) (by unfold vp_in; decide) dX7_putAt_70 (fun σ10 e10 => ?_)
    replace h := h σ10 e10
    exact v_vret hC hR h dX7_putAt_71
  refine v_if_ne hC 50 dX7_putAt_42 (by decide) (fun c5 => ?_) (fun c5 => ?_)
  · refine v_bipush hC (nI 86) dX7_putAt_50 rfl ?_
    refine v_aload_n hC 0 dX7_putAt_52 rfl ?_
    refine gf_X7_28 hC dX7_putAt_53 ?_
    refine v_iconst hC (nI 5) dX7_putAt_56 rfl ?_
    refine v_iald hC (Nat.le_of_ble_eq_true rfl) rfl (j := 5) (by decide) (by unfold vp_in; decide) dX7_putAt_57 ?_
    refine v_iadd hC dX7_putAt_58 ?_
    exact V.sub [0, 2] rfl (J5 _ (by rw [if_neg c5]))
  · refine v_bipush hC (nI 86) dX7_putAt_45 rfl ?_
    refine v_goto hC 59 dX7_putAt_47 (by decide) ?_
    exact V.sub [0, 2] rfl (J5 _ (by rw [if_pos c5]))
set_option maxHeartbeats 4000000 in
set_option maxRecDepth 100000 in
theorem tM_putAt_l11 {X : gX} {Q : gM → Prop} (hC : VC X cX7_putAt RX7 4 rmM_putAt) (hR : VR X none (gPv Q))  : ∀ (n : Nat) (x1 : Int32) (x2 : Int32) (x3 : Int32) (σ : gM), wM_putAt_l11 Q  n x1 x2 x3 σ → V X 4 11 [(0, .ref (xad X 82)), (1, .int x1), (2, .int x2), (3, .int x3)] [] σ := by
  intro n
  induction n with
  | zero => intro x1 x2 x3 σ h; exact h.elim
  | succ n ih =>
    intro x1 x2 x3 σ h
    replace h : (x3 ≤ nI 0 → (wM_putAt_b37 Q x1 x2 σ)) ∧ (¬ (x3 ≤ nI 0) → (wM_heap (x3 - (nI 1)) σ (fun (r13 : Int32) (σ13 : gM) => vp_in ((nI 86) + x3) 102 ∧ (∀ σ14 : gM, σ14 = gU σ13 89 ((nI 86) + x3).toNatClampNeg r13 → (∀ x3_15 : Int32, x3_15 = x3 + (-1 : Int32) → (wM_putAt_l11 Q n x1 x2 x3_15 σ14)))))) := h
    refine v_iload_n hC 3 dX7_putAt_11 rfl ?_
    refine v_if_le hC 37 dX7_putAt_12 (by decide) (fun c4 => ?_) (fun c4 => ?_)
    · replace h := h.1 c4
      exact V.sub [0, 1, 2] rfl (tM_putAt_b37 hC hR  _ _ _ h)
    · replace h := h.2 c4
      refine v_aload_n hC 0 dX7_putAt_15 rfl ?_
      refine gf_X7_28 hC dX7_putAt_16 ?_
      refine v_bipush hC (nI 86) dX7_putAt_19 rfl ?_
      refine v_iload_n hC 3 dX7_putAt_21 rfl ?_
      refine v_iadd hC dX7_putAt_22 ?_
      refine v_aload_n hC 0 dX7_putAt_23 rfl ?_
      refine v_iload_n hC 3 dX7_putAt_24 rfl ?_
      refine v_iconst hC (nI 1) dX7_putAt_25 rfl ?_
      refine v_isub hC dX7_putAt_26 ?_
      refine v_callV hC (kM_heap _ _ _ h) cmM_heap ⟨kw1148, kw52⟩ kw1146 ⟨Nat.le_of_ble_eq_true rfl, Nat.le_of_ble_eq_true rfl⟩ (Nat.le_of_ble_eq_true rfl) rfl (ci := 7) (T := TX7) (N := 30) rfl (As := fun G => [.int (x3 - (nI 1))]) (fun _ => rfl) (fun _ => rfl) (st := [.int ((nI 86) + x3), .ref (xad X 89)]) (Nat.le_of_ble_eq_true rfl) rfl dX7_putAt_27 (kk_i (fun r13 σ13 h => ?_))
      obtain ⟨hi14, h⟩ := h
      refine v_iast hC (Nat.le_of_ble_eq_true rfl) rfl rfl hi14 dX7_putAt_30 (fun σ14 e14 => ?_)
      replace h := h σ14 e14
      refine v_iincN hC (-1 : Int32) 3 dX7_putAt_31 rfl rfl (by decide) (lo2 := fun x3_15 => [(3, .int x3_15), (0, .ref (xad X 82)), (1, .int x1), (2, .int x2)]) (fun _ => rfl) (fun x3_15 e15 => ?_)
      replace h := h x3_15 e15
      refine v_goto hC 11 dX7_putAt_34 (by decide) ?_
      exact V.sub [1, 2, 3, 0] rfl (ih _ _ _ _ h)
set_option maxHeartbeats 4000000 in
set_option maxRecDepth 100000 in
theorem kM_putAt (x1 : Int32) (x2 : Int32) (σ : gM) (Q : gM → Prop) (h : wM_putAt x1 x2 σ Q) : CT yX7_putAt cX7_putAt 4 none rmM_putAt (fun G => [.ref (gad G 82), .int x1, .int x2]) σ (gPv Q) := by
  refine c_enter (by decide) (fun _ => Nat.le_of_ble_eq_true rfl) (fun X hC hR => ?_)
  show V X 4 0 [(0, .ref (xad X 82)), (1, .int x1), (2, .int x2)] [] σ
  replace h : (x1 = nI 0 → (∀ x3_3 : Int32, x3_3 = (σ 89 5) → (∃ n16 : Nat, wM_putAt_l11 Q n16 x1 x2 x3_3 σ))) ∧ (¬ (x1 = nI 0) → (wM_putAt_b37 Q x1 x2 σ)) := h
  refine v_iload_n hC 1 dX7_putAt_0 rfl ?_
  refine v_if_ne hC 37 dX7_putAt_1 (by decide) (fun c1 => ?_) (fun c1 => ?_)
  · replace h := h.2 c1
    exact V.sub [0, 1, 2] rfl (tM_putAt_b37 hC hR  _ _ _ h)
  · replace h := h.1 c1
    refine v_aload_n hC 0 dX7_putAt_4 rfl ?_
    refine gf_X7_28 hC dX7_putAt_5 ?_
    refine v_iconst hC (nI 5) dX7_putAt_8 rfl ?_
    refine v_iald hC (Nat.le_of_ble_eq_true rfl) rfl (j := 5) (by decide) (by unfold vp_in; decide) dX7_putAt_9 ?_
    refine v_istore_nN hC dX7_putAt_10 (by decide) (lo2 := fun x3_3 => [(3, .int x3_3), (0, .ref (xad X 82)), (1, .int x1), (2, .int x2)]) (fun _ => rfl) (fun x3_3 e3 => ?_)
    replace h := h x3_3 e3
    obtain ⟨n16, h⟩ := h
    exact V.sub [1, 2, 3, 0] rfl (tM_putAt_l11 hC hR  n16 _ _ _ _ h)
theorem cmM_putAt : CM yX7_putAt cX7_putAt 4 none rmM_putAt 2 := ⟨kw82, kw1180, rfl, rfl, by decide, by decide, by decide +kernel⟩
def rmM_lay : Room := { frames := 2, cells := 0, slots := 0, locals := 44 }
def wM_lay (x1 : Int32) (x2 : Int32) (x3 : Int32) (σ : gM) (Q : Int32 → gM → Prop) : Prop :=
    ((σ 89 0) = nI 0 → (Q (-1000002 : Int32) σ)) ∧ (¬ ((σ 89 0) = nI 0) → (wM_in x1 (nI 1) (nI 5) σ (fun (r4 : Int32) (σ4 : gM) => (r4 = nI 0 → (Q (-1000001 : Int32) σ4)) ∧ (¬ (r4 = nI 0) → (wM_in x2 (nI 0) (nI 30) σ4 (fun (r7 : Int32) (σ7 : gM) => (r7 = nI 0 → (Q (-1000001 : Int32) σ7)) ∧ (¬ (r7 = nI 0) → (wM_in x3 (nI 0) (nI 1) σ7 (fun (r10 : Int32) (σ10 : gM) => (r10 = nI 0 → (Q (-1000001 : Int32) σ10)) ∧ (¬ (r10 = nI 0) → (((σ10 89 3) = (nI 16) → (Q (-1000003 : Int32) σ10)) ∧ (¬ ((σ10 89 3) = (nI 16)) → (∀ x4_15 : Int32, x4_15 = (σ10 89 3) → (∀ σ17 : gM, σ17 = gU σ10 89 3 ((σ10 89 3) + (nI 1)) → (vp_in ((nI 22) + ((nI 4) * x4_15)) 102 ∧ (∀ σ18 : gM, σ18 = gU σ17 89 ((nI 22) + ((nI 4) * x4_15)).toNatClampNeg x1 → (vp_in (((nI 22) + ((nI 4) * x4_15)) + (nI 1)) 102 ∧ (∀ σ19 : gM, σ19 = gU σ18 89 (((nI 22) + ((nI 4) * x4_15)) + (nI 1)).toNatClampNeg x2 → (vp_in (((nI 22) + ((nI 4) * x4_15)) + (nI 2)) 102 ∧ (∀ σ20 : gM, σ20 = gU σ19 89 (((nI 22) + ((nI 4) * x4_15)) + (nI 2)).toNatClampNeg (nI 0) → (vp_in (((nI 22) + ((nI 4) * x4_15)) + (nI 3)) 102 ∧ (∀ σ21 : gM, σ21 = gU σ20 89 (((nI 22) + ((nI 4) * x4_15)) + (nI 3)).toNatClampNeg (-1000000 : Int32) → (wM_putAt x3 x4_15 σ21 (fun (σ23 : gM) => wM_noteAct (nI 1) x3 (nI 0) (nI 0) (nI 0) σ23 (fun (σ25 : gM) => Q x4_15 σ25)))))))))))))))))))))))))
set_option maxHeartbeats 4000000 in
set_option maxRecDepth 100000 in
theorem kM_lay (x1 : Int32) (x2 : Int32) (x3 : Int32) (σ : gM) (Q : Int32 → gM → Prop) (h : wM_lay x1 x2 x3 σ Q) : CT yX7_lay cX7_lay 5 (some .int) rmM_lay (fun G => [.ref (gad G 82), .int x1, .int x2, .int x3]) σ (gPi Q) := by
  refine c_enter (by decide) (fun _ => Nat.le_of_ble_eq_true rfl) (fun X hC hR => ?_)
  show V X 5 0 [(0, .ref (xad X 82)), (1, .int x1), (2, .int x2), (3, .int x3)] [] σ
  replace h : ((σ 89 0) = nI 0 → (Q (-1000002 : Int32) σ)) ∧ (¬ ((σ 89 0) = nI 0) → (wM_in x1 (nI 1) (nI 5) σ (fun (r4 : Int32) (σ4 : gM) => (r4 = nI 0 → (Q (-1000001 : Int32) σ4)) ∧ (¬ (r4 = nI 0) → (wM_in x2 (nI 0) (nI 30) σ4 (fun (r7 : Int32) (σ7 : gM) => (r7 = nI 0 → (Q (-1000001 : Int32) σ7)) ∧ (¬ (r7 = nI 0) → (wM_in x3 (nI 0) (nI 1) σ7 (fun (r10 : Int32) (σ10 : gM) => (r10 = nI 0 → (Q (-1000001 : Int32) σ10)) ∧ (¬ (r10 = nI 0) → (((σ10 89 3) = (nI 16) → (Q (-1000003 : Int32) σ10)) ∧ (¬ ((σ10 89 3) = (nI 16)) → (∀ x4_15 : Int32, x4_15 = (σ10 89 3) → (∀ σ17 : gM, σ17 = gU σ10 89 3 ((σ10 89 3) + (nI 1)) → (vp_in ((nI 22) + ((nI 4) * x4_15)) 102 ∧ (∀ σ18 : gM, σ18 = gU σ17 89 ((nI 22) + ((nI 4) * x4_15)).toNatClampNeg x1 → (vp_in (((nI 22) + ((nI 4) * x4_15)) + (nI 1)) 102 ∧ (∀ σ19 : gM, σ19 = gU σ18 89 (((nI 22) + ((nI 4) * x4_15)) + (nI 1)).toNatClampNeg x2 → (vp_in (((nI 22) + ((nI 4) * x4_15)) + (nI 2)) 102 ∧ (∀ σ20 : gM, σ20 = gU σ19 89 (((nI 22) + ((nI 4) * x4_15)) + (nI 2)).toNatClampNeg (nI 0) → (vp_in (((nI 22) + ((nI 4) * x4_15)) + (nI 3)) 102 ∧ (∀ σ21 : gM, σ21 = gU σ20 89 (((nI 22) + ((nI 4) * x4_15)) + (nI 3)).toNatClampNeg (-1000000 : Int32) → (wM_putAt x3 x4_15 σ21 (fun (σ23 : gM) => wM_noteAct (nI 1) x3 (nI 0) (nI 0) (nI 0) σ23 (fun (σ25 : gM) => Q x4_15 σ25))))))))))))))))))))))))) := h
  refine v_aload_n hC 0 dX7_lay_0 rfl ?_
  refine gf_X7_28 hC dX7_lay_1 ?_
  refine v_iconst hC (nI 0) dX7_lay_4 rfl ?_
  refine v_iald hC (Nat.le_of_ble_eq_true rfl) rfl (j := 0) (by decide) (by unfold vp_in; decide) dX7_lay_5 ?_
  refine v_if_ne hC 12 dX7_lay_6 (by decide) (fun c2 => ?_) (fun c2 => ?_)
  · replace h := h.2 c2
    refine v_iload_n hC 1 dX7_lay_12 rfl ?_
    refine v_iconst hC (nI 1) dX7_lay_13 rfl ?_
    refine v_iconst hC (nI 5) dX7_lay_14 rfl ?_
    refine v_callS hC (kM_in _ _ _ _ _ h) cmM_in kw1051 kw1050 ⟨Nat.le_of_ble_eq_true rfl, Nat.le_of_ble_eq_true rfl⟩ (fun _ => rfl) (st := []) (Nat.le_of_ble_eq_true rfl) rfl dX7_lay_15 (kk_i (fun r4 σ4 h => ?_))
    refine v_if_eq hC 40 dX7_lay_18 (by decide) (fun c5 => ?_) (fun c5 => ?_)
    · replace h := h.1 c5
      refine v_ldc hC kw1053 dX7_lay_40 ?_
      exact v_iret hC hR h dX7_lay_42
    · replace h := h.2 c5
      refine v_iload_n hC 2 dX7_lay_21 rfl ?_
      refine v_iconst hC (nI 0) dX7_lay_22 rfl ?_
      refine v_bipush hC (nI 30) dX7_lay_23 rfl ?_
      refine v_callS hC (kM_in _ _ _ _ _ h) cmM_in kw1051 kw1050 ⟨Nat.le_of_ble_eq_true rfl, Nat.le_of_ble_eq_true rfl⟩ (fun _ => rfl) (st := []) (Nat.le_of_ble_eq_true rfl) rfl dX7_lay_25 (kk_i (fun r7 σ7 h => ?_))
      refine v_if_eq hC 40 dX7_lay_28 (by decide) (fun c8 => ?_) (fun c8 => ?_)
      · replace h := h.1 c8
        refine v_ldc hC kw1053 dX7_lay_40 ?_
        exact v_iret hC hR h dX7_lay_42
      · replace h := h.2 c8
        refine v_iload_n hC 3 dX7_lay_31 rfl ?_
        refine v_iconst hC (nI 0) dX7_lay_32 rfl ?_
        refine v_iconst hC (nI 1) dX7_lay_33 rfl ?_
        refine v_callS hC (kM_in _ _ _ _ _ h) cmM_in kw1051 kw1050 ⟨Nat.le_of_ble_eq_true rfl, Nat.le_of_ble_eq_true rfl⟩ (fun _ => rfl) (st := []) (Nat.le_of_ble_eq_true rfl) rfl dX7_lay_34 (kk_i (fun r10 σ10 h => ?_))
        refine v_if_ne hC 43 dX7_lay_37 (by decide) (fun c11 => ?_) (fun c11 => ?_)
        · replace h := h.2 c11
          refine v_aload_n hC 0 dX7_lay_43 rfl ?_
          refine gf_X7_28 hC dX7_lay_44 ?_
          refine v_iconst hC (nI 3) dX7_lay_47 rfl ?_
          refine v_iald hC (Nat.le_of_ble_eq_true rfl) rfl (j := 3) (by decide) (by unfold vp_in; decide) dX7_lay_48 ?_
          refine v_bipush hC (nI 16) dX7_lay_49 rfl ?_
          refine v_icmp_ne hC 57 dX7_lay_51 (by decide) (fun c13 => ?_) (fun c13 => ?_)
          · replace h := h.2 c13
            refine v_aload_n hC 0 dX7_lay_57 rfl ?_
            refine gf_X7_28 hC dX7_lay_58 ?_
            refine v_iconst hC (nI 3) dX7_lay_61 rfl ?_
            refine v_iald hC (Nat.le_of_ble_eq_true rfl) rfl (j := 3) (by decide) (by unfold vp_in; decide) dX7_lay_62 ?_
            refine v_istoreN hC dX7_lay_63 (by decide) (lo2 := fun x4_15 => [(4, .int x4_15), (0, .ref (xad X 82)), (1, .int x1), (2, .int x2), (3, .int x3)]) (fun _ => rfl) (fun x4_15 e15 => ?_)
            replace h := h x4_15 e15
            refine v_aload_n hC 1 dX7_lay_65 rfl ?_
            refine gf_X7_28 hC dX7_lay_66 ?_
            refine v_iconst hC (nI 3) dX7_lay_69 rfl ?_
            refine v_dup2 hC dX7_lay_70 rfl rfl ?_
            refine v_iald hC (Nat.le_of_ble_eq_true rfl) rfl (j := 3) (by decide) (by unfold vp_in; decide) dX7_lay_71 ?_
            refine v_iconst hC (nI 1) dX7_lay_72 rfl ?_
            refine v_iadd hC dX7_lay_73 ?_
            refine v_iast hC (Nat.le_of_ble_eq_true rfl) rfl (j := 3) (by decide) (by unfold vp_in; decide) dX7_lay_74 (fun σ17 e17 => ?_)
            replace h := h σ17 e17
            refine v_aload_n hC 1 dX7_lay_75 rfl ?_
            refine gf_X7_28 hC dX7_lay_76 ?_
            refine v_bipush hC (nI 22) dX7_lay_79 rfl ?_
            refine v_iconst hC (nI 4) dX7_lay_81 rfl ?_
            refine v_iload hC 0 dX7_lay_82 rfl ?_
            refine v_imul hC dX7_lay_84 ?_
            refine v_iadd hC dX7_lay_85 ?_
            refine v_iload_n hC 2 dX7_lay_86 rfl ?_
            obtain ⟨hi18, h⟩ := h
            refine v_iast hC (Nat.le_of_ble_eq_true rfl) rfl rfl hi18 dX7_lay_87 (fun σ18 e18 => ?_)
            replace h := h σ18 e18
            refine v_aload_n hC 1 dX7_lay_88 rfl ?_
            refine gf_X7_28 hC dX7_lay_89 ?_
            refine v_bipush hC (nI 22) dX7_lay_92 rfl ?_
            refine v_iconst hC (nI 4) dX7_lay_94 rfl ?_
            refine v_iload hC 0 dX7_lay_95 rfl ?_
            refine v_imul hC dX7_lay_97 ?_
            refine v_iadd hC dX7_lay_98 ?_
            refine v_iconst hC (nI 1) dX7_lay_99 rfl ?_
            refine v_iadd hC dX7_lay_100 ?_
            refine v_iload_n hC 3 dX7_lay_101 rfl ?_
            obtain ⟨hi19, h⟩ := h
            refine v_iast hC (Nat.le_of_ble_eq_true rfl) rfl rfl hi19 dX7_lay_102 (fun σ19 e19 => ?_)
            replace h := h σ19 e19
            refine v_aload_n hC 1 dX7_lay_103 rfl ?_
            refine gf_X7_28 hC dX7_lay_104 ?_
            refine v_bipush hC (nI 22) dX7_lay_107 rfl ?_
            refine v_iconst hC (nI 4) dX7_lay_109 rfl ?_
            refine v_iload hC 0 dX7_lay_110 rfl ?_
            refine v_imul hC dX7_lay_112 ?_
            refine v_iadd hC dX7_lay_113 ?_
            refine v_iconst hC (nI 2) dX7_lay_114 rfl ?_
            refine v_iadd hC dX7_lay_115 ?_
            refine v_iconst hC (nI 0) dX7_lay_116 rfl ?_
            obtain ⟨hi20, h⟩ := h
            refine v_iast hC (Nat.le_of_ble_eq_true rfl) rfl rfl hi20 dX7_lay_117 (fun σ20 e20 => ?_)
            replace h := h σ20 e20
            refine v_aload_n hC 1 dX7_lay_118 rfl ?_
            refine gf_X7_28 hC dX7_lay_119 ?_
            refine v_bipush hC (nI 22) dX7_lay_122 rfl ?_
            refine v_iconst hC (nI 4) dX7_lay_124 rfl ?_
            refine v_iload hC 0 dX7_lay_125 rfl ?_
            refine v_imul hC dX7_lay_127 ?_
            refine v_iadd hC dX7_lay_128 ?_
            refine v_iconst hC (nI 3) dX7_lay_129 rfl ?_
            refine v_iadd hC dX7_lay_130 ?_
            refine v_ldc hC kw1132 dX7_lay_131 ?_
            obtain ⟨hi21, h⟩ := h
            refine v_iast hC (Nat.le_of_ble_eq_true rfl) rfl rfl hi21 dX7_lay_133 (fun σ21 e21 => ?_)
            replace h := h σ21 e21
            refine v_aload_n hC 1 dX7_lay_134 rfl ?_
            refine v_iload_n hC 4 dX7_lay_135 rfl ?_
            refine v_iload hC 0 dX7_lay_136 rfl ?_
            refine v_callV hC (kM_putAt _ _ _ _ h) cmM_putAt ⟨kw1179, kw58⟩ kw1177 ⟨Nat.le_of_ble_eq_true rfl, Nat.le_of_ble_eq_true rfl⟩ (Nat.le_of_ble_eq_true rfl) rfl (ci := 7) (T := TX7) (N := 30) rfl (As := fun G => [.int x3, .int x4_15]) (fun _ => rfl) (fun _ => rfl) (st := []) (Nat.le_of_ble_eq_true rfl) rfl dX7_lay_138 (kk_v (fun σ23 h => ?_))
            refine v_aload_n hC 1 dX7_lay_141 rfl ?_
            refine v_iconst hC (nI 1) dX7_lay_142 rfl ?_
            refine v_iload_n hC 4 dX7_lay_143 rfl ?_
            refine v_iconst hC (nI 0) dX7_lay_144 rfl ?_
            refine v_iconst hC (nI 0) dX7_lay_145 rfl ?_
            refine v_iconst hC (nI 0) dX7_lay_146 rfl ?_
            refine v_callV hC (kM_noteAct _ _ _ _ _ _ _ h) cmM_noteAct ⟨kw1171, kw57⟩ kw1169 ⟨Nat.le_of_ble_eq_true rfl, Nat.le_of_ble_eq_true rfl⟩ (Nat.le_of_ble_eq_true rfl) rfl (ci := 7) (T := TX7) (N := 30) rfl (As := fun G => [.int (nI 1), .int x3, .int (nI 0), .int (nI 0), .int (nI 0)]) (fun _ => rfl) (fun _ => rfl) (st := []) (Nat.le_of_ble_eq_true rfl) rfl dX7_lay_147 (kk_v (fun σ25 h => ?_))
            refine v_iload hC 0 dX7_lay_150 rfl ?_
            exact v_iret hC hR h dX7_lay_152
          · replace h := h.1 c13
            refine v_ldc hC kw1083 dX7_lay_54 ?_
            exact v_iret hC hR h dX7_lay_56
        · replace h := h.1 c11
          refine v_ldc hC kw1053 dX7_lay_40 ?_
          exact v_iret hC hR h dX7_lay_42
  · replace h := h.1 c2
    refine v_ldc hC kw1145 dX7_lay_9 ?_
    exact v_iret hC hR h dX7_lay_11
theorem cmM_lay : CM yX7_lay cX7_lay 5 (some .int) rmM_lay 3 := ⟨kw82, kw1176, rfl, rfl, by decide, by decide, by decide +kernel⟩
def rmM_rotten : Room := { frames := 2, cells := 0, slots := 0, locals := 46 }
def wM_rotten_l4 (Q : Int32 → gM → Prop)  : Nat → Int32 → Int32 → Int32 → gM → Prop
  | 0, _, _, _, _ => False
  | n + 1, x1, x2, x3, σ =>
    ((σ 89 5) ≤ x3 → (Q x2 σ)) ∧ (¬ ((σ 89 5) ≤ x3) → (wM_heap x3 σ (fun (r4 : Int32) (σ4 : gM) => wM_valueOf r4 x1 σ4 (fun (r6 : Int32) (σ6 : gM) => (r6 = nI 0 → (wM_heap x3 σ6 (fun (r9 : Int32) (σ9 : gM) => ∀ x2_10 : Int32, x2_10 = (x2 ||| ((nI 1) <<< (r9 &&& 31))) → (∀ x3_11 : Int32, x3_11 = x3 + (nI 1) → (wM_rotten_l4 Q n x1 x2_10 x3_11 σ9))))) ∧ (¬ (r6 = nI 0) → (∀ x2_12 : Int32, x2_12 = (x2 ||| (nI 0)) → (∀ x3_13 : Int32, x3_13 = x3 + (nI 1) → (wM_rotten_l4 Q n x1 x2_12 x3_13 σ6))))))))
def wM_rotten (x1 : Int32) (σ : gM) (Q : Int32 → gM → Prop) : Prop :=
    ∃ n14 : Nat, wM_rotten_l4 Q n14 x1 (nI 0) (nI 0) σ
set_option maxHeartbeats 4000000 in
set_option maxRecDepth 100000 in
theorem tM_rotten_l4 {X : gX} {Q : Int32 → gM → Prop} (hC : VC X cX7_rotten RX7 4 rmM_rotten) (hR : VR X (some .int) (gPi Q))  : ∀ (n : Nat) (x1 : Int32) (x2 : Int32) (x3 : Int32) (σ : gM), wM_rotten_l4 Q  n x1 x2 x3 σ → V X 4 4 [(0, .ref (xad X 82)), (1, .int x1), (2, .int x2), (3, .int x3)] [] σ := by
  intro n
  induction n with
  | zero => intro x1 x2 x3 σ h; exact h.elim
  | succ n ih =>
    intro x1 x2 x3 σ h
    replace h : ((σ 89 5) ≤ x3 → (Q x2 σ)) ∧ (¬ ((σ 89 5) ≤ x3) → (wM_heap x3 σ (fun (r4 : Int32) (σ4 : gM) => wM_valueOf r4 x1 σ4 (fun (r6 : Int32) (σ6 : gM) => (r6 = nI 0 → (wM_heap x3 σ6 (fun (r9 : Int32) (σ9 : gM) => ∀ x2_10 : Int32, x2_10 = (x2 ||| ((nI 1) <<< (r9 &&& 31))) → (∀ x3_11 : Int32, x3_11 = x3 + (nI 1) → (wM_rotten_l4 Q n x1 x2_10 x3_11 σ9))))) ∧ (¬ (r6 = nI 0) → (∀ x2_12 : Int32, x2_12 = (x2 ||| (nI 0)) → (∀ x3_13 : Int32, x3_13 = x3 + (nI 1) → (wM_rotten_l4 Q n x1 x2_12 x3_13 σ6)))))))) := h
    refine v_iload_n hC 3 dX7_rotten_4 rfl ?_
    refine v_aload_n hC 0 dX7_rotten_5 rfl ?_
    refine gf_X7_28 hC dX7_rotten_6 ?_
    refine v_iconst hC (nI 5) dX7_rotten_9 rfl ?_
    refine v_iald hC (Nat.le_of_ble_eq_true rfl) rfl (j := 5) (by decide) (by unfold vp_in; decide) dX7_rotten_10 ?_
    refine v_icmp_ge hC 47 dX7_rotten_11 (by decide) (fun c2 => ?_) (fun c2 => ?_)
    · replace h := h.1 c2
      refine v_iload_n hC 2 dX7_rotten_47 rfl ?_
      exact v_iret hC hR h dX7_rotten_48
    · replace h := h.2 c2
      refine v_iload_n hC 2 dX7_rotten_14 rfl ?_
      refine v_aload_n hC 0 dX7_rotten_15 rfl ?_
      refine v_aload_n hC 0 dX7_rotten_16 rfl ?_
      refine v_iload_n hC 3 dX7_rotten_17 rfl ?_
      refine v_callV hC (kM_heap _ _ _ h) cmM_heap ⟨kw1148, kw52⟩ kw1146 ⟨Nat.le_of_ble_eq_true rfl, Nat.le_of_ble_eq_true rfl⟩ (Nat.le_of_ble_eq_true rfl) rfl (ci := 7) (T := TX7) (N := 30) rfl (As := fun G => [.int x3]) (fun _ => rfl) (fun _ => rfl) (st := [.ref (xad X 82), .int x2]) (Nat.le_of_ble_eq_true rfl) rfl dX7_rotten_18 (kk_i (fun r4 σ4 h => ?_))
      refine v_iload_n hC 1 dX7_rotten_21 rfl ?_
      refine v_callV hC (kM_valueOf _ _ _ _ h) cmM_valueOf ⟨kw1152, kw53⟩ kw1150 ⟨Nat.le_of_ble_eq_true rfl, Nat.le_of_ble_eq_true rfl⟩ (Nat.le_of_ble_eq_true rfl) rfl (ci := 7) (T := TX7) (N := 30) rfl (As := fun G => [.int r4, .int x1]) (fun _ => rfl) (fun _ => rfl) (st := [.int x2]) (Nat.le_of_ble_eq_true rfl) rfl dX7_rotten_22 (kk_i (fun r6 σ6 h => ?_))
      refine v_if_ne hC 38 dX7_rotten_25 (by decide) (fun c7 => ?_) (fun c7 => ?_)
      · replace h := h.2 c7
        refine v_iconst hC (nI 0) dX7_rotten_38 rfl ?_
        refine v_ior hC dX7_rotten_39 ?_
        refine v_istore_nN hC dX7_rotten_40 (by decide) (lo2 := fun x2_12 => [(2, .int x2_12), (0, .ref (xad X 82)), (1, .int x1), (3, .int x3)]) (fun _ => rfl) (fun x2_12 e12 => ?_)
        replace h := h x2_12 e12
        refine v_iincN hC (nI 1) 3 dX7_rotten_41 rfl rfl (by decide) (lo2 := fun x3_13 => [(3, .int x3_13), (2, .int x2_12), (0, .ref (xad X 82)), (1, .int x1)]) (fun _ => rfl) (fun x3_13 e13 => ?_)
        replace h := h x3_13 e13
        refine v_goto hC 4 dX7_rotten_44 (by decide) ?_
        exact V.sub [2, 3, 1, 0] rfl (ih _ _ _ _ h)
      · replace h := h.1 c7
        refine v_iconst hC (nI 1) dX7_rotten_28 rfl ?_
        refine v_aload_n hC 0 dX7_rotten_29 rfl ?_
        refine v_iload_n hC 3 dX7_rotten_30 rfl ?_
        refine v_callV hC (kM_heap _ _ _ h) cmM_heap ⟨kw1148, kw52⟩ kw1146 ⟨Nat.le_of_ble_eq_true rfl, Nat.le_of_ble_eq_true rfl⟩ (Nat.le_of_ble_eq_true rfl) rfl (ci := 7) (T := TX7) (N := 30) rfl (As := fun G => [.int x3]) (fun _ => rfl) (fun _ => rfl) (st := [.int (nI 1), .int x2]) (Nat.le_of_ble_eq_true rfl) rfl dX7_rotten_31 (kk_i (fun r9 σ9 h => ?_))
        refine v_ishl hC dX7_rotten_34 ?_
        refine v_goto hC 39 dX7_rotten_35 (by decide) ?_
        refine v_ior hC dX7_rotten_39 ?_
        refine v_istore_nN hC dX7_rotten_40 (by decide) (lo2 := fun x2_10 => [(2, .int x2_10), (0, .ref (xad X 82)), (1, .int x1), (3, .int x3)]) (fun _ => rfl) (fun x2_10 e10 => ?_)
        replace h := h x2_10 e10
        refine v_iincN hC (nI 1) 3 dX7_rotten_41 rfl rfl (by decide) (lo2 := fun x3_11 => [(3, .int x3_11), (2, .int x2_10), (0, .ref (xad X 82)), (1, .int x1)]) (fun _ => rfl) (fun x3_11 e11 => ?_)
        replace h := h x3_11 e11
        refine v_goto hC 4 dX7_rotten_44 (by decide) ?_
        exact V.sub [2, 3, 1, 0] rfl (ih _ _ _ _ h)
set_option maxHeartbeats 4000000 in
set_option maxRecDepth 100000 in
theorem kM_rotten (x1 : Int32) (σ : gM) (Q : Int32 → gM → Prop) (h : wM_rotten x1 σ Q) : CT yX7_rotten cX7_rotten 4 (some .int) rmM_rotten (fun G => [.ref (gad G 82), .int x1]) σ (gPi Q) := by
  refine c_enter (by decide) (fun _ => Nat.le_of_ble_eq_true rfl) (fun X hC hR => ?_)
  show V X 4 0 [(0, .ref (xad X 82)), (1, .int x1)] [] σ
  replace h : ∃ n14 : Nat, wM_rotten_l4 Q n14 x1 (nI 0) (nI 0) σ := h
  refine v_iconst hC (nI 0) dX7_rotten_0 rfl ?_
  refine v_istore_n hC dX7_rotten_1 (by decide) rfl ?_
  refine v_iconst hC (nI 0) dX7_rotten_2 rfl ?_
  refine v_istore_n hC dX7_rotten_3 (by decide) rfl ?_
  obtain ⟨n14, h⟩ := h
  exact V.sub [2, 3, 1, 0] rfl (tM_rotten_l4 hC hR  n14 _ _ _ _ h)
theorem cmM_rotten : CM yX7_rotten cX7_rotten 4 (some .int) rmM_rotten 1 := ⟨kw82, kw1188, rfl, rfl, by decide, by decide, by decide +kernel⟩
def rmM_grow : Room := { frames := 1, cells := 0, slots := 0, locals := 21 }
def wM_grow_l2 (Q : gM → Prop)  : Nat → Int32 → Int32 → gM → Prop
  | 0, _, _, _ => False
  | n + 1, x1, x2, σ =>
    ((σ 89 5) ≤ x2 → (∀ σ4 : gM, σ4 = gU σ 89 4 ((σ 89 4) + x1) → (Q σ4))) ∧ (¬ ((σ 89 5) ≤ x2) → (wM_heap x2 σ (fun (r6 : Int32) (σ6 : gM) => vp_in (((nI 22) + ((nI 4) * r6)) + (nI 2)) 102 ∧ (vp_in (((nI 22) + ((nI 4) * r6)) + (nI 2)) 102 ∧ (∀ σ8 : gM, σ8 = gU σ6 89 (((nI 22) + ((nI 4) * r6)) + (nI 2)).toNatClampNeg ((σ6 89 (((nI 22) + ((nI 4) * r6)) + (nI 2)).toNatClampNeg) + x1) → (∀ x2_9 : Int32, x2_9 = x2 + (nI 1) → (wM_grow_l2 Q n x1 x2_9 σ8)))))))
def wM_grow (x1 : Int32) (σ : gM) (Q : gM → Prop) : Prop :=
    ∃ n10 : Nat, wM_grow_l2 Q n10 x1 (nI 0) σ
set_option maxHeartbeats 4000000 in
set_option maxRecDepth 100000 in
theorem tM_grow_l2 {X : gX} {Q : gM → Prop} (hC : VC X cX7_grow RX7 3 rmM_grow) (hR : VR X none (gPv Q))  : ∀ (n : Nat) (x1 : Int32) (x2 : Int32) (σ : gM), wM_grow_l2 Q  n x1 x2 σ → V X 3 2 [(0, .ref (xad X 82)), (1, .int x1), (2, .int x2)] [] σ := by
  intro n
  induction n with
  | zero => intro x1 x2 σ h; exact h.elim
  | succ n ih =>
    intro x1 x2 σ h
    replace h : ((σ 89 5) ≤ x2 → (∀ σ4 : gM, σ4 = gU σ 89 4 ((σ 89 4) + x1) → (Q σ4))) ∧ (¬ ((σ 89 5) ≤ x2) → (wM_heap x2 σ (fun (r6 : Int32) (σ6 : gM) => vp_in (((nI 22) + ((nI 4) * r6)) + (nI 2)) 102 ∧ (vp_in (((nI 22) + ((nI 4) * r6)) + (nI 2)) 102 ∧ (∀ σ8 : gM, σ8 = gU σ6 89 (((nI 22) + ((nI 4) * r6)) + (nI 2)).toNatClampNeg ((σ6 89 (((nI 22) + ((nI 4) * r6)) + (nI 2)).toNatClampNeg) + x1) → (∀ x2_9 : Int32, x2_9 = x2 + (nI 1) → (wM_grow_l2 Q n x1 x2_9 σ8))))))) := h
    refine v_iload_n hC 2 dX7_grow_2 rfl ?_
    refine v_aload_n hC 0 dX7_grow_3 rfl ?_
    refine gf_X7_28 hC dX7_grow_4 ?_
    refine v_iconst hC (nI 5) dX7_grow_7 rfl ?_
    refine v_iald hC (Nat.le_of_ble_eq_true rfl) rfl (j := 5) (by decide) (by unfold vp_in; decide) dX7_grow_8 ?_
    refine v_icmp_ge hC 39 dX7_grow_9 (by decide) (fun c2 => ?_) (fun c2 => ?_)
    · replace h := h.1 c2
      refine v_aload_n hC 0 dX7_grow_39 rfl ?_
      refine gf_X7_28 hC dX7_grow_40 ?_
      refine v_iconst hC (nI 4) dX7_grow_43 rfl ?_
      refine v_dup2 hC dX7_grow_44 rfl rfl ?_
      refine v_iald hC (Nat.le_of_ble_eq_true rfl) rfl (j := 4) (by decide) (by unfold vp_in; decide) dX7_grow_45 ?_
      refine v_iload_n hC 1 dX7_grow_46 rfl ?_
      refine v_iadd hC dX7_grow_47 ?_
      refine v_iast hC (Nat.le_of_ble_eq_true rfl) rfl (j := 4) (by decide) (by unfold vp_in; decide) dX7_grow_48 (fun σ4 e4 => ?_)
      replace h := h σ4 e4
      exact v_vret hC hR h dX7_grow_49
    · replace h := h.2 c2
      refine v_aload_n hC 0 dX7_grow_12 rfl ?_
      refine gf_X7_28 hC dX7_grow_13 ?_
      refine v_bipush hC (nI 22) dX7_grow_16 rfl ?_
      refine v_iconst hC (nI 4) dX7_grow_18 rfl ?_
      refine v_aload_n hC 0 dX7_grow_19 rfl ?_
      refine v_iload_n hC 2 dX7_grow_20 rfl ?_
      refine v_callV hC (kM_heap _ _ _ h) cmM_heap ⟨kw1148, kw52⟩ kw1146 ⟨Nat.le_of_ble_eq_true rfl, Nat.le_of_ble_eq_true rfl⟩ (Nat.le_of_ble_eq_true rfl) rfl (ci := 7) (T := TX7) (N := 30) rfl (As := fun G => [.int x2]) (fun _ => rfl) (fun _ => rfl) (st := [.int (nI 4), .int (nI 22), .ref (xad X 89)]) (Nat.le_of_ble_eq_true rfl) rfl dX7_grow_21 (kk_i (fun r6 σ6 h => ?_))
      refine v_imul hC dX7_grow_24 ?_
      refine v_iadd hC dX7_grow_25 ?_
      refine v_iconst hC (nI 2) dX7_grow_26 rfl ?_
      refine v_iadd hC dX7_grow_27 ?_
      refine v_dup2 hC dX7_grow_28 rfl rfl ?_
      obtain ⟨hi7, h⟩ := h
      refine v_iald hC (Nat.le_of_ble_eq_true rfl) rfl rfl hi7 dX7_grow_29 ?_
      refine v_iload_n hC 1 dX7_grow_30 rfl ?_
      refine v_iadd hC dX7_grow_31 ?_
      obtain ⟨hi8, h⟩ := h
      refine v_iast hC (Nat.le_of_ble_eq_true rfl) rfl rfl hi8 dX7_grow_32 (fun σ8 e8 => ?_)
      replace h := h σ8 e8
      refine v_iincN hC (nI 1) 2 dX7_grow_33 rfl rfl (by decide) (lo2 := fun x2_9 => [(2, .int x2_9), (0, .ref (xad X 82)), (1, .int x1)]) (fun _ => rfl) (fun x2_9 e9 => ?_)
      replace h := h x2_9 e9
      refine v_goto hC 2 dX7_grow_36 (by decide) ?_
      exact V.sub [1, 2, 0] rfl (ih _ _ _ h)
set_option maxHeartbeats 4000000 in
set_option maxRecDepth 100000 in
theorem kM_grow (x1 : Int32) (σ : gM) (Q : gM → Prop) (h : wM_grow x1 σ Q) : CT yX7_grow cX7_grow 3 none rmM_grow (fun G => [.ref (gad G 82), .int x1]) σ (gPv Q) := by
  refine c_enter (by decide) (fun _ => Nat.le_of_ble_eq_true rfl) (fun X hC hR => ?_)
  show V X 3 0 [(0, .ref (xad X 82)), (1, .int x1)] [] σ
  replace h : ∃ n10 : Nat, wM_grow_l2 Q n10 x1 (nI 0) σ := h
  refine v_iconst hC (nI 0) dX7_grow_0 rfl ?_
  refine v_istore_n hC dX7_grow_1 (by decide) rfl ?_
  obtain ⟨n10, h⟩ := h
  exact V.sub [1, 2, 0] rfl (tM_grow_l2 hC hR  n10 _ _ _ h)
theorem cmM_grow : CM yX7_grow cX7_grow 3 none rmM_grow 1 := ⟨kw82, kw1192, rfl, rfl, by decide, by decide, by decide +kernel⟩
def rmM_day : Room := { frames := 3, cells := 0, slots := 0, locals := 69 }
def wM_day  (σ : gM) (Q : Int32 → gM → Prop) : Prop :=
    ((σ 89 0) = nI 0 → (Q (-1000002 : Int32) σ)) ∧ (¬ ((σ 89 0) = nI 0) → (((σ 89 4) = (nI 999) → (Q (-1000003 : Int32) σ)) ∧ (¬ ((σ 89 4) = (nI 999)) → (wM_rotten (nI 0) σ (fun (r6 : Int32) (σ6 : gM) => wM_grow (nI 1) σ6 (fun (σ8 : gM) => wM_noteAct (nI 2) (nI 0) (nI 0) (nI 0) (nI 0) σ8 (fun (σ10 : gM) => wM_rotten (nI 0) σ10 (fun (r12 : Int32) (σ12 : gM) => Q (r12 &&& (r6 ^^^ (-1 : Int32))) σ12))))))))
set_option maxHeartbeats 4000000 in
set_option maxRecDepth 100000 in
theorem kM_day  (σ : gM) (Q : Int32 → gM → Prop) (h : wM_day  σ Q) : CT yX7_day cX7_day 2 (some .int) rmM_day (fun G => [.ref (gad G 82)]) σ (gPi Q) := by
  refine c_enter (by decide) (fun _ => Nat.le_of_ble_eq_true rfl) (fun X hC hR => ?_)
  show V X 2 0 [(0, .ref (xad X 82))] [] σ
  replace h : ((σ 89 0) = nI 0 → (Q (-1000002 : Int32) σ)) ∧ (¬ ((σ 89 0) = nI 0) → (((σ 89 4) = (nI 999) → (Q (-1000003 : Int32) σ)) ∧ (¬ ((σ 89 4) = (nI 999)) → (wM_rotten (nI 0) σ (fun (r6 : Int32) (σ6 : gM) => wM_grow (nI 1) σ6 (fun (σ8 : gM) => wM_noteAct (nI 2) (nI 0) (nI 0) (nI 0) (nI 0) σ8 (fun (σ10 : gM) => wM_rotten (nI 0) σ10 (fun (r12 : Int32) (σ12 : gM) => Q (r12 &&& (r6 ^^^ (-1 : Int32))) σ12)))))))) := h
  refine v_aload_n hC 0 dX7_day_0 rfl ?_
  refine gf_X7_28 hC dX7_day_1 ?_
  refine v_iconst hC (nI 0) dX7_day_4 rfl ?_
  refine v_iald hC (Nat.le_of_ble_eq_true rfl) rfl (j := 0) (by decide) (by unfold vp_in; decide) dX7_day_5 ?_
  refine v_if_ne hC 12 dX7_day_6 (by decide) (fun c2 => ?_) (fun c2 => ?_)
  · replace h := h.2 c2
    refine v_aload_n hC 0 dX7_day_12 rfl ?_
    refine gf_X7_28 hC dX7_day_13 ?_
    refine v_iconst hC (nI 4) dX7_day_16 rfl ?_
    refine v_iald hC (Nat.le_of_ble_eq_true rfl) rfl (j := 4) (by decide) (by unfold vp_in; decide) dX7_day_17 ?_
    refine v_sipush hC (nI 999) dX7_day_18 rfl ?_
    refine v_icmp_ne hC 27 dX7_day_21 (by decide) (fun c4 => ?_) (fun c4 => ?_)
    · replace h := h.2 c4
      refine v_aload_n hC 0 dX7_day_27 rfl ?_
      refine v_iconst hC (nI 0) dX7_day_28 rfl ?_
      refine v_callV hC (kM_rotten _ _ _ h) cmM_rotten ⟨kw1187, kw59⟩ kw1185 ⟨Nat.le_of_ble_eq_true rfl, Nat.le_of_ble_eq_true rfl⟩ (Nat.le_of_ble_eq_true rfl) rfl (ci := 7) (T := TX7) (N := 30) rfl (As := fun G => [.int (nI 0)]) (fun _ => rfl) (fun _ => rfl) (st := []) (Nat.le_of_ble_eq_true rfl) rfl dX7_day_29 (kk_i (fun r6 σ6 h => ?_))
      refine v_istore_n hC dX7_day_32 (by decide) rfl ?_
      refine v_aload_n hC 1 dX7_day_33 rfl ?_
      refine v_iconst hC (nI 1) dX7_day_34 rfl ?_
      refine v_callV hC (kM_grow _ _ _ h) cmM_grow ⟨kw1191, kw60⟩ kw1189 ⟨Nat.le_of_ble_eq_true rfl, Nat.le_of_ble_eq_true rfl⟩ (Nat.le_of_ble_eq_true rfl) rfl (ci := 7) (T := TX7) (N := 30) rfl (As := fun G => [.int (nI 1)]) (fun _ => rfl) (fun _ => rfl) (st := []) (Nat.le_of_ble_eq_true rfl) rfl dX7_day_35 (kk_v (fun σ8 h => ?_))
      refine v_aload_n hC 1 dX7_day_38 rfl ?_
      refine v_iconst hC (nI 2) dX7_day_39 rfl ?_
      refine v_iconst hC (nI 0) dX7_day_40 rfl ?_
      refine v_iconst hC (nI 0) dX7_day_41 rfl ?_
      refine v_iconst hC (nI 0) dX7_day_42 rfl ?_
      refine v_iconst hC (nI 0) dX7_day_43 rfl ?_
      refine v_callV hC (kM_noteAct _ _ _ _ _ _ _ h) cmM_noteAct ⟨kw1171, kw57⟩ kw1169 ⟨Nat.le_of_ble_eq_true rfl, Nat.le_of_ble_eq_true rfl⟩ (Nat.le_of_ble_eq_true rfl) rfl (ci := 7) (T := TX7) (N := 30) rfl (As := fun G => [.int (nI 2), .int (nI 0), .int (nI 0), .int (nI 0), .int (nI 0)]) (fun _ => rfl) (fun _ => rfl) (st := []) (Nat.le_of_ble_eq_true rfl) rfl dX7_day_44 (kk_v (fun σ10 h => ?_))
      refine v_aload_n hC 1 dX7_day_47 rfl ?_
      refine v_iconst hC (nI 0) dX7_day_48 rfl ?_
      refine v_callV hC (kM_rotten _ _ _ h) cmM_rotten ⟨kw1187, kw59⟩ kw1185 ⟨Nat.le_of_ble_eq_true rfl, Nat.le_of_ble_eq_true rfl⟩ (Nat.le_of_ble_eq_true rfl) rfl (ci := 7) (T := TX7) (N := 30) rfl (As := fun G => [.int (nI 0)]) (fun _ => rfl) (fun _ => rfl) (st := []) (Nat.le_of_ble_eq_true rfl) rfl dX7_day_49 (kk_i (fun r12 σ12 h => ?_))
      refine v_iload_n hC 0 dX7_day_52 rfl ?_
      refine v_iconst hC (-1 : Int32) dX7_day_53 rfl ?_
      refine v_ixor hC dX7_day_54 ?_
      refine v_iand hC dX7_day_55 ?_
      exact v_iret hC hR h dX7_day_56
    · replace h := h.1 c4
      refine v_ldc hC kw1083 dX7_day_24 ?_
      exact v_iret hC hR h dX7_day_26
  · replace h := h.1 c2
    refine v_ldc hC kw1145 dX7_day_9 ?_
    exact v_iret hC hR h dX7_day_11
theorem cmM_day : CM yX7_day cX7_day 2 (some .int) rmM_day 0 := ⟨kw82, kw1184, rfl, rfl, by decide, by decide, by decide +kernel⟩
def rmM_undo : Room := { frames := 2, cells := 0, slots := 0, locals := 44 }
def wM_undo  (σ : gM) (Q : Int32 → gM → Prop) : Prop :=
    ((σ 82 20) = nI 0 → (Q (-1000002 : Int32) σ)) ∧ (¬ ((σ 82 20) = nI 0) → (∀ σ2 : gM, σ2 = gU σ 82 20 ((σ 82 20) - (nI 1)) → (vp_in ((nI 5) * (σ2 82 20)) 120 ∧ (∀ x1_4 : Int32, x1_4 = (σ2 92 ((nI 5) * (σ2 82 20)).toNatClampNeg) → (vp_in (((nI 5) * (σ2 82 20)) + (nI 1)) 120 ∧ (∀ x2_6 : Int32, x2_6 = (σ2 92 (((nI 5) * (σ2 82 20)) + (nI 1)).toNatClampNeg) → (vp_in (((nI 5) * (σ2 82 20)) + (nI 2)) 120 ∧ (∀ x3_8 : Int32, x3_8 = (σ2 92 (((nI 5) * (σ2 82 20)) + (nI 2)).toNatClampNeg) → ((x1_4 = (nI 1) → (wM_takeAt x2_6 σ2 (fun (r11 : Int32) (σ11 : gM) => ∀ σ12 : gM, σ12 = gU σ11 89 3 r11 → (Q (σ12 82 20) σ12)))) ∧ (¬ (x1_4 = (nI 1)) → ((x1_4 = (nI 2) → (wM_grow (-1 : Int32) σ2 (fun (σ15 : gM) => Q (σ15 82 20) σ15))) ∧ (¬ (x1_4 = (nI 2)) → (wM_putAt x2_6 (x1_4 - (nI 3)) σ2 (fun (σ17 : gM) => vp_in (((nI 22) + ((nI 4) * (x1_4 - (nI 3)))) + (nI 3)) 102 ∧ (∀ σ18 : gM, σ18 = gU σ17 89 (((nI 22) + ((nI 4) * (x1_4 - (nI 3)))) + (nI 3)).toNatClampNeg (-1000000 : Int32) → (vp_in (((nI 6) + ((nI 4) * x3_8)) + (nI 1)) 102 ∧ (vp_in (((nI 5) * (σ18 82 20)) + (nI 3)) 120 ∧ (vp_in (((nI 6) + ((nI 4) * x3_8)) + (nI 1)) 102 ∧ (∀ σ21 : gM, σ21 = gU σ18 89 (((nI 6) + ((nI 4) * x3_8)) + (nI 1)).toNatClampNeg ((σ18 89 (((nI 6) + ((nI 4) * x3_8)) + (nI 1)).toNatClampNeg) + (σ18 92 (((nI 5) * (σ18 82 20)) + (nI 3)).toNatClampNeg)) → (vp_in (((nI 6) + ((nI 4) * x3_8)) + (nI 2)) 102 ∧ (vp_in (((nI 5) * (σ21 82 20)) + (nI 4)) 120 ∧ (vp_in (((nI 6) + ((nI 4) * x3_8)) + (nI 2)) 102 ∧ (∀ σ24 : gM, σ24 = gU σ21 89 (((nI 6) + ((nI 4) * x3_8)) + (nI 2)).toNatClampNeg ((σ21 89 (((nI 6) + ((nI 4) * x3_8)) + (nI 2)).toNatClampNeg) - (σ21 92 (((nI 5) * (σ21 82 20)) + (nI 4)).toNatClampNeg)) → (vp_in (((nI 6) + ((nI 4) * x3_8)) + (nI 3)) 102 ∧ (vp_in (((nI 6) + ((nI 4) * x3_8)) + (nI 3)) 102 ∧ (∀ σ26 : gM, σ26 = gU σ24 89 (((nI 6) + ((nI 4) * x3_8)) + (nI 3)).toNatClampNeg ((σ24 89 (((nI 6) + ((nI 4) * x3_8)) + (nI 3)).toNatClampNeg) - (nI 1)) → (Q (σ26 82 20) σ26)))))))))))))))))))))))))))
set_option maxHeartbeats 4000000 in
set_option maxRecDepth 100000 in
theorem kM_undo  (σ : gM) (Q : Int32 → gM → Prop) (h : wM_undo  σ Q) : CT yX7_undo cX7_undo 5 (some .int) rmM_undo (fun G => [.ref (gad G 82)]) σ (gPi Q) := by
  refine c_enter (by decide) (fun _ => Nat.le_of_ble_eq_true rfl) (fun X hC hR => ?_)
  show V X 5 0 [(0, .ref (xad X 82))] [] σ
  replace h : ((σ 82 20) = nI 0 → (Q (-1000002 : Int32) σ)) ∧ (¬ ((σ 82 20) = nI 0) → (∀ σ2 : gM, σ2 = gU σ 82 20 ((σ 82 20) - (nI 1)) → (vp_in ((nI 5) * (σ2 82 20)) 120 ∧ (∀ x1_4 : Int32, x1_4 = (σ2 92 ((nI 5) * (σ2 82 20)).toNatClampNeg) → (vp_in (((nI 5) * (σ2 82 20)) + (nI 1)) 120 ∧ (∀ x2_6 : Int32, x2_6 = (σ2 92 (((nI 5) * (σ2 82 20)) + (nI 1)).toNatClampNeg) → (vp_in (((nI 5) * (σ2 82 20)) + (nI 2)) 120 ∧ (∀ x3_8 : Int32, x3_8 = (σ2 92 (((nI 5) * (σ2 82 20)) + (nI 2)).toNatClampNeg) → ((x1_4 = (nI 1) → (wM_takeAt x2_6 σ2 (fun (r11 : Int32) (σ11 : gM) => ∀ σ12 : gM, σ12 = gU σ11 89 3 r11 → (Q (σ12 82 20) σ12)))) ∧ (¬ (x1_4 = (nI 1)) → ((x1_4 = (nI 2) → (wM_grow (-1 : Int32) σ2 (fun (σ15 : gM) => Q (σ15 82 20) σ15))) ∧ (¬ (x1_4 = (nI 2)) → (wM_putAt x2_6 (x1_4 - (nI 3)) σ2 (fun (σ17 : gM) => vp_in (((nI 22) + ((nI 4) * (x1_4 - (nI 3)))) + (nI 3)) 102 ∧ (∀ σ18 : gM, σ18 = gU σ17 89 (((nI 22) + ((nI 4) * (x1_4 - (nI 3)))) + (nI 3)).toNatClampNeg (-1000000 : Int32) → (vp_in (((nI 6) + ((nI 4) * x3_8)) + (nI 1)) 102 ∧ (vp_in (((nI 5) * (σ18 82 20)) + (nI 3)) 120 ∧ (vp_in (((nI 6) + ((nI 4) * x3_8)) + (nI 1)) 102 ∧ (∀ σ21 : gM, σ21 = gU σ18 89 (((nI 6) + ((nI 4) * x3_8)) + (nI 1)).toNatClampNeg ((σ18 89 (((nI 6) + ((nI 4) * x3_8)) + (nI 1)).toNatClampNeg) + (σ18 92 (((nI 5) * (σ18 82 20)) + (nI 3)).toNatClampNeg)) → (vp_in (((nI 6) + ((nI 4) * x3_8)) + (nI 2)) 102 ∧ (vp_in (((nI 5) * (σ21 82 20)) + (nI 4)) 120 ∧ (vp_in (((nI 6) + ((nI 4) * x3_8)) + (nI 2)) 102 ∧ (∀ σ24 : gM, σ24 = gU σ21 89 (((nI 6) + ((nI 4) * x3_8)) + (nI 2)).toNatClampNeg ((σ21 89 (((nI 6) + ((nI 4) * x3_8)) + (nI 2)).toNatClampNeg) - (σ21 92 (((nI 5) * (σ21 82 20)) + (nI 4)).toNatClampNeg)) → (vp_in (((nI 6) + ((nI 4) * x3_8)) + (nI 3)) 102 ∧ (vp_in (((nI 6) + ((nI 4) * x3_8)) + (nI 3)) 102 ∧ (∀ σ26 : gM, σ26 = gU σ24 89 (((nI 6) + ((nI 4) * x3_8)) + (nI 3)).toNatClampNeg ((σ24 89 (((nI 6) + ((nI 4) * x3_8)) + (nI 3)).toNatClampNeg) - (nI 1)) → (Q (σ26 82 20) σ26))))))))))))))))))))))))))) := h
  refine v_aload_n hC 0 dX7_undo_0 rfl ?_
  refine gf_X7_173 hC dX7_undo_1 ?_
  refine v_if_ne hC 10 dX7_undo_4 (by decide) (fun c1 => ?_) (fun c1 => ?_)
  · replace h := h.2 c1
    refine v_aload_n hC 0 dX7_undo_10 rfl ?_
    refine v_dup hC dX7_undo_11 rfl ?_
    refine gf_X7_173 hC dX7_undo_12 ?_
    refine v_iconst hC (nI 1) dX7_undo_15 rfl ?_
    refine v_isub hC dX7_undo_16 ?_
    refine pf_X7_173 hC dX7_undo_17 (fun σ2 e2 => ?_)
    replace h := h σ2 e2
    refine v_aload_n hC 0 dX7_undo_20 rfl ?_
    refine gf_X7_38 hC dX7_undo_21 ?_
    refine v_iconst hC (nI 5) dX7_undo_24 rfl ?_
    refine v_aload_n hC 0 dX7_undo_25 rfl ?_
    refine gf_X7_173 hC dX7_undo_26 ?_
    refine v_imul hC dX7_undo_29 ?_
    obtain ⟨hi3, h⟩ := h
    refine v_iald hC (Nat.le_of_ble_eq_true rfl) rfl rfl hi3 dX7_undo_30 ?_
    refine v_istore_nN hC dX7_undo_31 (by decide) (lo2 := fun x1_4 => [(1, .int x1_4), (0, .ref (xad X 82))]) (fun _ => rfl) (fun x1_4 e4 => ?_)
    replace h := h x1_4 e4
    refine v_aload_n hC 1 dX7_undo_32 rfl ?_
    refine gf_X7_38 hC dX7_undo_33 ?_
    refine v_iconst hC (nI 5) dX7_undo_36 rfl ?_
    refine v_aload_n hC 1 dX7_undo_37 rfl ?_
    refine gf_X7_173 hC dX7_undo_38 ?_
    refine v_imul hC dX7_undo_41 ?_
    refine v_iconst hC (nI 1) dX7_undo_42 rfl ?_
    refine v_iadd hC dX7_undo_43 ?_
    obtain ⟨hi5, h⟩ := h
    refine v_iald hC (Nat.le_of_ble_eq_true rfl) rfl rfl hi5 dX7_undo_44 ?_
    refine v_istore_nN hC dX7_undo_45 (by decide) (lo2 := fun x2_6 => [(2, .int x2_6), (1, .int x1_4), (0, .ref (xad X 82))]) (fun _ => rfl) (fun x2_6 e6 => ?_)
    replace h := h x2_6 e6
    refine v_aload_n hC 2 dX7_undo_46 rfl ?_
    refine gf_X7_38 hC dX7_undo_47 ?_
    refine v_iconst hC (nI 5) dX7_undo_50 rfl ?_
    refine v_aload_n hC 2 dX7_undo_51 rfl ?_
    refine gf_X7_173 hC dX7_undo_52 ?_
    refine v_imul hC dX7_undo_55 ?_
    refine v_iconst hC (nI 2) dX7_undo_56 rfl ?_
    refine v_iadd hC dX7_undo_57 ?_
    obtain ⟨hi7, h⟩ := h
    refine v_iald hC (Nat.le_of_ble_eq_true rfl) rfl rfl hi7 dX7_undo_58 ?_
    refine v_istore_nN hC dX7_undo_59 (by decide) (lo2 := fun x3_8 => [(3, .int x3_8), (2, .int x2_6), (1, .int x1_4), (0, .ref (xad X 82))]) (fun _ => rfl) (fun x3_8 e8 => ?_)
    replace h := h x3_8 e8
    refine v_iload_n hC 2 dX7_undo_60 rfl ?_
    refine v_iconst hC (nI 1) dX7_undo_61 rfl ?_
    refine v_icmp_ne hC 83 dX7_undo_62 (by decide) (fun c9 => ?_) (fun c9 => ?_)
    · replace h := h.2 c9
      refine v_iload_n hC 2 dX7_undo_83 rfl ?_
      refine v_iconst hC (nI 2) dX7_undo_84 rfl ?_
      refine v_icmp_ne hC 96 dX7_undo_85 (by decide) (fun c13 => ?_) (fun c13 => ?_)
      · replace h := h.2 c13
        refine v_aload_n hC 3 dX7_undo_96 rfl ?_
        refine v_iload_n hC 1 dX7_undo_97 rfl ?_
        refine v_iload_n hC 2 dX7_undo_98 rfl ?_
        refine v_iconst hC (nI 3) dX7_undo_99 rfl ?_
        refine v_isub hC dX7_undo_100 ?_
        refine v_callV hC (kM_putAt _ _ _ _ h) cmM_putAt ⟨kw1179, kw58⟩ kw1177 ⟨Nat.le_of_ble_eq_true rfl, Nat.le_of_ble_eq_true rfl⟩ (Nat.le_of_ble_eq_true rfl) rfl (ci := 7) (T := TX7) (N := 30) rfl (As := fun G => [.int x2_6, .int (x1_4 - (nI 3))]) (fun _ => rfl) (fun _ => rfl) (st := []) (Nat.le_of_ble_eq_true rfl) rfl dX7_undo_101 (kk_v (fun σ17 h => ?_))
        refine v_aload_n hC 3 dX7_undo_104 rfl ?_
        refine gf_X7_28 hC dX7_undo_105 ?_
        refine v_bipush hC (nI 22) dX7_undo_108 rfl ?_
        refine v_iconst hC (nI 4) dX7_undo_110 rfl ?_
        refine v_iload_n hC 2 dX7_undo_111 rfl ?_
        refine v_iconst hC (nI 3) dX7_undo_112 rfl ?_
        refine v_isub hC dX7_undo_113 ?_
        refine v_imul hC dX7_undo_114 ?_
        refine v_iadd hC dX7_undo_115 ?_
        refine v_iconst hC (nI 3) dX7_undo_116 rfl ?_
        refine v_iadd hC dX7_undo_117 ?_
        refine v_ldc hC kw1132 dX7_undo_118 ?_
        obtain ⟨hi18, h⟩ := h
        refine v_iast hC (Nat.le_of_ble_eq_true rfl) rfl rfl hi18 dX7_undo_120 (fun σ18 e18 => ?_)
        replace h := h σ18 e18
        refine v_aload_n hC 3 dX7_undo_121 rfl ?_
        refine gf_X7_28 hC dX7_undo_122 ?_
        refine v_bipush hC (nI 6) dX7_undo_125 rfl ?_
        refine v_iconst hC (nI 4) dX7_undo_127 rfl ?_
        refine v_iload_n hC 0 dX7_undo_128 rfl ?_
        refine v_imul hC dX7_undo_129 ?_
        refine v_iadd hC dX7_undo_130 ?_
        refine v_iconst hC (nI 1) dX7_undo_131 rfl ?_
        refine v_iadd hC dX7_undo_132 ?_
        refine v_dup2 hC dX7_undo_133 rfl rfl ?_
        obtain ⟨hi19, h⟩ := h
        refine v_iald hC (Nat.le_of_ble_eq_true rfl) rfl rfl hi19 dX7_undo_134 ?_
        refine v_aload_n hC 3 dX7_undo_135 rfl ?_
        refine gf_X7_38 hC dX7_undo_136 ?_
        refine v_iconst hC (nI 5) dX7_undo_139 rfl ?_
        refine v_aload_n hC 3 dX7_undo_140 rfl ?_
        refine gf_X7_173 hC dX7_undo_141 ?_
        refine v_imul hC dX7_undo_144 ?_
        refine v_iconst hC (nI 3) dX7_undo_145 rfl ?_
        refine v_iadd hC dX7_undo_146 ?_
        obtain ⟨hi20, h⟩ := h
        refine v_iald hC (Nat.le_of_ble_eq_true rfl) rfl rfl hi20 dX7_undo_147 ?_
        refine v_iadd hC dX7_undo_148 ?_
        obtain ⟨hi21, h⟩ := h
        refine v_iast hC (Nat.le_of_ble_eq_true rfl) rfl rfl hi21 dX7_undo_149 (fun σ21 e21 => ?_)
        replace h := h σ21 e21
        refine v_aload_n hC 3 dX7_undo_150 rfl ?_
        refine gf_X7_28 hC dX7_undo_151 ?_
        refine v_bipush hC (nI 6) dX7_undo_154 rfl ?_
        refine v_iconst hC (nI 4) dX7_undo_156 rfl ?_
        refine v_iload_n hC 0 dX7_undo_157 rfl ?_
        refine v_imul hC dX7_undo_158 ?_
        refine v_iadd hC dX7_undo_159 ?_
        refine v_iconst hC (nI 2) dX7_undo_160 rfl ?_
        refine v_iadd hC dX7_undo_161 ?_
        refine v_dup2 hC dX7_undo_162 rfl rfl ?_
        obtain ⟨hi22, h⟩ := h
        refine v_iald hC (Nat.le_of_ble_eq_true rfl) rfl rfl hi22 dX7_undo_163 ?_
        refine v_aload_n hC 3 dX7_undo_164 rfl ?_
        refine gf_X7_38 hC dX7_undo_165 ?_
        refine v_iconst hC (nI 5) dX7_undo_168 rfl ?_
        refine v_aload_n hC 3 dX7_undo_169 rfl ?_
        refine gf_X7_173 hC dX7_undo_170 ?_
        refine v_imul hC dX7_undo_173 ?_
        refine v_iconst hC (nI 4) dX7_undo_174 rfl ?_
        refine v_iadd hC dX7_undo_175 ?_
        obtain ⟨hi23, h⟩ := h
        refine v_iald hC (Nat.le_of_ble_eq_true rfl) rfl rfl hi23 dX7_undo_176 ?_
        refine v_isub hC dX7_undo_177 ?_
        obtain ⟨hi24, h⟩ := h
        refine v_iast hC (Nat.le_of_ble_eq_true rfl) rfl rfl hi24 dX7_undo_178 (fun σ24 e24 => ?_)
        replace h := h σ24 e24
        refine v_aload_n hC 3 dX7_undo_179 rfl ?_
        refine gf_X7_28 hC dX7_undo_180 ?_
        refine v_bipush hC (nI 6) dX7_undo_183 rfl ?_
        refine v_iconst hC (nI 4) dX7_undo_185 rfl ?_
        refine v_iload_n hC 0 dX7_undo_186 rfl ?_
        refine v_imul hC dX7_undo_187 ?_
        refine v_iadd hC dX7_undo_188 ?_
        refine v_iconst hC (nI 3) dX7_undo_189 rfl ?_
        refine v_iadd hC dX7_undo_190 ?_
        refine v_dup2 hC dX7_undo_191 rfl rfl ?_
        obtain ⟨hi25, h⟩ := h
        refine v_iald hC (Nat.le_of_ble_eq_true rfl) rfl rfl hi25 dX7_undo_192 ?_
        refine v_iconst hC (nI 1) dX7_undo_193 rfl ?_
        refine v_isub hC dX7_undo_194 ?_
        obtain ⟨hi26, h⟩ := h
        refine v_iast hC (Nat.le_of_ble_eq_true rfl) rfl rfl hi26 dX7_undo_195 (fun σ26 e26 => ?_)
        replace h := h σ26 e26
        refine v_aload_n hC 3 dX7_undo_196 rfl ?_
        refine gf_X7_173 hC dX7_undo_197 ?_
        exact v_iret hC hR h dX7_undo_200
      · replace h := h.1 c13
        refine v_aload_n hC 3 dX7_undo_88 rfl ?_
        refine v_iconst hC (-1 : Int32) dX7_undo_89 rfl ?_
        refine v_callV hC (kM_grow _ _ _ h) cmM_grow ⟨kw1191, kw60⟩ kw1189 ⟨Nat.le_of_ble_eq_true rfl, Nat.le_of_ble_eq_true rfl⟩ (Nat.le_of_ble_eq_true rfl) rfl (ci := 7) (T := TX7) (N := 30) rfl (As := fun G => [.int (-1 : Int32)]) (fun _ => rfl) (fun _ => rfl) (st := []) (Nat.le_of_ble_eq_true rfl) rfl dX7_undo_90 (kk_v (fun σ15 h => ?_))
        refine v_goto hC 196 dX7_undo_93 (by decide) ?_
        refine v_aload_n hC 3 dX7_undo_196 rfl ?_
        refine gf_X7_173 hC dX7_undo_197 ?_
        exact v_iret hC hR h dX7_undo_200
    · replace h := h.1 c9
      refine v_aload_n hC 3 dX7_undo_65 rfl ?_
      refine v_iload_n hC 1 dX7_undo_66 rfl ?_
      refine v_callV hC (kM_takeAt _ _ _ h) cmM_takeAt ⟨kw1167, kw56⟩ kw1165 ⟨Nat.le_of_ble_eq_true rfl, Nat.le_of_ble_eq_true rfl⟩ (Nat.le_of_ble_eq_true rfl) rfl (ci := 7) (T := TX7) (N := 30) rfl (As := fun G => [.int x2_6]) (fun _ => rfl) (fun _ => rfl) (st := []) (Nat.le_of_ble_eq_true rfl) rfl dX7_undo_67 (kk_i (fun r11 σ11 h => ?_))
      refine v_istore hC dX7_undo_70 (by decide) rfl ?_
      refine v_aload_n hC 4 dX7_undo_72 rfl ?_
      refine gf_X7_28 hC dX7_undo_73 ?_
      refine v_iconst hC (nI 3) dX7_undo_76 rfl ?_
      refine v_iload hC 0 dX7_undo_77 rfl ?_
      refine v_iast hC (Nat.le_of_ble_eq_true rfl) rfl (j := 3) (by decide) (by unfold vp_in; decide) dX7_undo_79 (fun σ12 e12 => ?_)
      replace h := h σ12 e12
      refine v_goto hC 196 dX7_undo_80 (by decide) ?_
      refine v_aload_n hC 4 dX7_undo_196 rfl ?_
      refine gf_X7_173 hC dX7_undo_197 ?_
      exact v_iret hC hR h dX7_undo_200
  · replace h := h.1 c1
    refine v_ldc hC kw1145 dX7_undo_7 ?_
    exact v_iret hC hR h dX7_undo_9
theorem cmM_undo : CM yX7_undo cX7_undo 5 (some .int) rmM_undo 0 := ⟨kw82, kw1196, rfl, rfl, by decide, by decide, by decide +kernel⟩
def rmM_isWareAt : Room := { frames := 1, cells := 0, slots := 0, locals := 22 }
def wM_isWareAt (x1 : Int32) (σ : gM) (Q : Int32 → gM → Prop) : Prop :=
    wM_in x1 (nI 0) ((σ 89 3) - (nI 1)) σ (fun (r3 : Int32) (σ3 : gM) => (r3 = nI 0 ∨ r3 = nI 1) ∧ Q r3 σ3)
set_option maxHeartbeats 4000000 in
set_option maxRecDepth 100000 in
theorem kM_isWareAt (x1 : Int32) (σ : gM) (Q : Int32 → gM → Prop) (h : wM_isWareAt x1 σ Q) : CT yX7_isWareAt cX7_isWareAt 2 (some .boolean) rmM_isWareAt (fun G => [.ref (gad G 82), .int x1]) σ (gPi Q) := by
  refine c_enter (by decide) (fun _ => Nat.le_of_ble_eq_true rfl) (fun X hC hR => ?_)
  show V X 2 0 [(0, .ref (xad X 82)), (1, .int x1)] [] σ
  replace h : wM_in x1 (nI 0) ((σ 89 3) - (nI 1)) σ (fun (r3 : Int32) (σ3 : gM) => (r3 = nI 0 ∨ r3 = nI 1) ∧ Q r3 σ3) := h
  refine v_iload_n hC 1 dX7_isWareAt_0 rfl ?_
  refine v_iconst hC (nI 0) dX7_isWareAt_1 rfl ?_
  refine v_aload_n hC 0 dX7_isWareAt_2 rfl ?_
  refine gf_X7_28 hC dX7_isWareAt_3 ?_
  refine v_iconst hC (nI 3) dX7_isWareAt_6 rfl ?_
  refine v_iald hC (Nat.le_of_ble_eq_true rfl) rfl (j := 3) (by decide) (by unfold vp_in; decide) dX7_isWareAt_7 ?_
  refine v_iconst hC (nI 1) dX7_isWareAt_8 rfl ?_
  refine v_isub hC dX7_isWareAt_9 ?_
  refine v_callS hC (kM_in _ _ _ _ _ h) cmM_in kw1051 kw1050 ⟨Nat.le_of_ble_eq_true rfl, Nat.le_of_ble_eq_true rfl⟩ (fun _ => rfl) (st := []) (Nat.le_of_ble_eq_true rfl) rfl dX7_isWareAt_10 (kk_i (fun r3 σ3 h => ?_))
  obtain ⟨hb, h⟩ := h
  exact v_zret hC hR (nar_bool hb) h dX7_isWareAt_13
theorem cmM_isWareAt : CM yX7_isWareAt cX7_isWareAt 2 (some .boolean) rmM_isWareAt 1 := ⟨kw82, kw1204, rfl, rfl, by decide, by decide, by decide +kernel⟩
def rmM_placeOf : Room := { frames := 1, cells := 0, slots := 0, locals := 21 }
def wM_placeOf_l2 (Q : Int32 → gM → Prop)  : Nat → Int32 → Int32 → gM → Prop
  | 0, _, _, _ => False
  | n + 1, x1, x2, σ =>
    ((σ 89 5) ≤ x2 → (Q (-1000000 : Int32) σ)) ∧ (¬ ((σ 89 5) ≤ x2) → (wM_heap x2 σ (fun (r4 : Int32) (σ4 : gM) => (r4 = x1 → (Q x2 σ4)) ∧ (¬ (r4 = x1) → (∀ x2_6 : Int32, x2_6 = x2 + (nI 1) → (wM_placeOf_l2 Q n x1 x2_6 σ4))))))
def wM_placeOf (x1 : Int32) (σ : gM) (Q : Int32 → gM → Prop) : Prop :=
    ∃ n7 : Nat, wM_placeOf_l2 Q n7 x1 (nI 0) σ
set_option maxHeartbeats 4000000 in
set_option maxRecDepth 100000 in
theorem tM_placeOf_l2 {X : gX} {Q : Int32 → gM → Prop} (hC : VC X cX7_placeOf RX7 3 rmM_placeOf) (hR : VR X (some .int) (gPi Q))  : ∀ (n : Nat) (x1 : Int32) (x2 : Int32) (σ : gM), wM_placeOf_l2 Q  n x1 x2 σ → V X 3 2 [(0, .ref (xad X 82)), (1, .int x1), (2, .int x2)] [] σ := by
  intro n
  induction n with
  | zero => intro x1 x2 σ h; exact h.elim
  | succ n ih =>
    intro x1 x2 σ h
    replace h : ((σ 89 5) ≤ x2 → (Q (-1000000 : Int32) σ)) ∧ (¬ ((σ 89 5) ≤ x2) → (wM_heap x2 σ (fun (r4 : Int32) (σ4 : gM) => (r4 = x1 → (Q x2 σ4)) ∧ (¬ (r4 = x1) → (∀ x2_6 : Int32, x2_6 = x2 + (nI 1) → (wM_placeOf_l2 Q n x1 x2_6 σ4)))))) := h
    refine v_iload_n hC 2 dX7_placeOf_2 rfl ?_
    refine v_aload_n hC 0 dX7_placeOf_3 rfl ?_
    refine gf_X7_28 hC dX7_placeOf_4 ?_
    refine v_iconst hC (nI 5) dX7_placeOf_7 rfl ?_
    refine v_iald hC (Nat.le_of_ble_eq_true rfl) rfl (j := 5) (by decide) (by unfold vp_in; decide) dX7_placeOf_8 ?_
    refine v_icmp_ge hC 29 dX7_placeOf_9 (by decide) (fun c2 => ?_) (fun c2 => ?_)
    · replace h := h.1 c2
      refine v_ldc hC kw1132 dX7_placeOf_29 ?_
      exact v_iret hC hR h dX7_placeOf_31
    · replace h := h.2 c2
      refine v_aload_n hC 0 dX7_placeOf_12 rfl ?_
      refine v_iload_n hC 2 dX7_placeOf_13 rfl ?_
      refine v_callV hC (kM_heap _ _ _ h) cmM_heap ⟨kw1148, kw52⟩ kw1146 ⟨Nat.le_of_ble_eq_true rfl, Nat.le_of_ble_eq_true rfl⟩ (Nat.le_of_ble_eq_true rfl) rfl (ci := 7) (T := TX7) (N := 30) rfl (As := fun G => [.int x2]) (fun _ => rfl) (fun _ => rfl) (st := []) (Nat.le_of_ble_eq_true rfl) rfl dX7_placeOf_14 (kk_i (fun r4 σ4 h => ?_))
      refine v_iload_n hC 1 dX7_placeOf_17 rfl ?_
      refine v_icmp_ne hC 23 dX7_placeOf_18 (by decide) (fun c5 => ?_) (fun c5 => ?_)
      · replace h := h.2 c5
        refine v_iincN hC (nI 1) 2 dX7_placeOf_23 rfl rfl (by decide) (lo2 := fun x2_6 => [(2, .int x2_6), (0, .ref (xad X 82)), (1, .int x1)]) (fun _ => rfl) (fun x2_6 e6 => ?_)
        replace h := h x2_6 e6
        refine v_goto hC 2 dX7_placeOf_26 (by decide) ?_
        exact V.sub [1, 2, 0] rfl (ih _ _ _ h)
      · replace h := h.1 c5
        refine v_iload_n hC 2 dX7_placeOf_21 rfl ?_
        exact v_iret hC hR h dX7_placeOf_22
set_option maxHeartbeats 4000000 in
set_option maxRecDepth 100000 in
theorem kM_placeOf (x1 : Int32) (σ : gM) (Q : Int32 → gM → Prop) (h : wM_placeOf x1 σ Q) : CT yX7_placeOf cX7_placeOf 3 (some .int) rmM_placeOf (fun G => [.ref (gad G 82), .int x1]) σ (gPi Q) := by
  refine c_enter (by decide) (fun _ => Nat.le_of_ble_eq_true rfl) (fun X hC hR => ?_)
  show V X 3 0 [(0, .ref (xad X 82)), (1, .int x1)] [] σ
  replace h : ∃ n7 : Nat, wM_placeOf_l2 Q n7 x1 (nI 0) σ := h
  refine v_iconst hC (nI 0) dX7_placeOf_0 rfl ?_
  refine v_istore_n hC dX7_placeOf_1 (by decide) rfl ?_
  obtain ⟨n7, h⟩ := h
  exact V.sub [1, 2, 0] rfl (tM_placeOf_l2 hC hR  n7 _ _ _ h)
theorem cmM_placeOf : CM yX7_placeOf cX7_placeOf 3 (some .int) rmM_placeOf 1 := ⟨kw82, kw1208, rfl, rfl, by decide, by decide, by decide +kernel⟩
