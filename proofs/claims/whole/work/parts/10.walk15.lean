def rmM_undo : Room := { frames := 2, cells := 0, slots := 0, locals := 44 }
def wM_undo  (σ : gM) (Q : Int32 → gM → Prop) : Prop :=
    ((σ 82 20) = 0 → (Q (-1000002 : Int32) σ)) ∧ (¬ ((σ 82 20) = 0) → (∀ σ2 : gM, σ2 = gU σ 82 20 ((σ 82 20) - (1 : Int32)) → (vp_in ((5 : Int32) * (σ2 82 20)) 120 ∧ (∀ x1_4 : Int32, x1_4 = (σ2 92 ((5 : Int32) * (σ2 82 20)).toNatClampNeg) → (vp_in (((5 : Int32) * (σ2 82 20)) + (1 : Int32)) 120 ∧ (∀ x2_6 : Int32, x2_6 = (σ2 92 (((5 : Int32) * (σ2 82 20)) + (1 : Int32)).toNatClampNeg) → (vp_in (((5 : Int32) * (σ2 82 20)) + (2 : Int32)) 120 ∧ (∀ x3_8 : Int32, x3_8 = (σ2 92 (((5 : Int32) * (σ2 82 20)) + (2 : Int32)).toNatClampNeg) → ((x1_4 = (1 : Int32) → (wM_takeAt x2_6 σ2 (fun (r11 : Int32) (σ11 : gM) => ∀ σ12 : gM, σ12 = gU σ11 89 3 r11 → (Q (σ12 82 20) σ12)))) ∧ (¬ (x1_4 = (1 : Int32)) → ((x1_4 = (2 : Int32) → (wM_grow (-1 : Int32) σ2 (fun (σ15 : gM) => Q (σ15 82 20) σ15))) ∧ (¬ (x1_4 = (2 : Int32)) → (wM_putAt x2_6 (x1_4 - (3 : Int32)) σ2 (fun (σ17 : gM) => vp_in (((22 : Int32) + ((4 : Int32) * (x1_4 - (3 : Int32)))) + (3 : Int32)) 102 ∧ (∀ σ18 : gM, σ18 = gU σ17 89 (((22 : Int32) + ((4 : Int32) * (x1_4 - (3 : Int32)))) + (3 : Int32)).toNatClampNeg (-1000000 : Int32) → (vp_in (((6 : Int32) + ((4 : Int32) * x3_8)) + (1 : Int32)) 102 ∧ (vp_in (((5 : Int32) * (σ18 82 20)) + (3 : Int32)) 120 ∧ (vp_in (((6 : Int32) + ((4 : Int32) * x3_8)) + (1 : Int32)) 102 ∧ (∀ σ21 : gM, σ21 = gU σ18 89 (((6 : Int32) + ((4 : Int32) * x3_8)) + (1 : Int32)).toNatClampNeg ((σ18 89 (((6 : Int32) + ((4 : Int32) * x3_8)) + (1 : Int32)).toNatClampNeg) + (σ18 92 (((5 : Int32) * (σ18 82 20)) + (3 : Int32)).toNatClampNeg)) → (vp_in (((6 : Int32) + ((4 : Int32) * x3_8)) + (2 : Int32)) 102 ∧ (vp_in (((5 : Int32) * (σ21 82 20)) + (4 : Int32)) 120 ∧ (vp_in (((6 : Int32) + ((4 : Int32) * x3_8)) + (2 : Int32)) 102 ∧ (∀ σ24 : gM, σ24 = gU σ21 89 (((6 : Int32) + ((4 : Int32) * x3_8)) + (2 : Int32)).toNatClampNeg ((σ21 89 (((6 : Int32) + ((4 : Int32) * x3_8)) + (2 : Int32)).toNatClampNeg) - (σ21 92 (((5 : Int32) * (σ21 82 20)) + (4 : Int32)).toNatClampNeg)) → (vp_in (((6 : Int32) + ((4 : Int32) * x3_8)) + (3 : Int32)) 102 ∧ (vp_in (((6 : Int32) + ((4 : Int32) * x3_8)) + (3 : Int32)) 102 ∧ (∀ σ26 : gM, σ26 = gU σ24 89 (((6 : Int32) + ((4 : Int32) * x3_8)) + (3 : Int32)).toNatClampNeg ((σ24 89 (((6 : Int32) + ((4 : Int32) * x3_8)) + (3 : Int32)).toNatClampNeg) - (1 : Int32)) → (Q (σ26 82 20) σ26)))))))))))))))))))))))))))
set_option maxHeartbeats 4000000 in
set_option maxRecDepth 100000 in
theorem kM_undo  (σ : gM) (Q : Int32 → gM → Prop) (h : wM_undo  σ Q) : CT yX7_undo cX7_undo 5 (some .int) rmM_undo (fun G => [.ref (gad G 82)]) σ (gPi Q) := by
  refine c_enter (by decide) (fun _ => Nat.le_of_ble_eq_true rfl) (fun X hC hR => ?_)
  show V X 5 0 [(0, .ref (xad X 82))] [] σ
  replace h : ((σ 82 20) = 0 → (Q (-1000002 : Int32) σ)) ∧ (¬ ((σ 82 20) = 0) → (∀ σ2 : gM, σ2 = gU σ 82 20 ((σ 82 20) - (1 : Int32)) → (vp_in ((5 : Int32) * (σ2 82 20)) 120 ∧ (∀ x1_4 : Int32, x1_4 = (σ2 92 ((5 : Int32) * (σ2 82 20)).toNatClampNeg) → (vp_in (((5 : Int32) * (σ2 82 20)) + (1 : Int32)) 120 ∧ (∀ x2_6 : Int32, x2_6 = (σ2 92 (((5 : Int32) * (σ2 82 20)) + (1 : Int32)).toNatClampNeg) → (vp_in (((5 : Int32) * (σ2 82 20)) + (2 : Int32)) 120 ∧ (∀ x3_8 : Int32, x3_8 = (σ2 92 (((5 : Int32) * (σ2 82 20)) + (2 : Int32)).toNatClampNeg) → ((x1_4 = (1 : Int32) → (wM_takeAt x2_6 σ2 (fun (r11 : Int32) (σ11 : gM) => ∀ σ12 : gM, σ12 = gU σ11 89 3 r11 → (Q (σ12 82 20) σ12)))) ∧ (¬ (x1_4 = (1 : Int32)) → ((x1_4 = (2 : Int32) → (wM_grow (-1 : Int32) σ2 (fun (σ15 : gM) => Q (σ15 82 20) σ15))) ∧ (¬ (x1_4 = (2 : Int32)) → (wM_putAt x2_6 (x1_4 - (3 : Int32)) σ2 (fun (σ17 : gM) => vp_in (((22 : Int32) + ((4 : Int32) * (x1_4 - (3 : Int32)))) + (3 : Int32)) 102 ∧ (∀ σ18 : gM, σ18 = gU σ17 89 (((22 : Int32) + ((4 : Int32) * (x1_4 - (3 : Int32)))) + (3 : Int32)).toNatClampNeg (-1000000 : Int32) → (vp_in (((6 : Int32) + ((4 : Int32) * x3_8)) + (1 : Int32)) 102 ∧ (vp_in (((5 : Int32) * (σ18 82 20)) + (3 : Int32)) 120 ∧ (vp_in (((6 : Int32) + ((4 : Int32) * x3_8)) + (1 : Int32)) 102 ∧ (∀ σ21 : gM, σ21 = gU σ18 89 (((6 : Int32) + ((4 : Int32) * x3_8)) + (1 : Int32)).toNatClampNeg ((σ18 89 (((6 : Int32) + ((4 : Int32) * x3_8)) + (1 : Int32)).toNatClampNeg) + (σ18 92 (((5 : Int32) * (σ18 82 20)) + (3 : Int32)).toNatClampNeg)) → (vp_in (((6 : Int32) + ((4 : Int32) * x3_8)) + (2 : Int32)) 102 ∧ (vp_in (((5 : Int32) * (σ21 82 20)) + (4 : Int32)) 120 ∧ (vp_in (((6 : Int32) + ((4 : Int32) * x3_8)) + (2 : Int32)) 102 ∧ (∀ σ24 : gM, σ24 = gU σ21 89 (((6 : Int32) + ((4 : Int32) * x3_8)) + (2 : Int32)).toNatClampNeg ((σ21 89 (((6 : Int32) + ((4 : Int32) * x3_8)) + (2 : Int32)).toNatClampNeg) - (σ21 92 (((5 : Int32) * (σ21 82 20)) + (4 : Int32)).toNatClampNeg)) → (vp_in (((6 : Int32) + ((4 : Int32) * x3_8)) + (3 : Int32)) 102 ∧ (vp_in (((6 : Int32) + ((4 : Int32) * x3_8)) + (3 : Int32)) 102 ∧ (∀ σ26 : gM, σ26 = gU σ24 89 (((6 : Int32) + ((4 : Int32) * x3_8)) + (3 : Int32)).toNatClampNeg ((σ24 89 (((6 : Int32) + ((4 : Int32) * x3_8)) + (3 : Int32)).toNatClampNeg) - (1 : Int32)) → (Q (σ26 82 20) σ26))))))))))))))))))))))))))) := h
  refine v_aload_n hC 0 dX7_undo_0 rfl ?_
  refine gf_X7_173 hC dX7_undo_1 ?_
  refine v_if_ne hC 10 dX7_undo_4 (by decide) (fun c1 => ?_) (fun c1 => ?_)
  · replace h := h.2 c1
    refine v_aload_n hC 0 dX7_undo_10 rfl ?_
    refine v_dup hC dX7_undo_11 rfl ?_
    refine gf_X7_173 hC dX7_undo_12 ?_
    refine v_iconst hC (1 : Int32) dX7_undo_15 rfl ?_
    refine v_isub hC dX7_undo_16 ?_
    refine pf_X7_173 hC dX7_undo_17 (fun σ2 e2 => ?_)
    replace h := h σ2 e2
    refine v_aload_n hC 0 dX7_undo_20 rfl ?_
    refine gf_X7_38 hC dX7_undo_21 ?_
    refine v_iconst hC (5 : Int32) dX7_undo_24 rfl ?_
    refine v_aload_n hC 0 dX7_undo_25 rfl ?_
    refine gf_X7_173 hC dX7_undo_26 ?_
    refine v_imul hC dX7_undo_29 ?_
    obtain ⟨hi3, h⟩ := h
    refine v_iald hC (Nat.le_of_ble_eq_true rfl) rfl rfl hi3 dX7_undo_30 ?_
    refine v_istore_nN hC dX7_undo_31 (by decide) (lo2 := fun x1_4 => [(1, .int x1_4), (0, .ref (xad X 82))]) (fun _ => rfl) (fun x1_4 e4 => ?_)
    replace h := h x1_4 e4
    refine v_aload_n hC 1 dX7_undo_32 rfl ?_
    refine gf_X7_38 hC dX7_undo_33 ?_
    refine v_iconst hC (5 : Int32) dX7_undo_36 rfl ?_
    refine v_aload_n hC 1 dX7_undo_37 rfl ?_
    refine gf_X7_173 hC dX7_undo_38 ?_
    refine v_imul hC dX7_undo_41 ?_
    refine v_iconst hC (1 : Int32) dX7_undo_42 rfl ?_
    refine v_iadd hC dX7_undo_43 ?_
    obtain ⟨hi5, h⟩ := h
    refine v_iald hC (Nat.le_of_ble_eq_true rfl) rfl rfl hi5 dX7_undo_44 ?_
    refine v_istore_nN hC dX7_undo_45 (by decide) (lo2 := fun x2_6 => [(2, .int x2_6), (1, .int x1_4), (0, .ref (xad X 82))]) (fun _ => rfl) (fun x2_6 e6 => ?_)
    replace h := h x2_6 e6
    refine v_aload_n hC 2 dX7_undo_46 rfl ?_
    refine gf_X7_38 hC dX7_undo_47 ?_
    refine v_iconst hC (5 : Int32) dX7_undo_50 rfl ?_
    refine v_aload_n hC 2 dX7_undo_51 rfl ?_
    refine gf_X7_173 hC dX7_undo_52 ?_
    refine v_imul hC dX7_undo_55 ?_
    refine v_iconst hC (2 : Int32) dX7_undo_56 rfl ?_
    refine v_iadd hC dX7_undo_57 ?_
    obtain ⟨hi7, h⟩ := h
    refine v_iald hC (Nat.le_of_ble_eq_true rfl) rfl rfl hi7 dX7_undo_58 ?_
    refine v_istore_nN hC dX7_undo_59 (by decide) (lo2 := fun x3_8 => [(3, .int x3_8), (2, .int x2_6), (1, .int x1_4), (0, .ref (xad X 82))]) (fun _ => rfl) (fun x3_8 e8 => ?_)
    replace h := h x3_8 e8
    refine v_iload_n hC 2 dX7_undo_60 rfl ?_
    refine v_iconst hC (1 : Int32) dX7_undo_61 rfl ?_
    refine v_icmp_ne hC 83 dX7_undo_62 (by decide) (fun c9 => ?_) (fun c9 => ?_)
    · replace h := h.2 c9
      refine v_iload_n hC 2 dX7_undo_83 rfl ?_
      refine v_iconst hC (2 : Int32) dX7_undo_84 rfl ?_
      refine v_icmp_ne hC 96 dX7_undo_85 (by decide) (fun c13 => ?_) (fun c13 => ?_)
      · replace h := h.2 c13
        refine v_aload_n hC 3 dX7_undo_96 rfl ?_
        refine v_iload_n hC 1 dX7_undo_97 rfl ?_
        refine v_iload_n hC 2 dX7_undo_98 rfl ?_
        refine v_iconst hC (3 : Int32) dX7_undo_99 rfl ?_
        refine v_isub hC dX7_undo_100 ?_
        refine v_callV hC (kM_putAt _ _ _ _ h) cmM_putAt ⟨kw1179, kw58⟩ kw1177 ⟨Nat.le_of_ble_eq_true rfl, Nat.le_of_ble_eq_true rfl⟩ (Nat.le_of_ble_eq_true rfl) rfl (ci := 7) (T := TX7) (N := 30) rfl (As := fun G => [.int x2_6, .int (x1_4 - (3 : Int32))]) (fun _ => rfl) (fun _ => rfl) (st := []) (Nat.le_of_ble_eq_true rfl) rfl dX7_undo_101 (kk_v (fun σ17 h => ?_))
        refine v_aload_n hC 3 dX7_undo_104 rfl ?_
        refine gf_X7_28 hC dX7_undo_105 ?_
        refine v_bipush hC (22 : Int32) dX7_undo_108 rfl ?_
        refine v_iconst hC (4 : Int32) dX7_undo_110 rfl ?_
        refine v_iload_n hC 2 dX7_undo_111 rfl ?_
        refine v_iconst hC (3 : Int32) dX7_undo_112 rfl ?_
        refine v_isub hC dX7_undo_113 ?_
        refine v_imul hC dX7_undo_114 ?_
        refine v_iadd hC dX7_undo_115 ?_
        refine v_iconst hC (3 : Int32) dX7_undo_116 rfl ?_
        refine v_iadd hC dX7_undo_117 ?_
        refine v_ldc hC kw1132 dX7_undo_118 ?_
        obtain ⟨hi18, h⟩ := h
        refine v_iast hC (Nat.le_of_ble_eq_true rfl) rfl rfl hi18 dX7_undo_120 (fun σ18 e18 => ?_)
        replace h := h σ18 e18
        refine v_aload_n hC 3 dX7_undo_121 rfl ?_
        refine gf_X7_28 hC dX7_undo_122 ?_
        refine v_bipush hC (6 : Int32) dX7_undo_125 rfl ?_
        refine v_iconst hC (4 : Int32) dX7_undo_127 rfl ?_
        refine v_iload_n hC 0 dX7_undo_128 rfl ?_
        refine v_imul hC dX7_undo_129 ?_
        refine v_iadd hC dX7_undo_130 ?_
        refine v_iconst hC (1 : Int32) dX7_undo_131 rfl ?_
        refine v_iadd hC dX7_undo_132 ?_
        refine v_dup2 hC dX7_undo_133 rfl rfl ?_
        obtain ⟨hi19, h⟩ := h
        refine v_iald hC (Nat.le_of_ble_eq_true rfl) rfl rfl hi19 dX7_undo_134 ?_
        refine v_aload_n hC 3 dX7_undo_135 rfl ?_
        refine gf_X7_38 hC dX7_undo_136 ?_
        refine v_iconst hC (5 : Int32) dX7_undo_139 rfl ?_
        refine v_aload_n hC 3 dX7_undo_140 rfl ?_
        refine gf_X7_173 hC dX7_undo_141 ?_
        refine v_imul hC dX7_undo_144 ?_
        refine v_iconst hC (3 : Int32) dX7_undo_145 rfl ?_
        refine v_iadd hC dX7_undo_146 ?_
        obtain ⟨hi20, h⟩ := h
        refine v_iald hC (Nat.le_of_ble_eq_true rfl) rfl rfl hi20 dX7_undo_147 ?_
        refine v_iadd hC dX7_undo_148 ?_
        obtain ⟨hi21, h⟩ := h
        refine v_iast hC (Nat.le_of_ble_eq_true rfl) rfl rfl hi21 dX7_undo_149 (fun σ21 e21 => ?_)
        replace h := h σ21 e21
        refine v_aload_n hC 3 dX7_undo_150 rfl ?_
        refine gf_X7_28 hC dX7_undo_151 ?_
        refine v_bipush hC (6 : Int32) dX7_undo_154 rfl ?_
        refine v_iconst hC (4 : Int32) dX7_undo_156 rfl ?_
        refine v_iload_n hC 0 dX7_undo_157 rfl ?_
        refine v_imul hC dX7_undo_158 ?_
        refine v_iadd hC dX7_undo_159 ?_
        refine v_iconst hC (2 : Int32) dX7_undo_160 rfl ?_
        refine v_iadd hC dX7_undo_161 ?_
        refine v_dup2 hC dX7_undo_162 rfl rfl ?_
        obtain ⟨hi22, h⟩ := h
        refine v_iald hC (Nat.le_of_ble_eq_true rfl) rfl rfl hi22 dX7_undo_163 ?_
        refine v_aload_n hC 3 dX7_undo_164 rfl ?_
        refine gf_X7_38 hC dX7_undo_165 ?_
        refine v_iconst hC (5 : Int32) dX7_undo_168 rfl ?_
        refine v_aload_n hC 3 dX7_undo_169 rfl ?_
        refine gf_X7_173 hC dX7_undo_170 ?_
        refine v_imul hC dX7_undo_173 ?_
        refine v_iconst hC (4 : Int32) dX7_undo_174 rfl ?_
        refine v_iadd hC dX7_undo_175 ?_
        obtain ⟨hi23, h⟩ := h
        refine v_iald hC (Nat.le_of_ble_eq_true rfl) rfl rfl hi23 dX7_undo_176 ?_
        refine v_isub hC dX7_undo_177 ?_
        obtain ⟨hi24, h⟩ := h
        refine v_iast hC (Nat.le_of_ble_eq_true rfl) rfl rfl hi24 dX7_undo_178 (fun σ24 e24 => ?_)
        replace h := h σ24 e24
        refine v_aload_n hC 3 dX7_undo_179 rfl ?_
        refine gf_X7_28 hC dX7_undo_180 ?_
        refine v_bipush hC (6 : Int32) dX7_undo_183 rfl ?_
        refine v_iconst hC (4 : Int32) dX7_undo_185 rfl ?_
        refine v_iload_n hC 0 dX7_undo_186 rfl ?_
        refine v_imul hC dX7_undo_187 ?_
        refine v_iadd hC dX7_undo_188 ?_
        refine v_iconst hC (3 : Int32) dX7_undo_189 rfl ?_
        refine v_iadd hC dX7_undo_190 ?_
        refine v_dup2 hC dX7_undo_191 rfl rfl ?_
        obtain ⟨hi25, h⟩ := h
        refine v_iald hC (Nat.le_of_ble_eq_true rfl) rfl rfl hi25 dX7_undo_192 ?_
        refine v_iconst hC (1 : Int32) dX7_undo_193 rfl ?_
        refine v_isub hC dX7_undo_194 ?_
        obtain ⟨hi26, h⟩ := h
        refine v_iast hC (Nat.le_of_ble_eq_true rfl) rfl rfl hi26 dX7_undo_195 (fun σ26 e26 => ?_)
        replace h := h σ26 e26
        refine v_aload_n hC 3 dX7_undo_196 rfl ?_
        refine gf_X7_173 hC dX7_undo_197 ?_
        exact v_iret hC hR h dX7_undo_200
      · replace h := h.1 c13
        refine v_aload_n hC 3 dX7_undo_88 rfl ?_
        refine v_iconst hC (-1 : Int32) dX7_undo_89 rfl ?_
        refine v_callV hC (kM_grow _ _ _ h) cmM_grow ⟨kw1191, kw60⟩ kw1189 ⟨Nat.le_of_ble_eq_true rfl, Nat.le_of_ble_eq_true rfl⟩ (Nat.le_of_ble_eq_true rfl) rfl (ci := 7) (T := TX7) (N := 30) rfl (As := fun G => [.int (-1 : Int32)]) (fun _ => rfl) (fun _ => rfl) (st := []) (Nat.le_of_ble_eq_true rfl) rfl dX7_undo_90 (kk_v (fun σ15 h => ?_))
        refine v_goto hC 196 dX7_undo_93 (by decide) ?_
        refine v_aload_n hC 3 dX7_undo_196 rfl ?_
        refine gf_X7_173 hC dX7_undo_197 ?_
        exact v_iret hC hR h dX7_undo_200
    · replace h := h.1 c9
      refine v_aload_n hC 3 dX7_undo_65 rfl ?_
      refine v_iload_n hC 1 dX7_undo_66 rfl ?_
      refine v_callV hC (kM_takeAt _ _ _ h) cmM_takeAt ⟨kw1167, kw56⟩ kw1165 ⟨Nat.le_of_ble_eq_true rfl, Nat.le_of_ble_eq_true rfl⟩ (Nat.le_of_ble_eq_true rfl) rfl (ci := 7) (T := TX7) (N := 30) rfl (As := fun G => [.int x2_6]) (fun _ => rfl) (fun _ => rfl) (st := []) (Nat.le_of_ble_eq_true rfl) rfl dX7_undo_67 (kk_i (fun r11 σ11 h => ?_))
      refine v_istore hC dX7_undo_70 (by decide) rfl ?_
      refine v_aload_n hC 4 dX7_undo_72 rfl ?_
      refine gf_X7_28 hC dX7_undo_73 ?_
      refine v_iconst hC (3 : Int32) dX7_undo_76 rfl ?_
      refine v_iload hC 0 dX7_undo_77 rfl ?_
      refine v_iast hC (Nat.le_of_ble_eq_true rfl) rfl (j := 3) (by decide) (by unfold vp_in; decide) dX7_undo_79 (fun σ12 e12 => ?_)
      replace h := h σ12 e12
      refine v_goto hC 196 dX7_undo_80 (by decide) ?_
      refine v_aload_n hC 4 dX7_undo_196 rfl ?_
      refine gf_X7_173 hC dX7_undo_197 ?_
      exact v_iret hC hR h dX7_undo_200
  · replace h := h.1 c1
    refine v_ldc hC kw1145 dX7_undo_7 ?_
    exact v_iret hC hR h dX7_undo_9
theorem cmM_undo : CM yX7_undo cX7_undo 5 (some .int) rmM_undo 0 := ⟨kw82, kw1196, rfl, rfl, by decide, by decide, by decide +kernel⟩
def rmM_isWareAt : Room := { frames := 1, cells := 0, slots := 0, locals := 22 }
def wM_isWareAt (x1 : Int32) (σ : gM) (Q : Int32 → gM → Prop) : Prop :=
    wM_in x1 (0 : Int32) ((σ 89 3) - (1 : Int32)) σ (fun (r3 : Int32) (σ3 : gM) => (r3 = 0 ∨ r3 = 1) ∧ Q r3 σ3)
set_option maxHeartbeats 4000000 in
set_option maxRecDepth 100000 in
theorem kM_isWareAt (x1 : Int32) (σ : gM) (Q : Int32 → gM → Prop) (h : wM_isWareAt x1 σ Q) : CT yX7_isWareAt cX7_isWareAt 2 (some .boolean) rmM_isWareAt (fun G => [.ref (gad G 82), .int x1]) σ (gPi Q) := by
  refine c_enter (by decide) (fun _ => Nat.le_of_ble_eq_true rfl) (fun X hC hR => ?_)
  show V X 2 0 [(0, .ref (xad X 82)), (1, .int x1)] [] σ
  replace h : wM_in x1 (0 : Int32) ((σ 89 3) - (1 : Int32)) σ (fun (r3 : Int32) (σ3 : gM) => (r3 = 0 ∨ r3 = 1) ∧ Q r3 σ3) := h
  refine v_iload_n hC 1 dX7_isWareAt_0 rfl ?_
  refine v_iconst hC (0 : Int32) dX7_isWareAt_1 rfl ?_
  refine v_aload_n hC 0 dX7_isWareAt_2 rfl ?_
  refine gf_X7_28 hC dX7_isWareAt_3 ?_
  refine v_iconst hC (3 : Int32) dX7_isWareAt_6 rfl ?_
  refine v_iald hC (Nat.le_of_ble_eq_true rfl) rfl (j := 3) (by decide) (by unfold vp_in; decide) dX7_isWareAt_7 ?_
  refine v_iconst hC (1 : Int32) dX7_isWareAt_8 rfl ?_
  refine v_isub hC dX7_isWareAt_9 ?_
  refine v_callS hC (kM_in _ _ _ _ _ h) cmM_in kw1051 kw1050 ⟨Nat.le_of_ble_eq_true rfl, Nat.le_of_ble_eq_true rfl⟩ (fun _ => rfl) (st := []) (Nat.le_of_ble_eq_true rfl) rfl dX7_isWareAt_10 (kk_i (fun r3 σ3 h => ?_))
  obtain ⟨hb, h⟩ := h
  exact v_zret hC hR (nar_bool hb) h dX7_isWareAt_13
theorem cmM_isWareAt : CM yX7_isWareAt cX7_isWareAt 2 (some .boolean) rmM_isWareAt 1 := ⟨kw82, kw1204, rfl, rfl, by decide, by decide, by decide +kernel⟩
def rmM_placeOf : Room := { frames := 1, cells := 0, slots := 0, locals := 21 }
def wM_placeOf_l2 (Q : Int32 → gM → Prop)  : Nat → Int32 → Int32 → gM → Prop
  | 0, _, _, _ => False
  | n + 1, x1, x2, σ =>
    ((σ 89 5) ≤ x2 → (Q (-1000000 : Int32) σ)) ∧ (¬ ((σ 89 5) ≤ x2) → (wM_heap x2 σ (fun (r4 : Int32) (σ4 : gM) => (r4 = x1 → (Q x2 σ4)) ∧ (¬ (r4 = x1) → (∀ x2_6 : Int32, x2_6 = x2 + (1 : Int32) → (wM_placeOf_l2 Q n x1 x2_6 σ4))))))
def wM_placeOf (x1 : Int32) (σ : gM) (Q : Int32 → gM → Prop) : Prop :=
    ∃ n7 : Nat, wM_placeOf_l2 Q n7 x1 (0 : Int32) σ
set_option maxHeartbeats 4000000 in
set_option maxRecDepth 100000 in
theorem tM_placeOf_l2 {X : gX} {Q : Int32 → gM → Prop} (hC : VC X cX7_placeOf RX7 3 rmM_placeOf) (hR : VR X (some .int) (gPi Q))  : ∀ (n : Nat) (x1 : Int32) (x2 : Int32) (σ : gM), wM_placeOf_l2 Q  n x1 x2 σ → V X 3 2 [(0, .ref (xad X 82)), (1, .int x1), (2, .int x2)] [] σ := by
  intro n
  induction n with
  | zero => intro x1 x2 σ h; exact h.elim
  | succ n ih =>
    intro x1 x2 σ h
    replace h : ((σ 89 5) ≤ x2 → (Q (-1000000 : Int32) σ)) ∧ (¬ ((σ 89 5) ≤ x2) → (wM_heap x2 σ (fun (r4 : Int32) (σ4 : gM) => (r4 = x1 → (Q x2 σ4)) ∧ (¬ (r4 = x1) → (∀ x2_6 : Int32, x2_6 = x2 + (1 : Int32) → (wM_placeOf_l2 Q n x1 x2_6 σ4)))))) := h
    refine v_iload_n hC 2 dX7_placeOf_2 rfl ?_
    refine v_aload_n hC 0 dX7_placeOf_3 rfl ?_
    refine gf_X7_28 hC dX7_placeOf_4 ?_
    refine v_iconst hC (5 : Int32) dX7_placeOf_7 rfl ?_
    refine v_iald hC (Nat.le_of_ble_eq_true rfl) rfl (j := 5) (by decide) (by unfold vp_in; decide) dX7_placeOf_8 ?_
    refine v_icmp_ge hC 29 dX7_placeOf_9 (by decide) (fun c2 => ?_) (fun c2 => ?_)
    · replace h := h.1 c2
      refine v_ldc hC kw1132 dX7_placeOf_29 ?_
      exact v_iret hC hR h dX7_placeOf_31
    · replace h := h.2 c2
      refine v_aload_n hC 0 dX7_placeOf_12 rfl ?_
      refine v_iload_n hC 2 dX7_placeOf_13 rfl ?_
      refine v_callV hC (kM_heap _ _ _ h) cmM_heap ⟨kw1148, kw52⟩ kw1146 ⟨Nat.le_of_ble_eq_true rfl, Nat.le_of_ble_eq_true rfl⟩ (Nat.le_of_ble_eq_true rfl) rfl (ci := 7) (T := TX7) (N := 30) rfl (As := fun G => [.int x2]) (fun _ => rfl) (fun _ => rfl) (st := []) (Nat.le_of_ble_eq_true rfl) rfl dX7_placeOf_14 (kk_i (fun r4 σ4 h => ?_))
      refine v_iload_n hC 1 dX7_placeOf_17 rfl ?_
      refine v_icmp_ne hC 23 dX7_placeOf_18 (by decide) (fun c5 => ?_) (fun c5 => ?_)
      · replace h := h.2 c5
        refine v_iincN hC (1 : Int32) 2 dX7_placeOf_23 rfl rfl (by decide) (lo2 := fun x2_6 => [(2, .int x2_6), (0, .ref (xad X 82)), (1, .int x1)]) (fun _ => rfl) (fun x2_6 e6 => ?_)
        replace h := h x2_6 e6
        refine v_goto hC 2 dX7_placeOf_26 (by decide) ?_
        exact V.sub [1, 2, 0] rfl (ih _ _ _ h)
      · replace h := h.1 c5
        refine v_iload_n hC 2 dX7_placeOf_21 rfl ?_
        exact v_iret hC hR h dX7_placeOf_22
set_option maxHeartbeats 4000000 in
set_option maxRecDepth 100000 in
theorem kM_placeOf (x1 : Int32) (σ : gM) (Q : Int32 → gM → Prop) (h : wM_placeOf x1 σ Q) : CT yX7_placeOf cX7_placeOf 3 (some .int) rmM_placeOf (fun G => [.ref (gad G 82), .int x1]) σ (gPi Q) := by
  refine c_enter (by decide) (fun _ => Nat.le_of_ble_eq_true rfl) (fun X hC hR => ?_)
  show V X 3 0 [(0, .ref (xad X 82)), (1, .int x1)] [] σ
  replace h : ∃ n7 : Nat, wM_placeOf_l2 Q n7 x1 (0 : Int32) σ := h
  refine v_iconst hC (0 : Int32) dX7_placeOf_0 rfl ?_
  refine v_istore_n hC dX7_placeOf_1 (by decide) rfl ?_
  obtain ⟨n7, h⟩ := h
  exact V.sub [1, 2, 0] rfl (tM_placeOf_l2 hC hR  n7 _ _ _ h)
theorem cmM_placeOf : CM yX7_placeOf cX7_placeOf 3 (some .int) rmM_placeOf 1 := ⟨kw82, kw1208, rfl, rfl, by decide, by decide, by decide +kernel⟩
def rmM_ware : Room := { frames := 2, cells := 0, slots := 0, locals := 46 }
def wM_ware (x1 : Int32) (x2 : Int32) (σ : gM) (Q : Int32 → gM → Prop) : Prop :=
    wM_isWareAt x1 σ (fun (r2 : Int32) (σ2 : gM) => (r2 = 0 → (Q (-1000001 : Int32) σ2)) ∧ (¬ (r2 = 0) → ((x2 = (0 : Int32) → (vp_in (((22 : Int32) + ((4 : Int32) * x1)) + (1 : Int32)) 102 ∧ (Q (σ2 89 (((22 : Int32) + ((4 : Int32) * x1)) + (1 : Int32)).toNatClampNeg) σ2))) ∧ (x2 = (1 : Int32) → (vp_in (((22 : Int32) + ((4 : Int32) * x1)) + (2 : Int32)) 102 ∧ (Q (σ2 89 (((22 : Int32) + ((4 : Int32) * x1)) + (2 : Int32)).toNatClampNeg) σ2))) ∧ (x2 = (2 : Int32) → (wM_valueOf x1 (0 : Int32) σ2 (fun (r8 : Int32) (σ8 : gM) => Q r8 σ8))) ∧ (x2 = (3 : Int32) → (wM_placeOf x1 σ2 (fun (r10 : Int32) (σ10 : gM) => Q r10 σ10))) ∧ (x2 = (4 : Int32) → (vp_in (((22 : Int32) + ((4 : Int32) * x1)) + (3 : Int32)) 102 ∧ (Q (σ2 89 (((22 : Int32) + ((4 : Int32) * x1)) + (3 : Int32)).toNatClampNeg) σ2))) ∧ (x2 = (5 : Int32) → (wM_valueOf x1 (0 : Int32) σ2 (fun (r13 : Int32) (σ13 : gM) => ∀ v15 : Int32, v15 = (if r13 = 0 then (1 : Int32) else (0 : Int32)) → (Q v15 σ13)))) ∧ ((¬ x2 = (0 : Int32) ∧ ¬ x2 = (1 : Int32) ∧ ¬ x2 = (2 : Int32) ∧ ¬ x2 = (3 : Int32) ∧ ¬ x2 = (4 : Int32) ∧ ¬ x2 = (5 : Int32)) → (Q (-1000001 : Int32) σ2)))))
set_option maxHeartbeats 4000000 in
set_option maxRecDepth 100000 in
theorem kM_ware (x1 : Int32) (x2 : Int32) (σ : gM) (Q : Int32 → gM → Prop) (h : wM_ware x1 x2 σ Q) : CT yX7_ware cX7_ware 3 (some .int) rmM_ware (fun G => [.ref (gad G 82), .int x1, .int x2]) σ (gPi Q) := by
  refine c_enter (by decide) (fun _ => Nat.le_of_ble_eq_true rfl) (fun X hC hR => ?_)
  show V X 3 0 [(0, .ref (xad X 82)), (1, .int x1), (2, .int x2)] [] σ
  replace h : wM_isWareAt x1 σ (fun (r2 : Int32) (σ2 : gM) => (r2 = 0 → (Q (-1000001 : Int32) σ2)) ∧ (¬ (r2 = 0) → ((x2 = (0 : Int32) → (vp_in (((22 : Int32) + ((4 : Int32) * x1)) + (1 : Int32)) 102 ∧ (Q (σ2 89 (((22 : Int32) + ((4 : Int32) * x1)) + (1 : Int32)).toNatClampNeg) σ2))) ∧ (x2 = (1 : Int32) → (vp_in (((22 : Int32) + ((4 : Int32) * x1)) + (2 : Int32)) 102 ∧ (Q (σ2 89 (((22 : Int32) + ((4 : Int32) * x1)) + (2 : Int32)).toNatClampNeg) σ2))) ∧ (x2 = (2 : Int32) → (wM_valueOf x1 (0 : Int32) σ2 (fun (r8 : Int32) (σ8 : gM) => Q r8 σ8))) ∧ (x2 = (3 : Int32) → (wM_placeOf x1 σ2 (fun (r10 : Int32) (σ10 : gM) => Q r10 σ10))) ∧ (x2 = (4 : Int32) → (vp_in (((22 : Int32) + ((4 : Int32) * x1)) + (3 : Int32)) 102 ∧ (Q (σ2 89 (((22 : Int32) + ((4 : Int32) * x1)) + (3 : Int32)).toNatClampNeg) σ2))) ∧ (x2 = (5 : Int32) → (wM_valueOf x1 (0 : Int32) σ2 (fun (r13 : Int32) (σ13 : gM) => ∀ v15 : Int32, v15 = (if r13 = 0 then (1 : Int32) else (0 : Int32)) → (Q v15 σ13)))) ∧ ((¬ x2 = (0 : Int32) ∧ ¬ x2 = (1 : Int32) ∧ ¬ x2 = (2 : Int32) ∧ ¬ x2 = (3 : Int32) ∧ ¬ x2 = (4 : Int32) ∧ ¬ x2 = (5 : Int32)) → (Q (-1000001 : Int32) σ2))))) := h
  refine v_aload_n hC 0 dX7_ware_0 rfl ?_
  refine v_iload_n hC 1 dX7_ware_1 rfl ?_
  refine v_callV hC (kM_isWareAt _ _ _ h) cmM_isWareAt ⟨kw1203, kw61⟩ kw1201 ⟨Nat.le_of_ble_eq_true rfl, Nat.le_of_ble_eq_true rfl⟩ (Nat.le_of_ble_eq_true rfl) rfl (ci := 7) (T := TX7) (N := 30) rfl (As := fun G => [.int x1]) (fun _ => rfl) (fun _ => rfl) (st := []) (Nat.le_of_ble_eq_true rfl) rfl dX7_ware_2 (kk_i (fun r2 σ2 h => ?_))
  refine v_if_ne hC 11 dX7_ware_5 (by decide) (fun c3 => ?_) (fun c3 => ?_)
  · replace h := h.2 c3
    refine v_iload_n hC 2 dX7_ware_11 rfl ?_
    by_cases q4_0 : x2 = (0 : Int32)
    · replace h := h.1 q4_0
      refine v_tableIn hC (0 : Int32) 52 dX7_ware_12 q4_0 (by decide) (by decide) rfl (by decide) ?_
      refine v_aload_n hC 0 dX7_ware_52 rfl ?_
      refine gf_X7_28 hC dX7_ware_53 ?_
      refine v_bipush hC (22 : Int32) dX7_ware_56 rfl ?_
      refine v_iconst hC (4 : Int32) dX7_ware_58 rfl ?_
      refine v_iload_n hC 1 dX7_ware_59 rfl ?_
      refine v_imul hC dX7_ware_60 ?_
      refine v_iadd hC dX7_ware_61 ?_
      refine v_iconst hC (1 : Int32) dX7_ware_62 rfl ?_
      refine v_iadd hC dX7_ware_63 ?_
      obtain ⟨hi5, h⟩ := h
      refine v_iald hC (Nat.le_of_ble_eq_true rfl) rfl rfl hi5 dX7_ware_64 ?_
      exact v_iret hC hR h dX7_ware_65
    · by_cases q4_1 : x2 = (1 : Int32)
      · replace h := h.2.1 q4_1
        refine v_tableIn hC (1 : Int32) 66 dX7_ware_12 q4_1 (by decide) (by decide) rfl (by decide) ?_
        refine v_aload_n hC 0 dX7_ware_66 rfl ?_
        refine gf_X7_28 hC dX7_ware_67 ?_
        refine v_bipush hC (22 : Int32) dX7_ware_70 rfl ?_
        refine v_iconst hC (4 : Int32) dX7_ware_72 rfl ?_
        refine v_iload_n hC 1 dX7_ware_73 rfl ?_
        refine v_imul hC dX7_ware_74 ?_
        refine v_iadd hC dX7_ware_75 ?_
        refine v_iconst hC (2 : Int32) dX7_ware_76 rfl ?_
        refine v_iadd hC dX7_ware_77 ?_
        obtain ⟨hi6, h⟩ := h
        refine v_iald hC (Nat.le_of_ble_eq_true rfl) rfl rfl hi6 dX7_ware_78 ?_
        exact v_iret hC hR h dX7_ware_79
      · by_cases q4_2 : x2 = (2 : Int32)
        · replace h := h.2.2.1 q4_2
          refine v_tableIn hC (2 : Int32) 80 dX7_ware_12 q4_2 (by decide) (by decide) rfl (by decide) ?_
          refine v_aload_n hC 0 dX7_ware_80 rfl ?_
          refine v_iload_n hC 1 dX7_ware_81 rfl ?_
          refine v_iconst hC (0 : Int32) dX7_ware_82 rfl ?_
          refine v_callV hC (kM_valueOf _ _ _ _ h) cmM_valueOf ⟨kw1152, kw53⟩ kw1150 ⟨Nat.le_of_ble_eq_true rfl, Nat.le_of_ble_eq_true rfl⟩ (Nat.le_of_ble_eq_true rfl) rfl (ci := 7) (T := TX7) (N := 30) rfl (As := fun G => [.int x1, .int (0 : Int32)]) (fun _ => rfl) (fun _ => rfl) (st := []) (Nat.le_of_ble_eq_true rfl) rfl dX7_ware_83 (kk_i (fun r8 σ8 h => ?_))
          exact v_iret hC hR h dX7_ware_86
        · by_cases q4_3 : x2 = (3 : Int32)
          · replace h := h.2.2.2.1 q4_3
            refine v_tableIn hC (3 : Int32) 87 dX7_ware_12 q4_3 (by decide) (by decide) rfl (by decide) ?_
            refine v_aload_n hC 0 dX7_ware_87 rfl ?_
            refine v_iload_n hC 1 dX7_ware_88 rfl ?_
            refine v_callV hC (kM_placeOf _ _ _ h) cmM_placeOf ⟨kw1207, kw62⟩ kw1205 ⟨Nat.le_of_ble_eq_true rfl, Nat.le_of_ble_eq_true rfl⟩ (Nat.le_of_ble_eq_true rfl) rfl (ci := 7) (T := TX7) (N := 30) rfl (As := fun G => [.int x1]) (fun _ => rfl) (fun _ => rfl) (st := []) (Nat.le_of_ble_eq_true rfl) rfl dX7_ware_89 (kk_i (fun r10 σ10 h => ?_))
            exact v_iret hC hR h dX7_ware_92
          · by_cases q4_4 : x2 = (4 : Int32)
            · replace h := h.2.2.2.2.1 q4_4
              refine v_tableIn hC (4 : Int32) 93 dX7_ware_12 q4_4 (by decide) (by decide) rfl (by decide) ?_
              refine v_aload_n hC 0 dX7_ware_93 rfl ?_
              refine gf_X7_28 hC dX7_ware_94 ?_
              refine v_bipush hC (22 : Int32) dX7_ware_97 rfl ?_
              refine v_iconst hC (4 : Int32) dX7_ware_99 rfl ?_
              refine v_iload_n hC 1 dX7_ware_100 rfl ?_
              refine v_imul hC dX7_ware_101 ?_
              refine v_iadd hC dX7_ware_102 ?_
              refine v_iconst hC (3 : Int32) dX7_ware_103 rfl ?_
              refine v_iadd hC dX7_ware_104 ?_
              obtain ⟨hi11, h⟩ := h
              refine v_iald hC (Nat.le_of_ble_eq_true rfl) rfl rfl hi11 dX7_ware_105 ?_
              exact v_iret hC hR h dX7_ware_106
            · by_cases q4_5 : x2 = (5 : Int32)
              · replace h := h.2.2.2.2.2.1 q4_5
                refine v_tableIn hC (5 : Int32) 107 dX7_ware_12 q4_5 (by decide) (by decide) rfl (by decide) ?_
                refine v_aload_n hC 0 dX7_ware_107 rfl ?_
                refine v_iload_n hC 1 dX7_ware_108 rfl ?_
                refine v_iconst hC (0 : Int32) dX7_ware_109 rfl ?_
                refine v_callV hC (kM_valueOf _ _ _ _ h) cmM_valueOf ⟨kw1152, kw53⟩ kw1150 ⟨Nat.le_of_ble_eq_true rfl, Nat.le_of_ble_eq_true rfl⟩ (Nat.le_of_ble_eq_true rfl) rfl (ci := 7) (T := TX7) (N := 30) rfl (As := fun G => [.int x1, .int (0 : Int32)]) (fun _ => rfl) (fun _ => rfl) (st := []) (Nat.le_of_ble_eq_true rfl) rfl dX7_ware_110 (kk_i (fun r13 σ13 h => ?_))
                have J14 : ∀ (v15 : Int32) (ev15 : v15 = (if r13 = 0 then (1 : Int32) else (0 : Int32))), V X 3 121 [] [.int v15] σ13 := by
                  intro v15 ev15
                  replace h := h v15 ev15
                  exact v_iret hC hR h dX7_ware_121
                refine v_if_ne hC 120 dX7_ware_113 (by decide) (fun c14 => ?_) (fun c14 => ?_)
                · refine v_iconst hC (0 : Int32) dX7_ware_120 rfl ?_
                  exact V.sub [] rfl (J14 _ (by rw [if_neg c14]))
                · refine v_iconst hC (1 : Int32) dX7_ware_116 rfl ?_
                  refine v_goto hC 121 dX7_ware_117 (by decide) ?_
                  exact V.sub [] rfl (J14 _ (by rw [if_pos c14]))
              · replace h := h.2.2.2.2.2.2 ⟨q4_0, q4_1, q4_2, q4_3, q4_4, q4_5⟩
                refine v_tableOut hC 122 dX7_ware_12 (sw_out _ _ (fun j hj1 hj2 => by have hj : j = 0 ∨ j = 1 ∨ j = 2 ∨ j = 3 ∨ j = 4 ∨ j = 5 := (by omega); rcases hj with rfl | rfl | rfl | rfl | rfl | rfl <;> first | exact q4_0 | exact q4_1 | exact q4_2 | exact q4_3 | exact q4_4 | exact q4_5)) (by decide) ?_
                refine v_ldc hC kw1053 dX7_ware_122 ?_
                exact v_iret hC hR h dX7_ware_124
  · replace h := h.1 c3
    refine v_ldc hC kw1053 dX7_ware_8 ?_
    exact v_iret hC hR h dX7_ware_10
theorem cmM_ware : CM yX7_ware cX7_ware 3 (some .int) rmM_ware 2 := ⟨kw82, kw1200, rfl, rfl, by decide, by decide, by decide +kernel⟩
def rmM_buyer : Room := { frames := 2, cells := 0, slots := 0, locals := 43 }
def wM_buyer (x1 : Int32) (x2 : Int32) (σ : gM) (Q : Int32 → gM → Prop) : Prop :=
    wM_isBuyerAt x1 σ (fun (r2 : Int32) (σ2 : gM) => (r2 = 0 → (Q (-1000001 : Int32) σ2)) ∧ (¬ (r2 = 0) → (wM_in x2 (0 : Int32) (3 : Int32) σ2 (fun (r5 : Int32) (σ5 : gM) => ((r5 = 0 → (True)) ∧ (¬ (r5 = 0) → (vp_in (((6 : Int32) + ((4 : Int32) * x1)) + x2) 102 ∧ True))) ∧ (∀ v8 : Int32, v8 = (if r5 = 0 then (-1000001 : Int32) else (σ5 89 (((6 : Int32) + ((4 : Int32) * x1)) + x2).toNatClampNeg)) → (Q v8 σ5))))))
set_option maxHeartbeats 4000000 in
set_option maxRecDepth 100000 in
theorem kM_buyer (x1 : Int32) (x2 : Int32) (σ : gM) (Q : Int32 → gM → Prop) (h : wM_buyer x1 x2 σ Q) : CT yX7_buyer cX7_buyer 3 (some .int) rmM_buyer (fun G => [.ref (gad G 82), .int x1, .int x2]) σ (gPi Q) := by
  refine c_enter (by decide) (fun _ => Nat.le_of_ble_eq_true rfl) (fun X hC hR => ?_)
  show V X 3 0 [(0, .ref (xad X 82)), (1, .int x1), (2, .int x2)] [] σ
  replace h : wM_isBuyerAt x1 σ (fun (r2 : Int32) (σ2 : gM) => (r2 = 0 → (Q (-1000001 : Int32) σ2)) ∧ (¬ (r2 = 0) → (wM_in x2 (0 : Int32) (3 : Int32) σ2 (fun (r5 : Int32) (σ5 : gM) => ((r5 = 0 → (True)) ∧ (¬ (r5 = 0) → (vp_in (((6 : Int32) + ((4 : Int32) * x1)) + x2) 102 ∧ True))) ∧ (∀ v8 : Int32, v8 = (if r5 = 0 then (-1000001 : Int32) else (σ5 89 (((6 : Int32) + ((4 : Int32) * x1)) + x2).toNatClampNeg)) → (Q v8 σ5)))))) := h
  refine v_aload_n hC 0 dX7_buyer_0 rfl ?_
  refine v_iload_n hC 1 dX7_buyer_1 rfl ?_
  refine v_callV hC (kM_isBuyerAt _ _ _ h) cmM_isBuyerAt ⟨kw1143, kw51⟩ kw1141 ⟨Nat.le_of_ble_eq_true rfl, Nat.le_of_ble_eq_true rfl⟩ (Nat.le_of_ble_eq_true rfl) rfl (ci := 7) (T := TX7) (N := 30) rfl (As := fun G => [.int x1]) (fun _ => rfl) (fun _ => rfl) (st := []) (Nat.le_of_ble_eq_true rfl) rfl dX7_buyer_2 (kk_i (fun r2 σ2 h => ?_))
  refine v_if_eq hC 33 dX7_buyer_5 (by decide) (fun c3 => ?_) (fun c3 => ?_)
  · replace h := h.1 c3
    refine v_ldc hC kw1053 dX7_buyer_33 ?_
    exact v_iret hC hR h dX7_buyer_35
  · replace h := h.2 c3
    refine v_iload_n hC 2 dX7_buyer_8 rfl ?_
    refine v_iconst hC (0 : Int32) dX7_buyer_9 rfl ?_
    refine v_iconst hC (3 : Int32) dX7_buyer_10 rfl ?_
    refine v_callS hC (kM_in _ _ _ _ _ h) cmM_in kw1051 kw1050 ⟨Nat.le_of_ble_eq_true rfl, Nat.le_of_ble_eq_true rfl⟩ (fun _ => rfl) (st := []) (Nat.le_of_ble_eq_true rfl) rfl dX7_buyer_11 (kk_i (fun r5 σ5 h => ?_))
    obtain ⟨hO6, h⟩ := h
    have J6 : ∀ (v8 : Int32) (ev8 : v8 = (if r5 = 0 then (-1000001 : Int32) else (σ5 89 (((6 : Int32) + ((4 : Int32) * x1)) + x2).toNatClampNeg))), V X 3 35 [] [.int v8] σ5 := by
      intro v8 ev8
      replace h := h v8 ev8
      exact v_iret hC hR h dX7_buyer_35
    refine v_if_eq hC 33 dX7_buyer_14 (by decide) (fun c6 => ?_) (fun c6 => ?_)
    · replace h := hO6.1 c6
      refine v_ldc hC kw1053 dX7_buyer_33 ?_
      exact V.sub [] rfl (J6 _ (by rw [if_pos c6]))
    · replace h := hO6.2 c6
      refine v_aload_n hC 0 dX7_buyer_17 rfl ?_
      refine gf_X7_28 hC dX7_buyer_18 ?_
      refine v_bipush hC (6 : Int32) dX7_buyer_21 rfl ?_
      refine v_iconst hC (4 : Int32) dX7_buyer_23 rfl ?_
      refine v_iload_n hC 1 dX7_buyer_24 rfl ?_
      refine v_imul hC dX7_buyer_25 ?_
      refine v_iadd hC dX7_buyer_26 ?_
      refine v_iload_n hC 2 dX7_buyer_27 rfl ?_
      refine v_iadd hC dX7_buyer_28 ?_
      obtain ⟨hi9, h⟩ := h
      refine v_iald hC (Nat.le_of_ble_eq_true rfl) rfl rfl hi9 dX7_buyer_29 ?_
      refine v_goto hC 35 dX7_buyer_30 (by decide) ?_
      exact V.sub [] rfl (J6 _ (by rw [if_neg c6]))
theorem cmM_buyer : CM yX7_buyer cX7_buyer 3 (some .int) rmM_buyer 2 := ⟨kw82, kw1212, rfl, rfl, by decide, by decide, by decide +kernel⟩
def rmM_worth : Room := { frames := 3, cells := 0, slots := 0, locals := 69 }
def wM_worth (x1 : Int32) (x2 : Int32) (σ : gM) (Q : Int32 → gM → Prop) : Prop :=
    wM_isWareAt x1 σ (fun (r2 : Int32) (σ2 : gM) => (r2 = 0 → (Q (-1000001 : Int32) σ2)) ∧ (¬ (r2 = 0) → (wM_isBuyerAt x2 σ2 (fun (r5 : Int32) (σ5 : gM) => (r5 = 0 → (Q (-1000001 : Int32) σ5)) ∧ (¬ (r5 = 0) → (wM_worthOf x1 x2 (0 : Int32) σ5 (fun (r8 : Int32) (σ8 : gM) => Q r8 σ8)))))))
set_option maxHeartbeats 4000000 in
set_option maxRecDepth 100000 in
theorem kM_worth (x1 : Int32) (x2 : Int32) (σ : gM) (Q : Int32 → gM → Prop) (h : wM_worth x1 x2 σ Q) : CT yX7_worth cX7_worth 3 (some .int) rmM_worth (fun G => [.ref (gad G 82), .int x1, .int x2]) σ (gPi Q) := by
  refine c_enter (by decide) (fun _ => Nat.le_of_ble_eq_true rfl) (fun X hC hR => ?_)
  show V X 3 0 [(0, .ref (xad X 82)), (1, .int x1), (2, .int x2)] [] σ
  replace h : wM_isWareAt x1 σ (fun (r2 : Int32) (σ2 : gM) => (r2 = 0 → (Q (-1000001 : Int32) σ2)) ∧ (¬ (r2 = 0) → (wM_isBuyerAt x2 σ2 (fun (r5 : Int32) (σ5 : gM) => (r5 = 0 → (Q (-1000001 : Int32) σ5)) ∧ (¬ (r5 = 0) → (wM_worthOf x1 x2 (0 : Int32) σ5 (fun (r8 : Int32) (σ8 : gM) => Q r8 σ8))))))) := h
  refine v_aload_n hC 0 dX7_worth_0 rfl ?_
  refine v_iload_n hC 1 dX7_worth_1 rfl ?_
  refine v_callV hC (kM_isWareAt _ _ _ h) cmM_isWareAt ⟨kw1203, kw61⟩ kw1201 ⟨Nat.le_of_ble_eq_true rfl, Nat.le_of_ble_eq_true rfl⟩ (Nat.le_of_ble_eq_true rfl) rfl (ci := 7) (T := TX7) (N := 30) rfl (As := fun G => [.int x1]) (fun _ => rfl) (fun _ => rfl) (st := []) (Nat.le_of_ble_eq_true rfl) rfl dX7_worth_2 (kk_i (fun r2 σ2 h => ?_))
  refine v_if_eq hC 26 dX7_worth_5 (by decide) (fun c3 => ?_) (fun c3 => ?_)
  · replace h := h.1 c3
    refine v_ldc hC kw1053 dX7_worth_26 ?_
    exact v_iret hC hR h dX7_worth_28
  · replace h := h.2 c3
    refine v_aload_n hC 0 dX7_worth_8 rfl ?_
    refine v_iload_n hC 2 dX7_worth_9 rfl ?_
    refine v_callV hC (kM_isBuyerAt _ _ _ h) cmM_isBuyerAt ⟨kw1143, kw51⟩ kw1141 ⟨Nat.le_of_ble_eq_true rfl, Nat.le_of_ble_eq_true rfl⟩ (Nat.le_of_ble_eq_true rfl) rfl (ci := 7) (T := TX7) (N := 30) rfl (As := fun G => [.int x2]) (fun _ => rfl) (fun _ => rfl) (st := []) (Nat.le_of_ble_eq_true rfl) rfl dX7_worth_10 (kk_i (fun r5 σ5 h => ?_))
    refine v_if_eq hC 26 dX7_worth_13 (by decide) (fun c6 => ?_) (fun c6 => ?_)
    · replace h := h.1 c6
      refine v_ldc hC kw1053 dX7_worth_26 ?_
      exact v_iret hC hR h dX7_worth_28
    · replace h := h.2 c6
      refine v_aload_n hC 0 dX7_worth_16 rfl ?_
      refine v_iload_n hC 1 dX7_worth_17 rfl ?_
      refine v_iload_n hC 2 dX7_worth_18 rfl ?_
      refine v_iconst hC (0 : Int32) dX7_worth_19 rfl ?_
      refine v_callV hC (kM_worthOf _ _ _ _ _ h) cmM_worthOf ⟨kw1160, kw55⟩ kw1158 ⟨Nat.le_of_ble_eq_true rfl, Nat.le_of_ble_eq_true rfl⟩ (Nat.le_of_ble_eq_true rfl) rfl (ci := 7) (T := TX7) (N := 30) rfl (As := fun G => [.int x1, .int x2, .int (0 : Int32)]) (fun _ => rfl) (fun _ => rfl) (st := []) (Nat.le_of_ble_eq_true rfl) rfl dX7_worth_20 (kk_i (fun r8 σ8 h => ?_))
      refine v_goto hC 28 dX7_worth_23 (by decide) ?_
      exact v_iret hC hR h dX7_worth_28
theorem cmM_worth : CM yX7_worth cX7_worth 3 (some .int) rmM_worth 2 := ⟨kw82, kw1216, rfl, rfl, by decide, by decide, by decide +kernel⟩
def rmM_areUnlike : Room := { frames := 2, cells := 0, slots := 0, locals := 43 }
def wM_areUnlike (x1 : Int32) (x2 : Int32) (σ : gM) (Q : Int32 → gM → Prop) : Prop :=
    wM_isBuyerAt x1 σ (fun (r2 : Int32) (σ2 : gM) => (r2 = 0 → (Q (0 : Int32) σ2)) ∧ (¬ (r2 = 0) → (wM_isBuyerAt x2 σ2 (fun (r5 : Int32) (σ5 : gM) => ∀ v7 : Int32, v7 = (if r5 = 0 then (0 : Int32) else (if x1 = x2 then (0 : Int32) else (1 : Int32))) → ((v7 = 0 ∨ v7 = 1) ∧ Q v7 σ5)))))
set_option maxHeartbeats 4000000 in
set_option maxRecDepth 100000 in
theorem kM_areUnlike (x1 : Int32) (x2 : Int32) (σ : gM) (Q : Int32 → gM → Prop) (h : wM_areUnlike x1 x2 σ Q) : CT yX7_areUnlike cX7_areUnlike 3 (some .boolean) rmM_areUnlike (fun G => [.ref (gad G 82), .int x1, .int x2]) σ (gPi Q) := by
  refine c_enter (by decide) (fun _ => Nat.le_of_ble_eq_true rfl) (fun X hC hR => ?_)
  show V X 3 0 [(0, .ref (xad X 82)), (1, .int x1), (2, .int x2)] [] σ
  replace h : wM_isBuyerAt x1 σ (fun (r2 : Int32) (σ2 : gM) => (r2 = 0 → (Q (0 : Int32) σ2)) ∧ (¬ (r2 = 0) → (wM_isBuyerAt x2 σ2 (fun (r5 : Int32) (σ5 : gM) => ∀ v7 : Int32, v7 = (if r5 = 0 then (0 : Int32) else (if x1 = x2 then (0 : Int32) else (1 : Int32))) → ((v7 = 0 ∨ v7 = 1) ∧ Q v7 σ5))))) := h
  refine v_aload_n hC 0 dX7_areUnlike_0 rfl ?_
  refine v_iload_n hC 1 dX7_areUnlike_1 rfl ?_
  refine v_callV hC (kM_isBuyerAt _ _ _ h) cmM_isBuyerAt ⟨kw1143, kw51⟩ kw1141 ⟨Nat.le_of_ble_eq_true rfl, Nat.le_of_ble_eq_true rfl⟩ (Nat.le_of_ble_eq_true rfl) rfl (ci := 7) (T := TX7) (N := 30) rfl (As := fun G => [.int x1]) (fun _ => rfl) (fun _ => rfl) (st := []) (Nat.le_of_ble_eq_true rfl) rfl dX7_areUnlike_2 (kk_i (fun r2 σ2 h => ?_))
  refine v_if_eq hC 25 dX7_areUnlike_5 (by decide) (fun c3 => ?_) (fun c3 => ?_)
  · replace h := h.1 c3
    refine v_iconst hC (0 : Int32) dX7_areUnlike_25 rfl ?_
    exact v_zret hC hR rfl h dX7_areUnlike_26
  · replace h := h.2 c3
    refine v_aload_n hC 0 dX7_areUnlike_8 rfl ?_
    refine v_iload_n hC 2 dX7_areUnlike_9 rfl ?_
    refine v_callV hC (kM_isBuyerAt _ _ _ h) cmM_isBuyerAt ⟨kw1143, kw51⟩ kw1141 ⟨Nat.le_of_ble_eq_true rfl, Nat.le_of_ble_eq_true rfl⟩ (Nat.le_of_ble_eq_true rfl) rfl (ci := 7) (T := TX7) (N := 30) rfl (As := fun G => [.int x2]) (fun _ => rfl) (fun _ => rfl) (st := []) (Nat.le_of_ble_eq_true rfl) rfl dX7_areUnlike_10 (kk_i (fun r5 σ5 h => ?_))
    have J6 : ∀ (v7 : Int32) (ev7 : v7 = (if r5 = 0 then (0 : Int32) else (if x1 = x2 then (0 : Int32) else (1 : Int32)))), V X 3 26 [] [.int v7] σ5 := by
      intro v7 ev7
      replace h := h v7 ev7
      obtain ⟨hb, h⟩ := h
      exact v_zret hC hR (nar_bool hb) h dX7_areUnlike_26
    refine v_if_eq hC 25 dX7_areUnlike_13 (by decide) (fun c6 => ?_) (fun c6 => ?_)
    · refine v_iconst hC (0 : Int32) dX7_areUnlike_25 rfl ?_
      exact V.sub [] rfl (J6 _ (by rw [if_pos c6]))
    · refine v_iload_n hC 1 dX7_areUnlike_16 rfl ?_
      refine v_iload_n hC 2 dX7_areUnlike_17 rfl ?_
      have J8 : V X 3 26 [] [.int (if x1 = x2 then (0 : Int32) else (1 : Int32))] σ5 := by
        exact V.sub [] rfl (J6 _ (by rw [if_neg c6]))
      refine v_icmp_eq hC 25 dX7_areUnlike_18 (by decide) (fun c8 => ?_) (fun c8 => ?_)
      · refine v_iconst hC (0 : Int32) dX7_areUnlike_25 rfl ?_
        rw [if_pos c8] at J8
        exact V.sub [] rfl J8
      · refine v_iconst hC (1 : Int32) dX7_areUnlike_21 rfl ?_
        refine v_goto hC 26 dX7_areUnlike_22 (by decide) ?_
        rw [if_neg c8] at J8
        exact V.sub [] rfl J8
theorem cmM_areUnlike : CM yX7_areUnlike cX7_areUnlike 3 (some .boolean) rmM_areUnlike 2 := ⟨kw82, kw1224, rfl, rfl, by decide, by decide, by decide +kernel⟩
def rmM_layHeap : Room := { frames := 1, cells := 0, slots := 0, locals := 21 }
def wM_layHeap_l2 (Q : gM → Prop)  : Nat → Int32 → gM → Prop
  | 0, _, _ => False
  | n + 1, x1, σ =>
    ((σ 89 5) ≤ x1 → (Q σ)) ∧ (¬ ((σ 89 5) ≤ x1) → (wM_heap x1 σ (fun (r4 : Int32) (σ4 : gM) => vp_in x1 16 ∧ (∀ σ5 : gM, σ5 = gU σ4 94 x1.toNatClampNeg r4 → (∀ x1_6 : Int32, x1_6 = x1 + (1 : Int32) → (wM_layHeap_l2 Q n x1_6 σ5))))))
def wM_layHeap  (σ : gM) (Q : gM → Prop) : Prop :=
    ∃ n7 : Nat, wM_layHeap_l2 Q n7 (0 : Int32) σ
set_option maxHeartbeats 4000000 in
set_option maxRecDepth 100000 in
theorem tM_layHeap_l2 {X : gX} {Q : gM → Prop} (hC : VC X cX7_layHeap RX7 2 rmM_layHeap) (hR : VR X none (gPv Q))  : ∀ (n : Nat) (x1 : Int32) (σ : gM), wM_layHeap_l2 Q  n x1 σ → V X 2 2 [(0, .ref (xad X 82)), (1, .int x1)] [] σ := by
  intro n
  induction n with
  | zero => intro x1 σ h; exact h.elim
  | succ n ih =>
    intro x1 σ h
    replace h : ((σ 89 5) ≤ x1 → (Q σ)) ∧ (¬ ((σ 89 5) ≤ x1) → (wM_heap x1 σ (fun (r4 : Int32) (σ4 : gM) => vp_in x1 16 ∧ (∀ σ5 : gM, σ5 = gU σ4 94 x1.toNatClampNeg r4 → (∀ x1_6 : Int32, x1_6 = x1 + (1 : Int32) → (wM_layHeap_l2 Q n x1_6 σ5)))))) := h
    refine v_iload_n hC 1 dX7_layHeap_2 rfl ?_
    refine v_aload_n hC 0 dX7_layHeap_3 rfl ?_
    refine gf_X7_28 hC dX7_layHeap_4 ?_
    refine v_iconst hC (5 : Int32) dX7_layHeap_7 rfl ?_
    refine v_iald hC (Nat.le_of_ble_eq_true rfl) rfl (j := 5) (by decide) (by unfold vp_in; decide) dX7_layHeap_8 ?_
    refine v_icmp_ge hC 29 dX7_layHeap_9 (by decide) (fun c2 => ?_) (fun c2 => ?_)
    · replace h := h.1 c2
      exact v_vret hC hR h dX7_layHeap_29
    · replace h := h.2 c2
      refine v_aload_n hC 0 dX7_layHeap_12 rfl ?_
      refine gf_X7_44 hC dX7_layHeap_13 ?_
      refine v_iload_n hC 1 dX7_layHeap_16 rfl ?_
      refine v_aload_n hC 0 dX7_layHeap_17 rfl ?_
      refine v_iload_n hC 1 dX7_layHeap_18 rfl ?_
      refine v_callV hC (kM_heap _ _ _ h) cmM_heap ⟨kw1148, kw52⟩ kw1146 ⟨Nat.le_of_ble_eq_true rfl, Nat.le_of_ble_eq_true rfl⟩ (Nat.le_of_ble_eq_true rfl) rfl (ci := 7) (T := TX7) (N := 30) rfl (As := fun G => [.int x1]) (fun _ => rfl) (fun _ => rfl) (st := [.int x1, .ref (xad X 94)]) (Nat.le_of_ble_eq_true rfl) rfl dX7_layHeap_19 (kk_i (fun r4 σ4 h => ?_))
      obtain ⟨hi5, h⟩ := h
      refine v_iast hC (Nat.le_of_ble_eq_true rfl) rfl rfl hi5 dX7_layHeap_22 (fun σ5 e5 => ?_)
      replace h := h σ5 e5
      refine v_iincN hC (1 : Int32) 1 dX7_layHeap_23 rfl rfl (by decide) (lo2 := fun x1_6 => [(1, .int x1_6), (0, .ref (xad X 82))]) (fun _ => rfl) (fun x1_6 e6 => ?_)
      replace h := h x1_6 e6
      refine v_goto hC 2 dX7_layHeap_26 (by decide) ?_
      exact V.sub [1, 0] rfl (ih _ _ h)
set_option maxHeartbeats 4000000 in
set_option maxRecDepth 100000 in
theorem kM_layHeap  (σ : gM) (Q : gM → Prop) (h : wM_layHeap  σ Q) : CT yX7_layHeap cX7_layHeap 2 none rmM_layHeap (fun G => [.ref (gad G 82)]) σ (gPv Q) := by
  refine c_enter (by decide) (fun _ => Nat.le_of_ble_eq_true rfl) (fun X hC hR => ?_)
  show V X 2 0 [(0, .ref (xad X 82))] [] σ
  replace h : ∃ n7 : Nat, wM_layHeap_l2 Q n7 (0 : Int32) σ := h
  refine v_iconst hC (0 : Int32) dX7_layHeap_0 rfl ?_
  refine v_istore_n hC dX7_layHeap_1 (by decide) rfl ?_
  obtain ⟨n7, h⟩ := h
  exact V.sub [1, 0] rfl (tM_layHeap_l2 hC hR  n7 _ _ h)
theorem cmM_layHeap : CM yX7_layHeap cX7_layHeap 2 none rmM_layHeap 0 := ⟨kw82, kw1228, rfl, rfl, by decide, by decide, by decide +kernel⟩
def rmM_turnOf : Room := { frames := 0, cells := 0, slots := 0, locals := 0 }
def wM_turnOf (x1 : Int32) (σ : gM) (Q : Int32 → gM → Prop) : Prop :=
    ∀ v3 : Int32, v3 = (if (σ 89 1) = 0 then (x1 - x1 / (2 : Int32) * (2 : Int32)) else (((x1 + (1 : Int32)) / (2 : Int32)) - ((x1 + (1 : Int32)) / (2 : Int32)) / (2 : Int32) * (2 : Int32))) → (Q v3 σ)
set_option maxHeartbeats 4000000 in
set_option maxRecDepth 100000 in
theorem kM_turnOf (x1 : Int32) (σ : gM) (Q : Int32 → gM → Prop) (h : wM_turnOf x1 σ Q) : CT yX7_turnOf cX7_turnOf 2 (some .int) rmM_turnOf (fun G => [.ref (gad G 82), .int x1]) σ (gPi Q) := by
  refine c_enter (by decide) (fun _ => Nat.le_of_ble_eq_true rfl) (fun X hC hR => ?_)
  show V X 2 0 [(0, .ref (xad X 82)), (1, .int x1)] [] σ
  replace h : ∀ v3 : Int32, v3 = (if (σ 89 1) = 0 then (x1 - x1 / (2 : Int32) * (2 : Int32)) else (((x1 + (1 : Int32)) / (2 : Int32)) - ((x1 + (1 : Int32)) / (2 : Int32)) / (2 : Int32) * (2 : Int32))) → (Q v3 σ) := h
  refine v_aload_n hC 0 dX7_turnOf_0 rfl ?_
  refine gf_X7_28 hC dX7_turnOf_1 ?_
  refine v_iconst hC (1 : Int32) dX7_turnOf_4 rfl ?_
  refine v_iald hC (Nat.le_of_ble_eq_true rfl) rfl (j := 1) (by decide) (by unfold vp_in; decide) dX7_turnOf_5 ?_
  have J2 : ∀ (v3 : Int32) (ev3 : v3 = (if (σ 89 1) = 0 then (x1 - x1 / (2 : Int32) * (2 : Int32)) else (((x1 + (1 : Int32)) / (2 : Int32)) - ((x1 + (1 : Int32)) / (2 : Int32)) / (2 : Int32) * (2 : Int32)))), V X 2 22 [] [.int v3] σ := by
    intro v3 ev3
    replace h := h v3 ev3
    exact v_iret hC hR h dX7_turnOf_22
  refine v_if_ne hC 15 dX7_turnOf_6 (by decide) (fun c2 => ?_) (fun c2 => ?_)
  · refine v_iload_n hC 1 dX7_turnOf_15 rfl ?_
    refine v_iconst hC (1 : Int32) dX7_turnOf_16 rfl ?_
    refine v_iadd hC dX7_turnOf_17 ?_
    refine v_iconst hC (2 : Int32) dX7_turnOf_18 rfl ?_
    refine v_idiv hC dX7_turnOf_19 (by decide) ?_
    refine v_iconst hC (2 : Int32) dX7_turnOf_20 rfl ?_
    refine v_irem hC dX7_turnOf_21 (by decide) ?_
    exact V.sub [] rfl (J2 _ (by rw [if_neg c2]))
  · refine v_iload_n hC 1 dX7_turnOf_9 rfl ?_
    refine v_iconst hC (2 : Int32) dX7_turnOf_10 rfl ?_
    refine v_irem hC dX7_turnOf_11 (by decide) ?_
    refine v_goto hC 22 dX7_turnOf_12 (by decide) ?_
    exact V.sub [] rfl (J2 _ (by rw [if_pos c2]))
theorem cmM_turnOf : CM yX7_turnOf cX7_turnOf 2 (some .int) rmM_turnOf 1 := ⟨kw82, kw1236, rfl, rfl, by decide, by decide, by decide +kernel⟩
