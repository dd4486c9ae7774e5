def rmM_market : Room := { frames := 5, cells := 0, slots := 0, locals := 106 }
def wM_market_l160 (Q : Int32 → gM → Prop) (K150 : Int32 → gM → Prop) : Nat → Int32 → Int32 → gM → Prop
  | 0, _, _, _ => False
  | n + 1, x2, x3, σ =>
    ((nI 3) ≤ x3 → (vp_in (((nI 22) + ((nI 4) * x2)) + (nI 3)) 102 ∧ (∀ σ15 : gM, σ15 = gU σ 89 (((nI 22) + ((nI 4) * x2)) + (nI 3)).toNatClampNeg (-1000000 : Int32) → (vp_in ((nI 86) + x2) 102 ∧ (∀ σ16 : gM, σ16 = gU σ15 89 ((nI 86) + x2).toNatClampNeg x2 → (∀ x2_17 : Int32, x2_17 = x2 + (nI 1) → (K150 x2_17 σ16))))))) ∧ (¬ ((nI 3) ≤ x3) → (vp_in (((nI 3) * x2) + x3) 30 ∧ (vp_in (((nI 22) + ((nI 4) * x2)) + x3) 102 ∧ (∀ σ19 : gM, σ19 = gU σ 89 (((nI 22) + ((nI 4) * x2)) + x3).toNatClampNeg (σ 88 (((nI 3) * x2) + x3).toNatClampNeg) → (∀ x3_20 : Int32, x3_20 = x3 + (nI 1) → (wM_market_l160 Q K150 n x2 x3_20 σ19))))))
def wM_market_l150 (Q : Int32 → gM → Prop)  : Nat → Int32 → gM → Prop
  | 0, _, _ => False
  | n + 1, x2, σ =>
    ((σ 82 14) ≤ x2 → (∀ σ13 : gM, σ13 = gU σ 82 20 (nI 0) → (Q (σ13 82 14) σ13))) ∧ (¬ ((σ 82 14) ≤ x2) → (∃ n21 : Nat, wM_market_l160 Q (wM_market_l150 Q n) n21 x2 (nI 0) σ))
def wM_market_l92 (Q : Int32 → gM → Prop)  : Nat → Int32 → gM → Prop
  | 0, _, _ => False
  | n + 1, x2, σ =>
    ((σ 82 13) ≤ x2 → (∃ n22 : Nat, wM_market_l150 Q n22 (nI 0) σ)) ∧ (¬ ((σ 82 13) ≤ x2) → (vp_in ((nI 2) * x2) 8 ∧ (vp_in ((nI 6) + ((nI 4) * x2)) 102 ∧ (∀ σ24 : gM, σ24 = gU σ 89 ((nI 6) + ((nI 4) * x2)).toNatClampNeg (σ 87 ((nI 2) * x2).toNatClampNeg) → (vp_in (((nI 2) * x2) + (nI 1)) 8 ∧ (vp_in (((nI 6) + ((nI 4) * x2)) + (nI 1)) 102 ∧ (∀ σ26 : gM, σ26 = gU σ24 89 (((nI 6) + ((nI 4) * x2)) + (nI 1)).toNatClampNeg (σ24 87 (((nI 2) * x2) + (nI 1)).toNatClampNeg) → (∀ x2_27 : Int32, x2_27 = x2 + (nI 1) → (wM_market_l92 Q n x2_27 σ26)))))))))
def wM_market_l24 (Q : Int32 → gM → Prop)  : Nat → Int32 → gM → Prop
  | 0, _, _ => False
  | n + 1, x2, σ =>
    ((nI 102) ≤ x2 → (∀ σ6 : gM, σ6 = gU σ 89 0 (nI 1) → (∀ σ7 : gM, σ7 = gU σ6 89 1 (σ6 82 12) → (∀ σ8 : gM, σ8 = gU σ7 89 2 (σ7 82 13) → (∀ σ9 : gM, σ9 = gU σ8 89 3 (σ8 82 14) → (∀ σ10 : gM, σ10 = gU σ9 89 5 (σ9 82 14) → (∃ n28 : Nat, wM_market_l92 Q n28 (nI 0) σ10))))))) ∧ (¬ ((nI 102) ≤ x2) → (vp_in x2 102 ∧ (∀ σ29 : gM, σ29 = gU σ 89 x2.toNatClampNeg (nI 0) → (∀ x2_30 : Int32, x2_30 = x2 + (nI 1) → (wM_market_l24 Q n x2_30 σ29)))))
def wM_market  (σ : gM) (Q : Int32 → gM → Prop) : Prop :=
    wM_isRead  σ (fun (r2 : Int32) (σ2 : gM) => ∀ σ3 : gM, σ3 = gU σ2 82 4 (nI 0) → ((r2 = nI 0 → (Q ((-1000100 : Int32) - (σ3 82 7)) σ3)) ∧ (¬ (r2 = nI 0) → (∃ n31 : Nat, wM_market_l24 Q n31 (nI 0) σ3))))
set_option maxHeartbeats 4000000 in
set_option maxRecDepth 100000 in
theorem tM_market_l160 {X : gX} {Q : Int32 → gM → Prop} (hC : VC X cX7_market RX7 4 rmM_market) (hR : VR X (some .int) (gPi Q)) {K150 : Int32 → gM → Prop} (hK150 : ∀ (x2 : Int32) (σ : gM), K150 x2 σ → V X 4 150 [(0, .ref (xad X 82)), (2, .int x2)] [] σ) : ∀ (n : Nat) (x2 : Int32) (x3 : Int32) (σ : gM), wM_market_l160 Q K150 n x2 x3 σ → V X 4 160 [(0, .ref (xad X 82)), (2, .int x2), (3, .int x3)] [] σ := by
  intro n
  induction n with
  | zero => intro x2 x3 σ h; exact h.elim
  | succ n ih =>
    intro x2 x3 σ h
    replace h : ((nI 3) ≤ x3 → (vp_in (((nI 22) + ((nI 4) * x2)) + (nI 3)) 102 ∧ (∀ σ15 : gM, σ15 = gU σ 89 (((nI 22) + ((nI 4) * x2)) + (nI 3)).toNatClampNeg (-1000000 : Int32) → (vp_in ((nI 86) + x2) 102 ∧ (∀ σ16 : gM, σ16 = gU σ15 89 ((nI 86) + x2).toNatClampNeg x2 → (∀ x2_17 : Int32, x2_17 = x2 + (nI 1) → (K150 x2_17 σ16))))))) ∧ (¬ ((nI 3) ≤ x3) → (vp_in (((nI 3) * x2) + x3) 30 ∧ (vp_in (((nI 22) + ((nI 4) * x2)) + x3) 102 ∧ (∀ σ19 : gM, σ19 = gU σ 89 (((nI 22) + ((nI 4) * x2)) + x3).toNatClampNeg (σ 88 (((nI 3) * x2) + x3).toNatClampNeg) → (∀ x3_20 : Int32, x3_20 = x3 + (nI 1) → (wM_market_l160 Q K150 n x2 x3_20 σ19)))))) := h
    refine v_iload_n hC 2 dX7_market_160 rfl ?_
    refine v_iconst hC (nI 3) dX7_market_161 rfl ?_
    refine v_icmp_ge hC 194 dX7_market_162 (by decide) (fun c14 => ?_) (fun c14 => ?_)
    · replace h := h.1 c14
      refine v_aload_n hC 0 dX7_market_194 rfl ?_
      refine gf_X7_28 hC dX7_market_195 ?_
      refine v_bipush hC (nI 22) dX7_market_198 rfl ?_
      refine v_iconst hC (nI 4) dX7_market_200 rfl ?_
      refine v_iload_n hC 1 dX7_market_201 rfl ?_
      refine v_imul hC dX7_market_202 ?_
      refine v_iadd hC dX7_market_203 ?_
      refine v_iconst hC (nI 3) dX7_market_204 rfl ?_
      refine v_iadd hC dX7_market_205 ?_
      refine v_ldc hC kw1132 dX7_market_206 ?_
      obtain ⟨hi15, h⟩ := h
      refine v_iast hC (Nat.le_of_ble_eq_true rfl) rfl rfl hi15 dX7_market_208 (fun σ15 e15 => ?_)
      replace h := h σ15 e15
      refine v_aload_n hC 0 dX7_market_209 rfl ?_
      refine gf_X7_28 hC dX7_market_210 ?_
      refine v_bipush hC (nI 86) dX7_market_213 rfl ?_
      refine v_iload_n hC 1 dX7_market_215 rfl ?_
      refine v_iadd hC dX7_market_216 ?_
      refine v_iload_n hC 1 dX7_market_217 rfl ?_
      obtain ⟨hi16, h⟩ := h
      refine v_iast hC (Nat.le_of_ble_eq_true rfl) rfl rfl hi16 dX7_market_218 (fun σ16 e16 => ?_)
      replace h := h σ16 e16
      refine v_iincN hC (nI 1) 1 dX7_market_219 rfl rfl (by decide) (lo2 := fun x2_17 => [(2, .int x2_17), (0, .ref (xad X 82)), (3, .int x3)]) (fun _ => rfl) (fun x2_17 e17 => ?_)
      replace h := h x2_17 e17
      refine v_goto hC 150 dX7_market_222 (by decide) ?_
      exact V.sub [1, 0] rfl (hK150 _ _ h)
    · replace h := h.2 c14
      refine v_aload_n hC 0 dX7_market_165 rfl ?_
      refine gf_X7_28 hC dX7_market_166 ?_
      refine v_bipush hC (nI 22) dX7_market_169 rfl ?_
      refine v_iconst hC (nI 4) dX7_market_171 rfl ?_
      refine v_iload_n hC 1 dX7_market_172 rfl ?_
      refine v_imul hC dX7_market_173 ?_
      refine v_iadd hC dX7_market_174 ?_
      refine v_iload_n hC 2 dX7_market_175 rfl ?_
      refine v_iadd hC dX7_market_176 ?_
      refine v_aload_n hC 0 dX7_market_177 rfl ?_
      refine gf_X7_25 hC dX7_market_178 ?_
      refine v_iconst hC (nI 3) dX7_market_181 rfl ?_
      refine v_iload_n hC 1 dX7_market_182 rfl ?_
      refine v_imul hC dX7_market_183 ?_
      refine v_iload_n hC 2 dX7_market_184 rfl ?_
      refine v_iadd hC dX7_market_185 ?_
      obtain ⟨hi18, h⟩ := h
      refine v_iald hC (Nat.le_of_ble_eq_true rfl) rfl rfl hi18 dX7_market_186 ?_
      obtain ⟨hi19, h⟩ := h
      refine v_iast hC (Nat.le_of_ble_eq_true rfl) rfl rfl hi19 dX7_market_187 (fun σ19 e19 => ?_)
      replace h := h σ19 e19
      refine v_iincN hC (nI 1) 2 dX7_market_188 rfl rfl (by decide) (lo2 := fun x3_20 => [(3, .int x3_20), (0, .ref (xad X 82)), (2, .int x2)]) (fun _ => rfl) (fun x3_20 e20 => ?_)
      replace h := h x3_20 e20
      refine v_goto hC 160 dX7_market_191 (by decide) ?_
      exact V.sub [1, 2, 0] rfl (ih _ _ _ h)
set_option maxHeartbeats 4000000 in
set_option maxRecDepth 100000 in
theorem tM_market_l150 {X : gX} {Q : Int32 → gM → Prop} (hC : VC X cX7_market RX7 4 rmM_market) (hR : VR X (some .int) (gPi Q))  : ∀ (n : Nat) (x2 : Int32) (σ : gM), wM_market_l150 Q  n x2 σ → V X 4 150 [(0, .ref (xad X 82)), (2, .int x2)] [] σ := by
  intro n
  induction n with
  | zero => intro x2 σ h; exact h.elim
  | succ n ih =>
    intro x2 σ h
    replace h : ((σ 82 14) ≤ x2 → (∀ σ13 : gM, σ13 = gU σ 82 20 (nI 0) → (Q (σ13 82 14) σ13))) ∧ (¬ ((σ 82 14) ≤ x2) → (∃ n21 : Nat, wM_market_l160 Q (wM_market_l150 Q n) n21 x2 (nI 0) σ)) := h
    refine v_iload_n hC 1 dX7_market_150 rfl ?_
    refine v_aload_n hC 0 dX7_market_151 rfl ?_
    refine gf_X7_140 hC dX7_market_152 ?_
    refine v_icmp_ge hC 225 dX7_market_155 (by decide) (fun c12 => ?_) (fun c12 => ?_)
    · replace h := h.1 c12
      refine v_aload_n hC 0 dX7_market_225 rfl ?_
      refine v_iconst hC (nI 0) dX7_market_226 rfl ?_
      refine pf_X7_173 hC dX7_market_227 (fun σ13 e13 => ?_)
      replace h := h σ13 e13
      refine v_aload_n hC 0 dX7_market_230 rfl ?_
      refine gf_X7_140 hC dX7_market_231 ?_
      exact v_iret hC hR h dX7_market_234
    · replace h := h.2 c12
      refine v_iconst hC (nI 0) dX7_market_158 rfl ?_
      refine v_istore_n hC dX7_market_159 (by decide) rfl ?_
      obtain ⟨n21, h⟩ := h
      exact V.sub [1, 2, 0] rfl (tM_market_l160 hC hR ih n21 _ _ _ h)
set_option maxHeartbeats 4000000 in
set_option maxRecDepth 100000 in
theorem tM_market_l92 {X : gX} {Q : Int32 → gM → Prop} (hC : VC X cX7_market RX7 4 rmM_market) (hR : VR X (some .int) (gPi Q))  : ∀ (n : Nat) (x2 : Int32) (σ : gM), wM_market_l92 Q  n x2 σ → V X 4 92 [(0, .ref (xad X 82)), (2, .int x2)] [] σ := by
  intro n
  induction n with
  | zero => intro x2 σ h; exact h.elim
  | succ n ih =>
    intro x2 σ h
    replace h : ((σ 82 13) ≤ x2 → (∃ n22 : Nat, wM_market_l150 Q n22 (nI 0) σ)) ∧ (¬ ((σ 82 13) ≤ x2) → (vp_in ((nI 2) * x2) 8 ∧ (vp_in ((nI 6) + ((nI 4) * x2)) 102 ∧ (∀ σ24 : gM, σ24 = gU σ 89 ((nI 6) + ((nI 4) * x2)).toNatClampNeg (σ 87 ((nI 2) * x2).toNatClampNeg) → (vp_in (((nI 2) * x2) + (nI 1)) 8 ∧ (vp_in (((nI 6) + ((nI 4) * x2)) + (nI 1)) 102 ∧ (∀ σ26 : gM, σ26 = gU σ24 89 (((nI 6) + ((nI 4) * x2)) + (nI 1)).toNatClampNeg (σ24 87 (((nI 2) * x2) + (nI 1)).toNatClampNeg) → (∀ x2_27 : Int32, x2_27 = x2 + (nI 1) → (wM_market_l92 Q n x2_27 σ26))))))))) := h
    refine v_iload_n hC 1 dX7_market_92 rfl ?_
    refine v_aload_n hC 0 dX7_market_93 rfl ?_
    refine gf_X7_129 hC dX7_market_94 ?_
    refine v_icmp_ge hC 148 dX7_market_97 (by decide) (fun c11 => ?_) (fun c11 => ?_)
    · replace h := h.1 c11
      refine v_iconst hC (nI 0) dX7_market_148 rfl ?_
      refine v_istore_n hC dX7_market_149 (by decide) rfl ?_
      obtain ⟨n22, h⟩ := h
      exact V.sub [1, 0] rfl (tM_market_l150 hC hR  n22 _ _ h)
    · replace h := h.2 c11
      refine v_aload_n hC 0 dX7_market_100 rfl ?_
      refine gf_X7_28 hC dX7_market_101 ?_
      refine v_bipush hC (nI 6) dX7_market_104 rfl ?_
      refine v_iconst hC (nI 4) dX7_market_106 rfl ?_
      refine v_iload_n hC 1 dX7_market_107 rfl ?_
      refine v_imul hC dX7_market_108 ?_
      refine v_iadd hC dX7_market_109 ?_
      refine v_aload_n hC 0 dX7_market_110 rfl ?_
      refine gf_X7_22 hC dX7_market_111 ?_
      refine v_iconst hC (nI 2) dX7_market_114 rfl ?_
      refine v_iload_n hC 1 dX7_market_115 rfl ?_
      refine v_imul hC dX7_market_116 ?_
      obtain ⟨hi23, h⟩ := h
      refine v_iald hC (Nat.le_of_ble_eq_true rfl) rfl rfl hi23 dX7_market_117 ?_
      obtain ⟨hi24, h⟩ := h
      refine v_iast hC (Nat.le_of_ble_eq_true rfl) rfl rfl hi24 dX7_market_118 (fun σ24 e24 => ?_)
      replace h := h σ24 e24
      refine v_aload_n hC 0 dX7_market_119 rfl ?_
      refine gf_X7_28 hC dX7_market_120 ?_
      refine v_bipush hC (nI 6) dX7_market_123 rfl ?_
      refine v_iconst hC (nI 4) dX7_market_125 rfl ?_
      refine v_iload_n hC 1 dX7_market_126 rfl ?_
      refine v_imul hC dX7_market_127 ?_
      refine v_iadd hC dX7_market_128 ?_
      refine v_iconst hC (nI 1) dX7_market_129 rfl ?_
      refine v_iadd hC dX7_market_130 ?_
      refine v_aload_n hC 0 dX7_market_131 rfl ?_
      refine gf_X7_22 hC dX7_market_132 ?_
      refine v_iconst hC (nI 2) dX7_market_135 rfl ?_
      refine v_iload_n hC 1 dX7_market_136 rfl ?_
      refine v_imul hC dX7_market_137 ?_
      refine v_iconst hC (nI 1) dX7_market_138 rfl ?_
      refine v_iadd hC dX7_market_139 ?_
      obtain ⟨hi25, h⟩ := h
      refine v_iald hC (Nat.le_of_ble_eq_true rfl) rfl rfl hi25 dX7_market_140 ?_
      obtain ⟨hi26, h⟩ := h
      refine v_iast hC (Nat.le_of_ble_eq_true rfl) rfl rfl hi26 dX7_market_141 (fun σ26 e26 => ?_)
      replace h := h σ26 e26
      refine v_iincN hC (nI 1) 1 dX7_market_142 rfl rfl (by decide) (lo2 := fun x2_27 => [(2, .int x2_27), (0, .ref (xad X 82))]) (fun _ => rfl) (fun x2_27 e27 => ?_)
      replace h := h x2_27 e27
      refine v_goto hC 92 dX7_market_145 (by decide) ?_
      exact V.sub [1, 0] rfl (ih _ _ h)
set_option maxHeartbeats 4000000 in
set_option maxRecDepth 100000 in
theorem tM_market_l24 {X : gX} {Q : Int32 → gM → Prop} (hC : VC X cX7_market RX7 4 rmM_market) (hR : VR X (some .int) (gPi Q))  : ∀ (n : Nat) (x2 : Int32) (σ : gM), wM_market_l24 Q  n x2 σ → V X 4 24 [(0, .ref (xad X 82)), (2, .int x2)] [] σ := by
  intro n
  induction n with
  | zero => intro x2 σ h; exact h.elim
  | succ n ih =>
    intro x2 σ h
    replace h : ((nI 102) ≤ x2 → (∀ σ6 : gM, σ6 = gU σ 89 0 (nI 1) → (∀ σ7 : gM, σ7 = gU σ6 89 1 (σ6 82 12) → (∀ σ8 : gM, σ8 = gU σ7 89 2 (σ7 82 13) → (∀ σ9 : gM, σ9 = gU σ8 89 3 (σ8 82 14) → (∀ σ10 : gM, σ10 = gU σ9 89 5 (σ9 82 14) → (∃ n28 : Nat, wM_market_l92 Q n28 (nI 0) σ10))))))) ∧ (¬ ((nI 102) ≤ x2) → (vp_in x2 102 ∧ (∀ σ29 : gM, σ29 = gU σ 89 x2.toNatClampNeg (nI 0) → (∀ x2_30 : Int32, x2_30 = x2 + (nI 1) → (wM_market_l24 Q n x2_30 σ29))))) := h
    refine v_iload_n hC 1 dX7_market_24 rfl ?_
    refine v_bipush hC (nI 102) dX7_market_25 rfl ?_
    refine v_icmp_ge hC 43 dX7_market_27 (by decide) (fun c5 => ?_) (fun c5 => ?_)
    · replace h := h.1 c5
      refine v_aload_n hC 0 dX7_market_43 rfl ?_
      refine gf_X7_28 hC dX7_market_44 ?_
      refine v_iconst hC (nI 0) dX7_market_47 rfl ?_
      refine v_iconst hC (nI 1) dX7_market_48 rfl ?_
      refine v_iast hC (Nat.le_of_ble_eq_true rfl) rfl (j := 0) (by decide) (by unfold vp_in; decide) dX7_market_49 (fun σ6 e6 => ?_)
      replace h := h σ6 e6
      refine v_aload_n hC 0 dX7_market_50 rfl ?_
      refine gf_X7_28 hC dX7_market_51 ?_
      refine v_iconst hC (nI 1) dX7_market_54 rfl ?_
      refine v_aload_n hC 0 dX7_market_55 rfl ?_
      refine gf_X7_155 hC dX7_market_56 ?_
      refine v_iast hC (Nat.le_of_ble_eq_true rfl) rfl (j := 1) (by decide) (by unfold vp_in; decide) dX7_market_59 (fun σ7 e7 => ?_)
      replace h := h σ7 e7
      refine v_aload_n hC 0 dX7_market_60 rfl ?_
      refine gf_X7_28 hC dX7_market_61 ?_
      refine v_iconst hC (nI 2) dX7_market_64 rfl ?_
      refine v_aload_n hC 0 dX7_market_65 rfl ?_
      refine gf_X7_129 hC dX7_market_66 ?_
      refine v_iast hC (Nat.le_of_ble_eq_true rfl) rfl (j := 2) (by decide) (by unfold vp_in; decide) dX7_market_69 (fun σ8 e8 => ?_)
      replace h := h σ8 e8
      refine v_aload_n hC 0 dX7_market_70 rfl ?_
      refine gf_X7_28 hC dX7_market_71 ?_
      refine v_iconst hC (nI 3) dX7_market_74 rfl ?_
      refine v_aload_n hC 0 dX7_market_75 rfl ?_
      refine gf_X7_140 hC dX7_market_76 ?_
      refine v_iast hC (Nat.le_of_ble_eq_true rfl) rfl (j := 3) (by decide) (by unfold vp_in; decide) dX7_market_79 (fun σ9 e9 => ?_)
      replace h := h σ9 e9
      refine v_aload_n hC 0 dX7_market_80 rfl ?_
      refine gf_X7_28 hC dX7_market_81 ?_
      refine v_iconst hC (nI 5) dX7_market_84 rfl ?_
      refine v_aload_n hC 0 dX7_market_85 rfl ?_
      refine gf_X7_140 hC dX7_market_86 ?_
      refine v_iast hC (Nat.le_of_ble_eq_true rfl) rfl (j := 5) (by decide) (by unfold vp_in; decide) dX7_market_89 (fun σ10 e10 => ?_)
      replace h := h σ10 e10
      refine v_iconst hC (nI 0) dX7_market_90 rfl ?_
      refine v_istore_n hC dX7_market_91 (by decide) rfl ?_
      obtain ⟨n28, h⟩ := h
      exact V.sub [1, 0] rfl (tM_market_l92 hC hR  n28 _ _ h)
    · replace h := h.2 c5
      refine v_aload_n hC 0 dX7_market_30 rfl ?_
      refine gf_X7_28 hC dX7_market_31 ?_
      refine v_iload_n hC 1 dX7_market_34 rfl ?_
      refine v_iconst hC (nI 0) dX7_market_35 rfl ?_
      obtain ⟨hi29, h⟩ := h
      refine v_iast hC (Nat.le_of_ble_eq_true rfl) rfl rfl hi29 dX7_market_36 (fun σ29 e29 => ?_)
      replace h := h σ29 e29
      refine v_iincN hC (nI 1) 1 dX7_market_37 rfl rfl (by decide) (lo2 := fun x2_30 => [(2, .int x2_30), (0, .ref (xad X 82))]) (fun _ => rfl) (fun x2_30 e30 => ?_)
      replace h := h x2_30 e30
      refine v_goto hC 24 dX7_market_40 (by decide) ?_
      exact V.sub [1, 0] rfl (ih _ _ h)
set_option maxHeartbeats 4000000 in
set_option maxRecDepth 100000 in
theorem kM_market  (σ : gM) (Q : Int32 → gM → Prop) (h : wM_market  σ Q) : CT yX7_market cX7_market 4 (some .int) rmM_market (fun G => [.ref (gad G 82)]) σ (gPi Q) := by
  refine c_enter (by decide) (fun _ => Nat.le_of_ble_eq_true rfl) (fun X hC hR => ?_)
  show V X 4 0 [(0, .ref (xad X 82))] [] σ
  replace h : wM_isRead  σ (fun (r2 : Int32) (σ2 : gM) => ∀ σ3 : gM, σ3 = gU σ2 82 4 (nI 0) → ((r2 = nI 0 → (Q ((-1000100 : Int32) - (σ3 82 7)) σ3)) ∧ (¬ (r2 = nI 0) → (∃ n31 : Nat, wM_market_l24 Q n31 (nI 0) σ3)))) := h
  refine v_aload_n hC 0 dX7_market_0 rfl ?_
  refine v_callV hC (kM_isRead  _ _ h) cmM_isRead ⟨kw1091, kw44⟩ kw1089 ⟨Nat.le_of_ble_eq_true rfl, Nat.le_of_ble_eq_true rfl⟩ (Nat.le_of_ble_eq_true rfl) rfl (ci := 7) (T := TX7) (N := 30) rfl (As := fun G => []) (fun _ => rfl) (fun _ => rfl) (st := []) (Nat.le_of_ble_eq_true rfl) rfl dX7_market_1 (kk_i (fun r2 σ2 h => ?_))
  refine v_istore_n hC dX7_market_4 (by decide) rfl ?_
  refine v_aload_n hC 1 dX7_market_5 rfl ?_
  refine v_iconst hC (nI 0) dX7_market_6 rfl ?_
  refine pf_X7_86 hC dX7_market_7 (fun σ3 e3 => ?_)
  replace h := h σ3 e3
  refine v_iload_n hC 0 dX7_market_10 rfl ?_
  refine v_if_ne hC 22 dX7_market_11 (by decide) (fun c4 => ?_) (fun c4 => ?_)
  · replace h := h.2 c4
    refine v_iconst hC (nI 0) dX7_market_22 rfl ?_
    refine v_istore_n hC dX7_market_23 (by decide) rfl ?_
    obtain ⟨n31, h⟩ := h
    exact V.sub [2, 0] rfl (tM_market_l24 hC hR  n31 _ _ h)
  · replace h := h.1 c4
    refine v_ldc hC kw1131 dX7_market_14 ?_
    refine v_aload_n hC 1 dX7_market_16 rfl ?_
    refine gf_X7_95 hC dX7_market_17 ?_
    refine v_isub hC dX7_market_20 ?_
    exact v_iret hC hR h dX7_market_21
theorem cmM_market : CM yX7_market cX7_market 4 (some .int) rmM_market 0 := ⟨kw82, kw1088, rfl, rfl, by decide, by decide, by decide +kernel⟩
def rmM_fault : Room := { frames := 0, cells := 0, slots := 0, locals := 0 }
def wM_fault  (σ : gM) (Q : Int32 → gM → Prop) : Prop :=
    Q (σ 82 11) σ
set_option maxHeartbeats 4000000 in
set_option maxRecDepth 100000 in
theorem kM_fault  (σ : gM) (Q : Int32 → gM → Prop) (h : wM_fault  σ Q) : CT yX7_fault cX7_fault 1 (some .int) rmM_fault (fun G => [.ref (gad G 82)]) σ (gPi Q) := by
  refine c_enter (by decide) (fun _ => Nat.le_of_ble_eq_true rfl) (fun X hC hR => ?_)
  show V X 1 0 [(0, .ref (xad X 82))] [] σ
  replace h : Q (σ 82 11) σ := h
  refine v_aload_n hC 0 dX7_fault_0 rfl ?_
  refine gf_X7_120 hC dX7_fault_1 ?_
  exact v_iret hC hR h dX7_fault_4
theorem cmM_fault : CM yX7_fault cX7_fault 1 (some .int) rmM_fault 0 := ⟨kw82, kw1136, rfl, rfl, by decide, by decide, by decide +kernel⟩
def rmM_isBuyerAt : Room := { frames := 1, cells := 0, slots := 0, locals := 22 }
def wM_isBuyerAt (x1 : Int32) (σ : gM) (Q : Int32 → gM → Prop) : Prop :=
    wM_in x1 (nI 0) ((σ 89 2) - (nI 1)) σ (fun (r3 : Int32) (σ3 : gM) => (r3 = nI 0 ∨ r3 = nI 1) ∧ Q r3 σ3)
set_option maxHeartbeats 4000000 in
set_option maxRecDepth 100000 in
theorem kM_isBuyerAt (x1 : Int32) (σ : gM) (Q : Int32 → gM → Prop) (h : wM_isBuyerAt x1 σ Q) : CT yX7_isBuyerAt cX7_isBuyerAt 2 (some .boolean) rmM_isBuyerAt (fun G => [.ref (gad G 82), .int x1]) σ (gPi Q) := by
  refine c_enter (by decide) (fun _ => Nat.le_of_ble_eq_true rfl) (fun X hC hR => ?_)
  show V X 2 0 [(0, .ref (xad X 82)), (1, .int x1)] [] σ
  replace h : wM_in x1 (nI 0) ((σ 89 2) - (nI 1)) σ (fun (r3 : Int32) (σ3 : gM) => (r3 = nI 0 ∨ r3 = nI 1) ∧ Q r3 σ3) := h
  refine v_iload_n hC 1 dX7_isBuyerAt_0 rfl ?_
  refine v_iconst hC (nI 0) dX7_isBuyerAt_1 rfl ?_
  refine v_aload_n hC 0 dX7_isBuyerAt_2 rfl ?_
  refine gf_X7_28 hC dX7_isBuyerAt_3 ?_
  refine v_iconst hC (nI 2) dX7_isBuyerAt_6 rfl ?_
  refine v_iald hC (Nat.le_of_ble_eq_true rfl) rfl (j := 2) (by decide) (by unfold vp_in; decide) dX7_isBuyerAt_7 ?_
  refine v_iconst hC (nI 1) dX7_isBuyerAt_8 rfl ?_
  refine v_isub hC dX7_isBuyerAt_9 ?_
  refine v_callS hC (kM_in _ _ _ _ _ h) cmM_in kw1051 kw1050 ⟨Nat.le_of_ble_eq_true rfl, Nat.le_of_ble_eq_true rfl⟩ (fun _ => rfl) (st := []) (Nat.le_of_ble_eq_true rfl) rfl dX7_isBuyerAt_10 (kk_i (fun r3 σ3 h => ?_))
  obtain ⟨hb, h⟩ := h
  exact v_zret hC hR (nar_bool hb) h dX7_isBuyerAt_13
theorem cmM_isBuyerAt : CM yX7_isBuyerAt cX7_isBuyerAt 2 (some .boolean) rmM_isBuyerAt 1 := ⟨kw82, kw1144, rfl, rfl, by decide, by decide, by decide +kernel⟩
def rmM_heap : Room := { frames := 0, cells := 0, slots := 0, locals := 0 }
def wM_heap (x1 : Int32) (σ : gM) (Q : Int32 → gM → Prop) : Prop :=
    vp_in ((nI 86) + x1) 102 ∧ (Q (σ 89 ((nI 86) + x1).toNatClampNeg) σ)
set_option maxHeartbeats 4000000 in
set_option maxRecDepth 100000 in
theorem kM_heap (x1 : Int32) (σ : gM) (Q : Int32 → gM → Prop) (h : wM_heap x1 σ Q) : CT yX7_heap cX7_heap 2 (some .int) rmM_heap (fun G => [.ref (gad G 82), .int x1]) σ (gPi Q) := by
  refine c_enter (by decide) (fun _ => Nat.le_of_ble_eq_true rfl) (fun X hC hR => ?_)
  show V X 2 0 [(0, .ref (xad X 82)), (1, .int x1)] [] σ
  replace h : vp_in ((nI 86) + x1) 102 ∧ (Q (σ 89 ((nI 86) + x1).toNatClampNeg) σ) := h
  refine v_aload_n hC 0 dX7_heap_0 rfl ?_
  refine gf_X7_28 hC dX7_heap_1 ?_
  refine v_bipush hC (nI 86) dX7_heap_4 rfl ?_
  refine v_iload_n hC 1 dX7_heap_6 rfl ?_
  refine v_iadd hC dX7_heap_7 ?_
  obtain ⟨hi1, h⟩ := h
  refine v_iald hC (Nat.le_of_ble_eq_true rfl) rfl rfl hi1 dX7_heap_8 ?_
  exact v_iret hC hR h dX7_heap_9
theorem cmM_heap : CM yX7_heap cX7_heap 2 (some .int) rmM_heap 1 := ⟨kw82, kw1149, rfl, rfl, by decide, by decide, by decide +kernel⟩
def rmM_kindOf : Room := { frames := 0, cells := 0, slots := 0, locals := 0 }
def wM_kindOf (x1 : Int32) (σ : gM) (Q : Int32 → gM → Prop) : Prop :=
    vp_in ((nI 22) + ((nI 4) * x1)) 102 ∧ (Q (σ 89 ((nI 22) + ((nI 4) * x1)).toNatClampNeg) σ)
set_option maxHeartbeats 4000000 in
set_option maxRecDepth 100000 in
theorem kM_kindOf (x1 : Int32) (σ : gM) (Q : Int32 → gM → Prop) (h : wM_kindOf x1 σ Q) : CT yX7_kindOf cX7_kindOf 2 (some .int) rmM_kindOf (fun G => [.ref (gad G 82), .int x1]) σ (gPi Q) := by
  refine c_enter (by decide) (fun _ => Nat.le_of_ble_eq_true rfl) (fun X hC hR => ?_)
  show V X 2 0 [(0, .ref (xad X 82)), (1, .int x1)] [] σ
  replace h : vp_in ((nI 22) + ((nI 4) * x1)) 102 ∧ (Q (σ 89 ((nI 22) + ((nI 4) * x1)).toNatClampNeg) σ) := h
  refine v_aload_n hC 0 dX7_kindOf_0 rfl ?_
  refine gf_X7_28 hC dX7_kindOf_1 ?_
  refine v_bipush hC (nI 22) dX7_kindOf_4 rfl ?_
  refine v_iconst hC (nI 4) dX7_kindOf_6 rfl ?_
  refine v_iload_n hC 1 dX7_kindOf_7 rfl ?_
  refine v_imul hC dX7_kindOf_8 ?_
  refine v_iadd hC dX7_kindOf_9 ?_
  obtain ⟨hi1, h⟩ := h
  refine v_iald hC (Nat.le_of_ble_eq_true rfl) rfl rfl hi1 dX7_kindOf_10 ?_
  exact v_iret hC hR h dX7_kindOf_11
theorem cmM_kindOf : CM yX7_kindOf cX7_kindOf 2 (some .int) rmM_kindOf 1 := ⟨kw82, kw1157, rfl, rfl, by decide, by decide, by decide +kernel⟩
def rmM_valueOf : Room := { frames := 1, cells := 0, slots := 0, locals := 21 }
def wM_valueOf (x1 : Int32) (x2 : Int32) (σ : gM) (Q : Int32 → gM → Prop) : Prop :=
    vp_in (((nI 22) + ((nI 4) * x1)) + (nI 1)) 102 ∧ (∀ x3_2 : Int32, x3_2 = (σ 89 (((nI 22) + ((nI 4) * x1)) + (nI 1)).toNatClampNeg) → (vp_in (((nI 22) + ((nI 4) * x1)) + (nI 2)) 102 ∧ (∀ x4_4 : Int32, x4_4 = ((σ 89 (((nI 22) + ((nI 4) * x1)) + (nI 2)).toNatClampNeg) + x2) → (wM_kindOf x1 σ (fun (r6 : Int32) (σ6 : gM) => (r6 = (nI 1) → (∀ x5_8 : Int32, x5_8 = (x3_2 - x4_4) → (∀ v10 : Int32, v10 = (if nI 0 ≤ x5_8 then x5_8 else (nI 0)) → (Q v10 σ6)))) ∧ (r6 = (nI 2) → (∀ v12 : Int32, v12 = (if (nI 6) ≤ x4_4 then ((x3_2 + (nI 5)) - ((nI 2) * (x4_4 - (nI 5)))) else (x3_2 + x4_4)) → (∀ v14 : Int32, v14 = (if nI 0 ≤ v12 then v12 else (nI 0)) → (Q v14 σ6)))) ∧ (r6 = (nI 3) → (∀ x5_15 : Int32, x5_15 = (x3_2 - ((nI 2) * x4_4)) → (∀ v17 : Int32, v17 = (if nI 0 ≤ x5_15 then x5_15 else (nI 0)) → (Q v17 σ6)))) ∧ (r6 = (nI 4) → (∀ v19 : Int32, v19 = (if nI 0 ≤ x3_2 then x3_2 else (nI 0)) → (Q v19 σ6))) ∧ ((¬ r6 = (nI 1) ∧ ¬ r6 = (nI 2) ∧ ¬ r6 = (nI 3) ∧ ¬ r6 = (nI 4)) → (∀ x5_20 : Int32, x5_20 = (x3_2 + (x4_4 / (nI 3))) → (∀ v22 : Int32, v22 = (if nI 0 ≤ x5_20 then x5_20 else (nI 0)) → (Q v22 σ6)))))))))
set_option maxHeartbeats 4000000 in
set_option maxRecDepth 100000 in
theorem kM_valueOf (x1 : Int32) (x2 : Int32) (σ : gM) (Q : Int32 → gM → Prop) (h : wM_valueOf x1 x2 σ Q) : CT yX7_valueOf cX7_valueOf 6 (some .int) rmM_valueOf (fun G => [.ref (gad G 82), .int x1, .int x2]) σ (gPi Q) := by
  refine c_enter (by decide) (fun _ => Nat.le_of_ble_eq_true rfl) (fun X hC hR => ?_)
  show V X 6 0 [(0, .ref (xad X 82)), (1, .int x1), (2, .int x2)] [] σ
  replace h : vp_in (((nI 22) + ((nI 4) * x1)) + (nI 1)) 102 ∧ (∀ x3_2 : Int32, x3_2 = (σ 89 (((nI 22) + ((nI 4) * x1)) + (nI 1)).toNatClampNeg) → (vp_in (((nI 22) + ((nI 4) * x1)) + (nI 2)) 102 ∧ (∀ x4_4 : Int32, x4_4 = ((σ 89 (((nI 22) + ((nI 4) * x1)) + (nI 2)).toNatClampNeg) + x2) → (wM_kindOf x1 σ (fun (r6 : Int32) (σ6 : gM) => (r6 = (nI 1) → (∀ x5_8 : Int32, x5_8 = (x3_2 - x4_4) → (∀ v10 : Int32, v10 = (if nI 0 ≤ x5_8 then x5_8 else (nI 0)) → (Q v10 σ6)))) ∧ (r6 = (nI 2) → (∀ v12 : Int32, v12 = (if (nI 6) ≤ x4_4 then ((x3_2 + (nI 5)) - ((nI 2) * (x4_4 - (nI 5)))) else (x3_2 + x4_4)) → (∀ v14 : Int32, v14 = (if nI 0 ≤ v12 then v12 else (nI 0)) → (Q v14 σ6)))) ∧ (r6 = (nI 3) → (∀ x5_15 : Int32, x5_15 = (x3_2 - ((nI 2) * x4_4)) → (∀ v17 : Int32, v17 = (if nI 0 ≤ x5_15 then x5_15 else (nI 0)) → (Q v17 σ6)))) ∧ (r6 = (nI 4) → (∀ v19 : Int32, v19 = (if nI 0 ≤ x3_2 then x3_2 else (nI 0)) → (Q v19 σ6))) ∧ ((¬ r6 = (nI 1) ∧ ¬ r6 = (nI 2) ∧ ¬ r6 = (nI 3) ∧ ¬ r6 = (nI 4)) → (∀ x5_20 : Int32, x5_20 = (x3_2 + (x4_4 / (nI 3))) → (∀ v22 : Int32, v22 = (if nI 0 ≤ x5_20 then x5_20 else (nI 0)) → (Q v22 σ6))))))))) := h
  refine v_aload_n hC 0 dX7_valueOf_0 rfl ?_
  refine gf_X7_28 hC dX7_valueOf_1 ?_
  refine v_bipush hC (nI 22) dX7_valueOf_4 rfl ?_
  refine v_iconst hC (nI 4) dX7_valueOf_6 rfl ?_
  refine v_iload_n hC 1 dX7_valueOf_7 rfl ?_
  refine v_imul hC dX7_valueOf_8 ?_
  refine v_iadd hC dX7_valueOf_9 ?_
  refine v_iconst hC (nI 1) dX7_valueOf_10 rfl ?_
  refine v_iadd hC dX7_valueOf_11 ?_
  obtain ⟨hi1, h⟩ := h
  refine v_iald hC (Nat.le_of_ble_eq_true rfl) rfl rfl hi1 dX7_valueOf_12 ?_
  refine v_istore_nN hC dX7_valueOf_13 (by decide) (lo2 := fun x3_2 => [(3, .int x3_2), (0, .ref (xad X 82)), (1, .int x1), (2, .int x2)]) (fun _ => rfl) (fun x3_2 e2 => ?_)
  replace h := h x3_2 e2
  refine v_aload_n hC 1 dX7_valueOf_14 rfl ?_
  refine gf_X7_28 hC dX7_valueOf_15 ?_
  refine v_bipush hC (nI 22) dX7_valueOf_18 rfl ?_
  refine v_iconst hC (nI 4) dX7_valueOf_20 rfl ?_
  refine v_iload_n hC 2 dX7_valueOf_21 rfl ?_
  refine v_imul hC dX7_valueOf_22 ?_
  refine v_iadd hC dX7_valueOf_23 ?_
  refine v_iconst hC (nI 2) dX7_valueOf_24 rfl ?_
  refine v_iadd hC dX7_valueOf_25 ?_
  obtain ⟨hi3, h⟩ := h
  refine v_iald hC (Nat.le_of_ble_eq_true rfl) rfl rfl hi3 dX7_valueOf_26 ?_
  refine v_iload_n hC 3 dX7_valueOf_27 rfl ?_
  refine v_iadd hC dX7_valueOf_28 ?_
  refine v_istoreN hC dX7_valueOf_29 (by decide) (lo2 := fun x4_4 => [(4, .int x4_4), (3, .int x3_2), (0, .ref (xad X 82)), (1, .int x1), (2, .int x2)]) (fun _ => rfl) (fun x4_4 e4 => ?_)
  replace h := h x4_4 e4
  refine v_aload_n hC 2 dX7_valueOf_31 rfl ?_
  refine v_iload_n hC 3 dX7_valueOf_32 rfl ?_
  refine v_callV hC (kM_kindOf _ _ _ h) cmM_kindOf ⟨kw1156, kw54⟩ kw1154 ⟨Nat.le_of_ble_eq_true rfl, Nat.le_of_ble_eq_true rfl⟩ (Nat.le_of_ble_eq_true rfl) rfl (ci := 7) (T := TX7) (N := 30) rfl (As := fun G => [.int x1]) (fun _ => rfl) (fun _ => rfl) (st := []) (Nat.le_of_ble_eq_true rfl) rfl dX7_valueOf_33 (kk_i (fun r6 σ6 h => ?_))
  by_cases q7_1 : r6 = (nI 1)
  · replace h := h.1 q7_1
    refine v_tableIn hC (nI 1) 68 dX7_valueOf_36 q7_1 (by decide) (by decide) rfl (by decide) ?_
    refine v_iload_n hC 1 dX7_valueOf_68 rfl ?_
    refine v_iload hC 0 dX7_valueOf_69 rfl ?_
    refine v_isub hC dX7_valueOf_71 ?_
    refine v_istoreN hC dX7_valueOf_72 (by decide) (lo2 := fun x5_8 => [(5, .int x5_8), (4, .int x4_4), (3, .int x3_2), (0, .ref (xad X 82)), (1, .int x1), (2, .int x2)]) (fun _ => rfl) (fun x5_8 e8 => ?_)
    replace h := h x5_8 e8
    refine v_goto hC 131 dX7_valueOf_74 (by decide) ?_
    refine v_iload hC 0 dX7_valueOf_131 rfl ?_
    have J9 : ∀ (v10 : Int32) (ev10 : v10 = (if nI 0 ≤ x5_8 then x5_8 else (nI 0))), V X 6 142 [] [.int v10] σ6 := by
      intro v10 ev10
      replace h := h v10 ev10
      exact v_iret hC hR h dX7_valueOf_142
    refine v_if_ge hC 140 dX7_valueOf_133 (by decide) (fun c9 => ?_) (fun c9 => ?_)
    · refine v_iload hC 0 dX7_valueOf_140 rfl ?_
      exact V.sub [] rfl (J9 _ (by rw [if_pos c9]))
    · refine v_iconst hC (nI 0) dX7_valueOf_136 rfl ?_
      refine v_goto hC 142 dX7_valueOf_137 (by decide) ?_
      exact V.sub [] rfl (J9 _ (by rw [if_neg c9]))
  · by_cases q7_2 : r6 = (nI 2)
    · replace h := h.2.1 q7_2
      refine v_tableIn hC (nI 2) 77 dX7_valueOf_36 q7_2 (by decide) (by decide) rfl (by decide) ?_
      refine v_iload hC 0 dX7_valueOf_77 rfl ?_
      refine v_bipush hC (nI 6) dX7_valueOf_79 rfl ?_
      have J11 : ∀ (v12 : Int32) (ev12 : v12 = (if (nI 6) ≤ x4_4 then ((x3_2 + (nI 5)) - ((nI 2) * (x4_4 - (nI 5)))) else (x3_2 + x4_4))), V X 6 101 [] [.int v12] σ6 := by
        intro v12 ev12
        replace h := h v12 ev12
        refine v_istore hC dX7_valueOf_101 (by decide) rfl ?_
        refine v_goto hC 131 dX7_valueOf_103 (by decide) ?_
        refine v_iload hC 0 dX7_valueOf_131 rfl ?_
        have J13 : ∀ (v14 : Int32) (ev14 : v14 = (if nI 0 ≤ v12 then v12 else (nI 0))), V X 6 142 [] [.int v14] σ6 := by
          intro v14 ev14
          replace h := h v14 ev14
          exact v_iret hC hR h dX7_valueOf_142
        refine v_if_ge hC 140 dX7_valueOf_133 (by decide) (fun c13 => ?_) (fun c13 => ?_)
        · refine v_iload hC 0 dX7_valueOf_140 rfl ?_
          exact V.sub [] rfl (J13 _ (by rw [if_pos c13]))
        · refine v_iconst hC (nI 0) dX7_valueOf_136 rfl ?_
          refine v_goto hC 142 dX7_valueOf_137 (by decide) ?_
          exact V.sub [] rfl (J13 _ (by rw [if_neg c13]))
      refine v_icmp_ge hC 91 dX7_valueOf_81 (by decide) (fun c11 => ?_) (fun c11 => ?_)
      · refine v_iload_n hC 1 dX7_valueOf_91 rfl ?_
        refine v_iconst hC (nI 5) dX7_valueOf_92 rfl ?_
        refine v_iadd hC dX7_valueOf_93 ?_
        refine v_iconst hC (nI 2) dX7_valueOf_94 rfl ?_
        refine v_iload hC 0 dX7_valueOf_95 rfl ?_
        refine v_iconst hC (nI 5) dX7_valueOf_97 rfl ?_
        refine v_isub hC dX7_valueOf_98 ?_
        refine v_imul hC dX7_valueOf_99 ?_
        refine v_isub hC dX7_valueOf_100 ?_
        exact V.sub [] rfl (J11 _ (by rw [if_pos c11]))
      · refine v_iload_n hC 1 dX7_valueOf_84 rfl ?_
        refine v_iload hC 0 dX7_valueOf_85 rfl ?_
        refine v_iadd hC dX7_valueOf_87 ?_
        refine v_goto hC 101 dX7_valueOf_88 (by decide) ?_
        exact V.sub [] rfl (J11 _ (by rw [if_neg c11]))
    · by_cases q7_3 : r6 = (nI 3)
      · replace h := h.2.2.1 q7_3
        refine v_tableIn hC (nI 3) 106 dX7_valueOf_36 q7_3 (by decide) (by decide) rfl (by decide) ?_
        refine v_iload_n hC 1 dX7_valueOf_106 rfl ?_
        refine v_iconst hC (nI 2) dX7_valueOf_107 rfl ?_
        refine v_iload hC 0 dX7_valueOf_108 rfl ?_
        refine v_imul hC dX7_valueOf_110 ?_
        refine v_isub hC dX7_valueOf_111 ?_
        refine v_istoreN hC dX7_valueOf_112 (by decide) (lo2 := fun x5_15 => [(5, .int x5_15), (4, .int x4_4), (3, .int x3_2), (0, .ref (xad X 82)), (1, .int x1), (2, .int x2)]) (fun _ => rfl) (fun x5_15 e15 => ?_)
        replace h := h x5_15 e15
        refine v_goto hC 131 dX7_valueOf_114 (by decide) ?_
        refine v_iload hC 0 dX7_valueOf_131 rfl ?_
        have J16 : ∀ (v17 : Int32) (ev17 : v17 = (if nI 0 ≤ x5_15 then x5_15 else (nI 0))), V X 6 142 [] [.int v17] σ6 := by
          intro v17 ev17
          replace h := h v17 ev17
          exact v_iret hC hR h dX7_valueOf_142
        refine v_if_ge hC 140 dX7_valueOf_133 (by decide) (fun c16 => ?_) (fun c16 => ?_)
        · refine v_iload hC 0 dX7_valueOf_140 rfl ?_
          exact V.sub [] rfl (J16 _ (by rw [if_pos c16]))
        · refine v_iconst hC (nI 0) dX7_valueOf_136 rfl ?_
          refine v_goto hC 142 dX7_valueOf_137 (by decide) ?_
          exact V.sub [] rfl (J16 _ (by rw [if_neg c16]))
      · by_cases q7_4 : r6 = (nI 4)
        · replace h := h.2.2.2.1 q7_4
          refine v_tableIn hC (nI 4) 117 dX7_valueOf_36 q7_4 (by decide) (by decide) rfl (by decide) ?_
          refine v_iload_n hC 1 dX7_valueOf_117 rfl ?_
          refine v_istore hC dX7_valueOf_118 (by decide) rfl ?_
          refine v_goto hC 131 dX7_valueOf_120 (by decide) ?_
          refine v_iload hC 0 dX7_valueOf_131 rfl ?_
          have J18 : ∀ (v19 : Int32) (ev19 : v19 = (if nI 0 ≤ x3_2 then x3_2 else (nI 0))), V X 6 142 [] [.int v19] σ6 := by
            intro v19 ev19
            replace h := h v19 ev19
            exact v_iret hC hR h dX7_valueOf_142
          refine v_if_ge hC 140 dX7_valueOf_133 (by decide) (fun c18 => ?_) (fun c18 => ?_)
          · refine v_iload hC 0 dX7_valueOf_140 rfl ?_
            exact V.sub [] rfl (J18 _ (by rw [if_pos c18]))
          · refine v_iconst hC (nI 0) dX7_valueOf_136 rfl ?_
            refine v_goto hC 142 dX7_valueOf_137 (by decide) ?_
            exact V.sub [] rfl (J18 _ (by rw [if_neg c18]))
        · replace h := h.2.2.2.2 ⟨q7_1, q7_2, q7_3, q7_4⟩
          refine v_tableOut hC 123 dX7_valueOf_36 (sw_out _ _ (fun j hj1 hj2 => by have hj : j = 1 ∨ j = 2 ∨ j = 3 ∨ j = 4 := (by omega); rcases hj with rfl | rfl | rfl | rfl <;> first | exact q7_1 | exact q7_2 | exact q7_3 | exact q7_4)) (by decide) ?_
          refine v_iload_n hC 1 dX7_valueOf_123 rfl ?_
          refine v_iload hC 0 dX7_valueOf_124 rfl ?_
          refine v_iconst hC (nI 3) dX7_valueOf_126 rfl ?_
          refine v_idiv hC dX7_valueOf_127 (by decide) ?_
          refine v_iadd hC dX7_valueOf_128 ?_
          refine v_istoreN hC dX7_valueOf_129 (by decide) (lo2 := fun x5_20 => [(5, .int x5_20), (4, .int x4_4), (3, .int x3_2), (0, .ref (xad X 82)), (1, .int x1), (2, .int x2)]) (fun _ => rfl) (fun x5_20 e20 => ?_)
          replace h := h x5_20 e20
          refine v_iload hC 0 dX7_valueOf_131 rfl ?_
          have J21 : ∀ (v22 : Int32) (ev22 : v22 = (if nI 0 ≤ x5_20 then x5_20 else (nI 0))), V X 6 142 [] [.int v22] σ6 := by
            intro v22 ev22
            replace h := h v22 ev22
            exact v_iret hC hR h dX7_valueOf_142
          refine v_if_ge hC 140 dX7_valueOf_133 (by decide) (fun c21 => ?_) (fun c21 => ?_)
          · refine v_iload hC 0 dX7_valueOf_140 rfl ?_
            exact V.sub [] rfl (J21 _ (by rw [if_pos c21]))
          · refine v_iconst hC (nI 0) dX7_valueOf_136 rfl ?_
            refine v_goto hC 142 dX7_valueOf_137 (by decide) ?_
            exact V.sub [] rfl (J21 _ (by rw [if_neg c21]))
theorem cmM_valueOf : CM yX7_valueOf cX7_valueOf 6 (some .int) rmM_valueOf 2 := ⟨kw82, kw1153, rfl, rfl, by decide, by decide, by decide +kernel⟩
def rmM_isOf : Room := { frames := 1, cells := 0, slots := 0, locals := 22 }
def wM_isOf (x0 : Int32) (x1 : Int32) (σ : gM) (Q : Int32 → gM → Prop) : Prop :=
    (x1 = nI 0 → (Q (nI 1) σ)) ∧ (¬ (x1 = nI 0) → ((x1 = x0 → (Q (nI 1) σ)) ∧ (¬ (x1 = x0) → ((x1 = (nI 1) → (wM_in x0 (nI 2) (nI 3) σ (fun (r5 : Int32) (σ5 : gM) => ∀ v7 : Int32, v7 = (if r5 = nI 0 then (if x1 = (nI 4) then (if x0 = (nI 5) then (nI 1) else (nI 0)) else (nI 0)) else (nI 1)) → ((v7 = nI 0 ∨ v7 = nI 1) ∧ Q v7 σ5)))) ∧ (¬ (x1 = (nI 1)) → (∀ v11 : Int32, v11 = (if x1 = (nI 4) then (if x0 = (nI 5) then (nI 1) else (nI 0)) else (nI 0)) → ((v11 = nI 0 ∨ v11 = nI 1) ∧ Q v11 σ)))))))
set_option maxHeartbeats 4000000 in
set_option maxRecDepth 100000 in
theorem kM_isOf (x0 : Int32) (x1 : Int32) (σ : gM) (Q : Int32 → gM → Prop) (h : wM_isOf x0 x1 σ Q) : CT yX7_isOf cX7_isOf 2 (some .boolean) rmM_isOf (fun G => [.int x0, .int x1]) σ (gPi Q) := by
  refine c_enter (by decide) (fun _ => Nat.le_of_ble_eq_true rfl) (fun X hC hR => ?_)
  show V X 2 0 [(0, .int x0), (1, .int x1)] [] σ
  replace h : (x1 = nI 0 → (Q (nI 1) σ)) ∧ (¬ (x1 = nI 0) → ((x1 = x0 → (Q (nI 1) σ)) ∧ (¬ (x1 = x0) → ((x1 = (nI 1) → (wM_in x0 (nI 2) (nI 3) σ (fun (r5 : Int32) (σ5 : gM) => ∀ v7 : Int32, v7 = (if r5 = nI 0 then (if x1 = (nI 4) then (if x0 = (nI 5) then (nI 1) else (nI 0)) else (nI 0)) else (nI 1)) → ((v7 = nI 0 ∨ v7 = nI 1) ∧ Q v7 σ5)))) ∧ (¬ (x1 = (nI 1)) → (∀ v11 : Int32, v11 = (if x1 = (nI 4) then (if x0 = (nI 5) then (nI 1) else (nI 0)) else (nI 0)) → ((v11 = nI 0 ∨ v11 = nI 1) ∧ Q v11 σ))))))) := h
  refine v_iload_n hC 1 dX7_isOf_0 rfl ?_
  refine v_if_eq hC 33 dX7_isOf_1 (by decide) (fun c1 => ?_) (fun c1 => ?_)
  · replace h := h.1 c1
    refine v_iconst hC (nI 1) dX7_isOf_33 rfl ?_
    refine v_goto hC 38 dX7_isOf_34 (by decide) ?_
    exact v_zret hC hR rfl h dX7_isOf_38
  · replace h := h.2 c1
    refine v_iload_n hC 1 dX7_isOf_4 rfl ?_
    refine v_iload_n hC 0 dX7_isOf_5 rfl ?_
    refine v_icmp_eq hC 33 dX7_isOf_6 (by decide) (fun c2 => ?_) (fun c2 => ?_)
    · replace h := h.1 c2
      refine v_iconst hC (nI 1) dX7_isOf_33 rfl ?_
      refine v_goto hC 38 dX7_isOf_34 (by decide) ?_
      exact v_zret hC hR rfl h dX7_isOf_38
    · replace h := h.2 c2
      refine v_iload_n hC 1 dX7_isOf_9 rfl ?_
      refine v_iconst hC (nI 1) dX7_isOf_10 rfl ?_
      refine v_icmp_ne hC 23 dX7_isOf_11 (by decide) (fun c3 => ?_) (fun c3 => ?_)
      · replace h := h.2 c3
        refine v_iload_n hC 1 dX7_isOf_23 rfl ?_
        refine v_iconst hC (nI 4) dX7_isOf_24 rfl ?_
        have J10 : ∀ (v11 : Int32) (ev11 : v11 = (if x1 = (nI 4) then (if x0 = (nI 5) then (nI 1) else (nI 0)) else (nI 0))), V X 2 38 [] [.int v11] σ := by
          intro v11 ev11
          replace h := h v11 ev11
          obtain ⟨hb, h⟩ := h
          exact v_zret hC hR (nar_bool hb) h dX7_isOf_38
        refine v_icmp_ne hC 37 dX7_isOf_25 (by decide) (fun c10 => ?_) (fun c10 => ?_)
        · refine v_iconst hC (nI 0) dX7_isOf_37 rfl ?_
          exact V.sub [] rfl (J10 _ (by rw [if_neg c10]))
        · refine v_iload_n hC 0 dX7_isOf_28 rfl ?_
          refine v_iconst hC (nI 5) dX7_isOf_29 rfl ?_
          have J12 : V X 2 38 [] [.int (if x0 = (nI 5) then (nI 1) else (nI 0))] σ := by
            exact V.sub [] rfl (J10 _ (by rw [if_pos c10]))
          refine v_icmp_ne hC 37 dX7_isOf_30 (by decide) (fun c12 => ?_) (fun c12 => ?_)
          · refine v_iconst hC (nI 0) dX7_isOf_37 rfl ?_
            rw [if_neg c12] at J12
            exact V.sub [] rfl J12
          · refine v_iconst hC (nI 1) dX7_isOf_33 rfl ?_
            refine v_goto hC 38 dX7_isOf_34 (by decide) ?_
            rw [if_pos c12] at J12
            exact V.sub [] rfl J12
      · replace h := h.1 c3
        refine v_iload_n hC 0 dX7_isOf_14 rfl ?_
        refine v_iconst hC (nI 2) dX7_isOf_15 rfl ?_
        refine v_iconst hC (nI 3) dX7_isOf_16 rfl ?_
        refine v_callS hC (kM_in _ _ _ _ _ h) cmM_in kw1051 kw1050 ⟨Nat.le_of_ble_eq_true rfl, Nat.le_of_ble_eq_true rfl⟩ (fun _ => rfl) (st := []) (Nat.le_of_ble_eq_true rfl) rfl dX7_isOf_17 (kk_i (fun r5 σ5 h => ?_))
        have J6 : ∀ (v7 : Int32) (ev7 : v7 = (if r5 = nI 0 then (if x1 = (nI 4) then (if x0 = (nI 5) then (nI 1) else (nI 0)) else (nI 0)) else (nI 1))), V X 2 38 [] [.int v7] σ5 := by
          intro v7 ev7
          replace h := h v7 ev7
          obtain ⟨hb, h⟩ := h
          exact v_zret hC hR (nar_bool hb) h dX7_isOf_38
        refine v_if_ne hC 33 dX7_isOf_20 (by decide) (fun c6 => ?_) (fun c6 => ?_)
        · refine v_iconst hC (nI 1) dX7_isOf_33 rfl ?_
          refine v_goto hC 38 dX7_isOf_34 (by decide) ?_
          exact V.sub [] rfl (J6 _ (by rw [if_neg c6]))
        · refine v_iload_n hC 1 dX7_isOf_23 rfl ?_
          refine v_iconst hC (nI 4) dX7_isOf_24 rfl ?_
          have J8 : V X 2 38 [] [.int (if x1 = (nI 4) then (if x0 = (nI 5) then (nI 1) else (nI 0)) else (nI 0))] σ5 := by
            exact V.sub [] rfl (J6 _ (by rw [if_pos c6]))
          refine v_icmp_ne hC 37 dX7_isOf_25 (by decide) (fun c8 => ?_) (fun c8 => ?_)
          · refine v_iconst hC (nI 0) dX7_isOf_37 rfl ?_
            rw [if_neg c8] at J8
            exact V.sub [] rfl J8
          · refine v_iload_n hC 0 dX7_isOf_28 rfl ?_
            refine v_iconst hC (nI 5) dX7_isOf_29 rfl ?_
            have J9 : V X 2 38 [] [.int (if x0 = (nI 5) then (nI 1) else (nI 0))] σ5 := by
              rw [if_pos c8] at J8
              exact V.sub [] rfl J8
            refine v_icmp_ne hC 37 dX7_isOf_30 (by decide) (fun c9 => ?_) (fun c9 => ?_)
            · refine v_iconst hC (nI 0) dX7_isOf_37 rfl ?_
              rw [if_neg c9] at J9
              exact V.sub [] rfl J9
            · refine v_iconst hC (nI 1) dX7_isOf_33 rfl ?_
              refine v_goto hC 38 dX7_isOf_34 (by decide) ?_
              rw [if_pos c9] at J9
              exact V.sub [] rfl J9
theorem cmM_isOf : CM yX7_isOf cX7_isOf 2 (some .boolean) rmM_isOf 2 := ⟨kw82, kw1164, rfl, rfl, by decide, by decide, by decide +kernel⟩
def rmM_worthOf : Room := { frames := 2, cells := 0, slots := 0, locals := 46 }
def wM_worthOf (x1 : Int32) (x2 : Int32) (x3 : Int32) (σ : gM) (Q : Int32 → gM → Prop) : Prop :=
    wM_kindOf x1 σ (fun (r2 : Int32) (σ2 : gM) => vp_in ((nI 6) + ((nI 4) * x2)) 102 ∧ (wM_isOf r2 (σ2 89 ((nI 6) + ((nI 4) * x2)).toNatClampNeg) σ2 (fun (r5 : Int32) (σ5 : gM) => (r5 = nI 0 → (wM_valueOf x1 x3 σ5 (fun (r8 : Int32) (σ8 : gM) => Q r8 σ8))) ∧ (¬ (r5 = nI 0) → (wM_valueOf x1 x3 σ5 (fun (r10 : Int32) (σ10 : gM) => Q ((nI 2) * r10) σ10))))))
set_option maxHeartbeats 4000000 in
set_option maxRecDepth 100000 in
theorem kM_worthOf (x1 : Int32) (x2 : Int32) (x3 : Int32) (σ : gM) (Q : Int32 → gM → Prop) (h : wM_worthOf x1 x2 x3 σ Q) : CT yX7_worthOf cX7_worthOf 4 (some .int) rmM_worthOf (fun G => [.ref (gad G 82), .int x1, .int x2, .int x3]) σ (gPi Q) := by
  refine c_enter (by decide) (fun _ => Nat.le_of_ble_eq_true rfl) (fun X hC hR => ?_)
  show V X 4 0 [(0, .ref (xad X 82)), (1, .int x1), (2, .int x2), (3, .int x3)] [] σ
  replace h : wM_kindOf x1 σ (fun (r2 : Int32) (σ2 : gM) => vp_in ((nI 6) + ((nI 4) * x2)) 102 ∧ (wM_isOf r2 (σ2 89 ((nI 6) + ((nI 4) * x2)).toNatClampNeg) σ2 (fun (r5 : Int32) (σ5 : gM) => (r5 = nI 0 → (wM_valueOf x1 x3 σ5 (fun (r8 : Int32) (σ8 : gM) => Q r8 σ8))) ∧ (¬ (r5 = nI 0) → (wM_valueOf x1 x3 σ5 (fun (r10 : Int32) (σ10 : gM) => Q ((nI 2) * r10) σ10)))))) := h
  refine v_aload_n hC 0 dX7_worthOf_0 rfl ?_
  refine v_iload_n hC 1 dX7_worthOf_1 rfl ?_
  refine v_callV hC (kM_kindOf _ _ _ h) cmM_kindOf ⟨kw1156, kw54⟩ kw1154 ⟨Nat.le_of_ble_eq_true rfl, Nat.le_of_ble_eq_true rfl⟩ (Nat.le_of_ble_eq_true rfl) rfl (ci := 7) (T := TX7) (N := 30) rfl (As := fun G => [.int x1]) (fun _ => rfl) (fun _ => rfl) (st := []) (Nat.le_of_ble_eq_true rfl) rfl dX7_worthOf_2 (kk_i (fun r2 σ2 h => ?_))
  refine v_aload_n hC 0 dX7_worthOf_5 rfl ?_
  refine gf_X7_28 hC dX7_worthOf_6 ?_
  refine v_bipush hC (nI 6) dX7_worthOf_9 rfl ?_
  refine v_iconst hC (nI 4) dX7_worthOf_11 rfl ?_
  refine v_iload_n hC 2 dX7_worthOf_12 rfl ?_
  refine v_imul hC dX7_worthOf_13 ?_
  refine v_iadd hC dX7_worthOf_14 ?_
  obtain ⟨hi3, h⟩ := h
  refine v_iald hC (Nat.le_of_ble_eq_true rfl) rfl rfl hi3 dX7_worthOf_15 ?_
  refine v_callS hC (kM_isOf _ _ _ _ h) cmM_isOf kw1163 kw1162 ⟨Nat.le_of_ble_eq_true rfl, Nat.le_of_ble_eq_true rfl⟩ (fun _ => rfl) (st := []) (Nat.le_of_ble_eq_true rfl) rfl dX7_worthOf_16 (kk_i (fun r5 σ5 h => ?_))
  refine v_if_eq hC 33 dX7_worthOf_19 (by decide) (fun c6 => ?_) (fun c6 => ?_)
  · replace h := h.1 c6
    refine v_aload_n hC 0 dX7_worthOf_33 rfl ?_
    refine v_iload_n hC 1 dX7_worthOf_34 rfl ?_
    refine v_iload_n hC 3 dX7_worthOf_35 rfl ?_
    refine v_callV hC (kM_valueOf _ _ _ _ h) cmM_valueOf ⟨kw1152, kw53⟩ kw1150 ⟨Nat.le_of_ble_eq_true rfl, Nat.le_of_ble_eq_true rfl⟩ (Nat.le_of_ble_eq_true rfl) rfl (ci := 7) (T := TX7) (N := 30) rfl (As := fun G => [.int x1, .int x3]) (fun _ => rfl) (fun _ => rfl) (st := []) (Nat.le_of_ble_eq_true rfl) rfl dX7_worthOf_36 (kk_i (fun r8 σ8 h => ?_))
    exact v_iret hC hR h dX7_worthOf_39
  · replace h := h.2 c6
    refine v_iconst hC (nI 2) dX7_worthOf_22 rfl ?_
    refine v_aload_n hC 0 dX7_worthOf_23 rfl ?_
    refine v_iload_n hC 1 dX7_worthOf_24 rfl ?_
    refine v_iload_n hC 3 dX7_worthOf_25 rfl ?_
    refine v_callV hC (kM_valueOf _ _ _ _ h) cmM_valueOf ⟨kw1152, kw53⟩ kw1150 ⟨Nat.le_of_ble_eq_true rfl, Nat.le_of_ble_eq_true rfl⟩ (Nat.le_of_ble_eq_true rfl) rfl (ci := 7) (T := TX7) (N := 30) rfl (As := fun G => [.int x1, .int x3]) (fun _ => rfl) (fun _ => rfl) (st := [.int (nI 2)]) (Nat.le_of_ble_eq_true rfl) rfl dX7_worthOf_26 (kk_i (fun r10 σ10 h => ?_))
    refine v_imul hC dX7_worthOf_29 ?_
    refine v_goto hC 39 dX7_worthOf_30 (by decide) ?_
    exact v_iret hC hR h dX7_worthOf_39
theorem cmM_worthOf : CM yX7_worthOf cX7_worthOf 4 (some .int) rmM_worthOf 3 := ⟨kw82, kw1161, rfl, rfl, by decide, by decide, by decide +kernel⟩
def rmM_takeAt : Room := { frames := 1, cells := 0, slots := 0, locals := 21 }
def wM_takeAt_l33 (Q : Int32 → gM → Prop)  : Nat → Int32 → Int32 → Int32 → gM → Prop
  | 0, _, _, _, _ => False
  | n + 1, x1, x2, x3, σ =>
    ((σ 89 5) ≤ x3 → (Q x2 σ)) ∧ (¬ ((σ 89 5) ≤ x3) → ((x1 = nI 0 → (wM_heap (x3 + (nI 1)) σ (fun (r12 : Int32) (σ12 : gM) => vp_in ((nI 86) + x3) 102 ∧ (∀ σ13 : gM, σ13 = gU σ12 89 ((nI 86) + x3).toNatClampNeg r12 → (∀ x3_14 : Int32, x3_14 = x3 + (nI 1) → (wM_takeAt_l33 Q n x1 x2 x3_14 σ13)))))) ∧ (¬ (x1 = nI 0) → (Q x2 σ))))
def wM_takeAt (x1 : Int32) (σ : gM) (Q : Int32 → gM → Prop) : Prop :=
    ∀ v3 : Int32, v3 = (if x1 = nI 0 then (nI 0) else ((σ 89 5) - (nI 1))) → (wM_heap v3 σ (fun (r5 : Int32) (σ5 : gM) => ∀ σ7 : gM, σ7 = gU σ5 89 5 ((σ5 89 5) - (nI 1)) → (∃ n15 : Nat, wM_takeAt_l33 Q n15 x1 r5 (nI 0) σ7)))
set_option maxHeartbeats 4000000 in
set_option maxRecDepth 100000 in
theorem tM_takeAt_l33 {X : gX} {Q : Int32 → gM → Prop} (hC : VC X cX7_takeAt RX7 4 rmM_takeAt) (hR : VR X (some .int) (gPi Q))  : ∀ (n : Nat) (x1 : Int32) (x2 : Int32) (x3 : Int32) (σ : gM), wM_takeAt_l33 Q  n x1 x2 x3 σ → V X 4 33 [(0, .ref (xad X 82)), (1, .int x1), (2, .int x2), (3, .int x3)] [] σ := by
  intro n
  induction n with
  | zero => intro x1 x2 x3 σ h; exact h.elim
  | succ n ih =>
    intro x1 x2 x3 σ h
    replace h : ((σ 89 5) ≤ x3 → (Q x2 σ)) ∧ (¬ ((σ 89 5) ≤ x3) → ((x1 = nI 0 → (wM_heap (x3 + (nI 1)) σ (fun (r12 : Int32) (σ12 : gM) => vp_in ((nI 86) + x3) 102 ∧ (∀ σ13 : gM, σ13 = gU σ12 89 ((nI 86) + x3).toNatClampNeg r12 → (∀ x3_14 : Int32, x3_14 = x3 + (nI 1) → (wM_takeAt_l33 Q n x1 x2 x3_14 σ13)))))) ∧ (¬ (x1 = nI 0) → (Q x2 σ)))) := h
    refine v_iload_n hC 3 dX7_takeAt_33 rfl ?_
    refine v_aload_n hC 0 dX7_takeAt_34 rfl ?_
    refine gf_X7_28 hC dX7_takeAt_35 ?_
    refine v_iconst hC (nI 5) dX7_takeAt_38 rfl ?_
    refine v_iald hC (Nat.le_of_ble_eq_true rfl) rfl (j := 5) (by decide) (by unfold vp_in; decide) dX7_takeAt_39 ?_
    refine v_icmp_ge hC 69 dX7_takeAt_40 (by decide) (fun c9 => ?_) (fun c9 => ?_)
    · replace h := h.1 c9
      refine v_iload_n hC 2 dX7_takeAt_69 rfl ?_
      exact v_iret hC hR h dX7_takeAt_70
    · replace h := h.2 c9
      refine v_iload_n hC 1 dX7_takeAt_43 rfl ?_
      refine v_if_ne hC 69 dX7_takeAt_44 (by decide) (fun c10 => ?_) (fun c10 => ?_)
      · replace h := h.2 c10
        refine v_iload_n hC 2 dX7_takeAt_69 rfl ?_
        exact v_iret hC hR h dX7_takeAt_70
      · replace h := h.1 c10
        refine v_aload_n hC 0 dX7_takeAt_47 rfl ?_
        refine gf_X7_28 hC dX7_takeAt_48 ?_
        refine v_bipush hC (nI 86) dX7_takeAt_51 rfl ?_
        refine v_iload_n hC 3 dX7_takeAt_53 rfl ?_
        refine v_iadd hC dX7_takeAt_54 ?_
        refine v_aload_n hC 0 dX7_takeAt_55 rfl ?_
        refine v_iload_n hC 3 dX7_takeAt_56 rfl ?_
        refine v_iconst hC (nI 1) dX7_takeAt_57 rfl ?_
        refine v_iadd hC dX7_takeAt_58 ?_
        refine v_callV hC (kM_heap _ _ _ h) cmM_heap ⟨kw1148, kw52⟩ kw1146 ⟨Nat.le_of_ble_eq_true rfl, Nat.le_of_ble_eq_true rfl⟩ (Nat.le_of_ble_eq_true rfl) rfl (ci := 7) (T := TX7) (N := 30) rfl (As := fun G => [.int (x3 + (nI 1))]) (fun _ => rfl) (fun _ => rfl) (st := [.int ((nI 86) + x3), .ref (xad X 89)]) (Nat.le_of_ble_eq_true rfl) rfl dX7_takeAt_59 (kk_i (fun r12 σ12 h => ?_))
        obtain ⟨hi13, h⟩ := h
        refine v_iast hC (Nat.le_of_ble_eq_true rfl) rfl rfl hi13 dX7_takeAt_62 (fun σ13 e13 => ?_)
        replace h := h σ13 e13
        refine v_iincN hC (nI 1) 3 dX7_takeAt_63 rfl rfl (by decide) (lo2 := fun x3_14 => [(3, .int x3_14), (0, .ref (xad X 82)), (1, .int x1), (2, .int x2)]) (fun _ => rfl) (fun x3_14 e14 => ?_)
        replace h := h x3_14 e14
        refine v_goto hC 33 dX7_takeAt_66 (by decide) ?_
        exact V.sub [1, 2, 3, 0] rfl (ih _ _ _ _ h)
set_option maxHeartbeats 4000000 in
set_option maxRecDepth 100000 in
theorem kM_takeAt (x1 : Int32) (σ : gM) (Q : Int32 → gM → Prop) (h : wM_takeAt x1 σ Q) : CT yX7_takeAt cX7_takeAt 4 (some .int) rmM_takeAt (fun G => [.ref (gad G 82), .int x1]) σ (gPi Q) := by
  refine c_enter (by decide) (fun _ => Nat.le_of_ble_eq_true rfl) (fun X hC hR => ?_)
  show V X 4 0 [(0, .ref (xad X 82)), (1, .int x1)] [] σ
  replace h : ∀ v3 : Int32, v3 = (if x1 = nI 0 then (nI 0) else ((σ 89 5) - (nI 1))) → (wM_heap v3 σ (fun (r5 : Int32) (σ5 : gM) => ∀ σ7 : gM, σ7 = gU σ5 89 5 ((σ5 89 5) - (nI 1)) → (∃ n15 : Nat, wM_takeAt_l33 Q n15 x1 r5 (nI 0) σ7))) := h
  refine v_aload_n hC 0 dX7_takeAt_0 rfl ?_
  refine v_iload_n hC 1 dX7_takeAt_1 rfl ?_
  have J1 : ∀ (v3 : Int32) (ev3 : v3 = (if x1 = nI 0 then (nI 0) else ((σ 89 5) - (nI 1)))), V X 4 17 [(0, .ref (xad X 82)), (1, .int x1)] [.int v3, .ref (xad X 82)] σ := by
    intro v3 ev3
    replace h := h v3 ev3
    refine v_callV hC (kM_heap _ _ _ h) cmM_heap ⟨kw1148, kw52⟩ kw1146 ⟨Nat.le_of_ble_eq_true rfl, Nat.le_of_ble_eq_true rfl⟩ (Nat.le_of_ble_eq_true rfl) rfl (ci := 7) (T := TX7) (N := 30) rfl (As := fun G => [.int v3]) (fun _ => rfl) (fun _ => rfl) (st := []) (Nat.le_of_ble_eq_true rfl) rfl dX7_takeAt_17 (kk_i (fun r5 σ5 h => ?_))
    refine v_istore_n hC dX7_takeAt_20 (by decide) rfl ?_
    refine v_aload_n hC 1 dX7_takeAt_21 rfl ?_
    refine gf_X7_28 hC dX7_takeAt_22 ?_
    refine v_iconst hC (nI 5) dX7_takeAt_25 rfl ?_
    refine v_dup2 hC dX7_takeAt_26 rfl rfl ?_
    refine v_iald hC (Nat.le_of_ble_eq_true rfl) rfl (j := 5) (by decide) (by unfold vp_in; decide) dX7_takeAt_27 ?_
    refine v_iconst hC (nI 1) dX7_takeAt_28 rfl ?_
    refine v_isub hC dX7_takeAt_29 ?_
    refine v_iast hC (Nat.le_of_ble_eq_true rfl) rfl (j := 5) (by decide) (by unfold vp_in; decide) dX7_takeAt_30 (fun σ7 e7 => ?_)
    replace h := h σ7 e7
    refine v_iconst hC (nI 0) dX7_takeAt_31 rfl ?_
    refine v_istore_n hC dX7_takeAt_32 (by decide) rfl ?_
    obtain ⟨n15, h⟩ := h
    exact V.sub [2, 3, 1, 0] rfl (tM_takeAt_l33 hC hR  n15 _ _ _ _ h)
  refine v_if_ne hC 9 dX7_takeAt_2 (by decide) (fun c1 => ?_) (fun c1 => ?_)
  · refine v_aload_n hC 0 dX7_takeAt_9 rfl ?_
    refine gf_X7_28 hC dX7_takeAt_10 ?_
    refine v_iconst hC (nI 5) dX7_takeAt_13 rfl ?_
    refine v_iald hC (Nat.le_of_ble_eq_true rfl) rfl (j := 5) (by decide) (by unfold vp_in; decide) dX7_takeAt_14 ?_
    refine v_iconst hC (nI 1) dX7_takeAt_15 rfl ?_
    refine v_isub hC dX7_takeAt_16 ?_
    exact V.sub [0, 1] rfl (J1 _ (by rw [if_neg c1]))
  · refine v_iconst hC (nI 0) dX7_takeAt_5 rfl ?_
    refine v_goto hC 17 dX7_takeAt_6 (by decide) ?_
    exact V.sub [0, 1] rfl (J1 _ (by rw [if_pos c1]))
theorem cmM_takeAt : CM yX7_takeAt cX7_takeAt 4 (some .int) rmM_takeAt 1 := ⟨kw82, kw1168, rfl, rfl, by decide, by decide, by decide +kernel⟩
def rmM_noteAct : Room := { frames := 0, cells := 0, slots := 0, locals := 0 }
def wM_noteAct_b51 (Q : gM → Prop)  (x1 : Int32) (x2 : Int32) (x3 : Int32) (x4 : Int32) (x5 : Int32) (σ : gM) : Prop :=
    vp_in ((nI 5) * (σ 82 20)) 120 ∧ (∀ σ4 : gM, σ4 = gU σ 92 ((nI 5) * (σ 82 20)).toNatClampNeg x1 → (vp_in (((nI 5) * (σ4 82 20)) + (nI 1)) 120 ∧ (∀ σ5 : gM, σ5 = gU σ4 92 (((nI 5) * (σ4 82 20)) + (nI 1)).toNatClampNeg x2 → (vp_in (((nI 5) * (σ5 82 20)) + (nI 2)) 120 ∧ (∀ σ6 : gM, σ6 = gU σ5 92 (((nI 5) * (σ5 82 20)) + (nI 2)).toNatClampNeg x3 → (vp_in (((nI 5) * (σ6 82 20)) + (nI 3)) 120 ∧ (∀ σ7 : gM, σ7 = gU σ6 92 (((nI 5) * (σ6 82 20)) + (nI 3)).toNatClampNeg x4 → (vp_in (((nI 5) * (σ7 82 20)) + (nI 4)) 120 ∧ (∀ σ8 : gM, σ8 = gU σ7 92 (((nI 5) * (σ7 82 20)) + (nI 4)).toNatClampNeg x5 → (∀ σ9 : gM, σ9 = gU σ8 82 20 ((σ8 82 20) + (nI 1)) → (Q σ9)))))))))))
def wM_noteAct_l12 (Q : gM → Prop)  : Nat → Int32 → Int32 → Int32 → Int32 → Int32 → Int32 → gM → Prop
  | 0, _, _, _, _, _, _, _ => False
  | n + 1, x1, x2, x3, x4, x5, x6, σ =>
    ((nI 115) ≤ x6 → (∀ σ3 : gM, σ3 = gU σ 82 20 ((σ 82 20) - (nI 1)) → (wM_noteAct_b51 Q x1 x2 x3 x4 x5 σ3))) ∧ (¬ ((nI 115) ≤ x6) → (vp_in (x6 + (nI 5)) 120 ∧ (vp_in x6 120 ∧ (∀ σ11 : gM, σ11 = gU σ 92 x6.toNatClampNeg (σ 92 (x6 + (nI 5)).toNatClampNeg) → (∀ x6_12 : Int32, x6_12 = x6 + (nI 1) → (wM_noteAct_l12 Q n x1 x2 x3 x4 x5 x6_12 σ11))))))
def wM_noteAct (x1 : Int32) (x2 : Int32) (x3 : Int32) (x4 : Int32) (x5 : Int32) (σ : gM) (Q : gM → Prop) : Prop :=
    ((σ 82 20) = (nI 24) → (∃ n13 : Nat, wM_noteAct_l12 Q n13 x1 x2 x3 x4 x5 (nI 0) σ)) ∧ (¬ ((σ 82 20) = (nI 24)) → (wM_noteAct_b51 Q x1 x2 x3 x4 x5 σ))
set_option maxHeartbeats 4000000 in
set_option maxRecDepth 100000 in
theorem tM_noteAct_b51 {X : gX} {Q : gM → Prop} (hC : VC X cX7_noteAct RX7 7 rmM_noteAct) (hR : VR X none (gPv Q))  (x1 : Int32) (x2 : Int32) (x3 : Int32) (x4 : Int32) (x5 : Int32) (σ : gM) (h : wM_noteAct_b51 Q  x1 x2 x3 x4 x5 σ) : V X 7 51 [(0, .ref (xad X 82)), (1, .int x1), (2, .int x2), (3, .int x3), (4, .int x4), (5, .int x5)] [] σ := by
  replace h : vp_in ((nI 5) * (σ 82 20)) 120 ∧ (∀ σ4 : gM, σ4 = gU σ 92 ((nI 5) * (σ 82 20)).toNatClampNeg x1 → (vp_in (((nI 5) * (σ4 82 20)) + (nI 1)) 120 ∧ (∀ σ5 : gM, σ5 = gU σ4 92 (((nI 5) * (σ4 82 20)) + (nI 1)).toNatClampNeg x2 → (vp_in (((nI 5) * (σ5 82 20)) + (nI 2)) 120 ∧ (∀ σ6 : gM, σ6 = gU σ5 92 (((nI 5) * (σ5 82 20)) + (nI 2)).toNatClampNeg x3 → (vp_in (((nI 5) * (σ6 82 20)) + (nI 3)) 120 ∧ (∀ σ7 : gM, σ7 = gU σ6 92 (((nI 5) * (σ6 82 20)) + (nI 3)).toNatClampNeg x4 → (vp_in (((nI 5) * (σ7 82 20)) + (nI 4)) 120 ∧ (∀ σ8 : gM, σ8 = gU σ7 92 (((nI 5) * (σ7 82 20)) + (nI 4)).toNatClampNeg x5 → (∀ σ9 : gM, σ9 = gU σ8 82 20 ((σ8 82 20) + (nI 1)) → (Q σ9))))))))))) := h
  refine v_aload_n hC 0 dX7_noteAct_51 rfl ?_
  refine gf_X7_38 hC dX7_noteAct_52 ?_
  refine v_iconst hC (nI 5) dX7_noteAct_55 rfl ?_
  refine v_aload_n hC 0 dX7_noteAct_56 rfl ?_
  refine gf_X7_173 hC dX7_noteAct_57 ?_
  refine v_imul hC dX7_noteAct_60 ?_
  refine v_iload_n hC 1 dX7_noteAct_61 rfl ?_
  obtain ⟨hi4, h⟩ := h
  refine v_iast hC (Nat.le_of_ble_eq_true rfl) rfl rfl hi4 dX7_noteAct_62 (fun σ4 e4 => ?_)
  replace h := h σ4 e4
  refine v_aload_n hC 0 dX7_noteAct_63 rfl ?_
  refine gf_X7_38 hC dX7_noteAct_64 ?_
  refine v_iconst hC (nI 5) dX7_noteAct_67 rfl ?_
  refine v_aload_n hC 0 dX7_noteAct_68 rfl ?_
  refine gf_X7_173 hC dX7_noteAct_69 ?_
  refine v_imul hC dX7_noteAct_72 ?_
  refine v_iconst hC (nI 1) dX7_noteAct_73 rfl ?_
  refine v_iadd hC dX7_noteAct_74 ?_
  refine v_iload_n hC 2 dX7_noteAct_75 rfl ?_
  obtain ⟨hi5, h⟩ := h
  refine v_iast hC (Nat.le_of_ble_eq_true rfl) rfl rfl hi5 dX7_noteAct_76 (fun σ5 e5 => ?_)
  replace h := h σ5 e5
  refine v_aload_n hC 0 dX7_noteAct_77 rfl ?_
  refine gf_X7_38 hC dX7_noteAct_78 ?_
  refine v_iconst hC (nI 5) dX7_noteAct_81 rfl ?_
  refine v_aload_n hC 0 dX7_noteAct_82 rfl ?_
  refine gf_X7_173 hC dX7_noteAct_83 ?_
  refine v_imul hC dX7_noteAct_86 ?_
  refine v_iconst hC (nI 2) dX7_noteAct_87 rfl ?_
  refine v_iadd hC dX7_noteAct_88 ?_
  refine v_iload_n hC 3 dX7_noteAct_89 rfl ?_
  obtain ⟨hi6, h⟩ := h
  refine v_iast hC (Nat.le_of_ble_eq_true rfl) rfl rfl hi6 dX7_noteAct_90 (fun σ6 e6 => ?_)
  replace h := h σ6 e6
  refine v_aload_n hC 0 dX7_noteAct_91 rfl ?_
  refine gf_X7_38 hC dX7_noteAct_92 ?_
  refine v_iconst hC (nI 5) dX7_noteAct_95 rfl ?_
  refine v_aload_n hC 0 dX7_noteAct_96 rfl ?_
  refine gf_X7_173 hC dX7_noteAct_97 ?_
  refine v_imul hC dX7_noteAct_100 ?_
  refine v_iconst hC (nI 3) dX7_noteAct_101 rfl ?_
  refine v_iadd hC dX7_noteAct_102 ?_
  refine v_iload hC 4 dX7_noteAct_103 rfl ?_
  obtain ⟨hi7, h⟩ := h
  refine v_iast hC (Nat.le_of_ble_eq_true rfl) rfl rfl hi7 dX7_noteAct_105 (fun σ7 e7 => ?_)
  replace h := h σ7 e7
  refine v_aload_n hC 0 dX7_noteAct_106 rfl ?_
  refine gf_X7_38 hC dX7_noteAct_107 ?_
  refine v_iconst hC (nI 5) dX7_noteAct_110 rfl ?_
  refine v_aload_n hC 0 dX7_noteAct_111 rfl ?_
  refine gf_X7_173 hC dX7_noteAct_112 ?_
  refine v_imul hC dX7_noteAct_115 ?_
  refine v_iconst hC (nI 4) dX7_noteAct_116 rfl ?_
  refine v_iadd hC dX7_noteAct_117 ?_
  refine v_iload hC 5 dX7_noteAct_118 rfl ?_
  obtain ⟨hi8, h⟩ := h
  refine v_iast hC (Nat.le_of_ble_eq_true rfl) rfl rfl hi8 dX7_noteAct_120 (fun σ8 e8 => ?_)
  replace h := h σ8 e8
  refine v_aload_n hC 0 dX7_noteAct_121 rfl ?_
  refine v_dup hC dX7_noteAct_122 rfl ?_
  refine gf_X7_173 hC dX7_noteAct_123 ?_
  refine v_iconst hC (nI 1) dX7_noteAct_126 rfl ?_
  refine v_iadd hC dX7_noteAct_127 ?_
  refine pf_X7_173 hC dX7_noteAct_128 (fun σ9 e9 => ?_)
  replace h := h σ9 e9
  exact v_vret hC hR h dX7_noteAct_131
set_option maxHeartbeats 4000000 in
set_option maxRecDepth 100000 in
theorem tM_noteAct_l12 {X : gX} {Q : gM → Prop} (hC : VC X cX7_noteAct RX7 7 rmM_noteAct) (hR : VR X none (gPv Q))  : ∀ (n : Nat) (x1 : Int32) (x2 : Int32) (x3 : Int32) (x4 : Int32) (x5 : Int32) (x6 : Int32) (σ : gM), wM_noteAct_l12 Q  n x1 x2 x3 x4 x5 x6 σ → V X 7 12 [(0, .ref (xad X 82)), (1, .int x1), (2, .int x2), (3, .int x3), (4, .int x4), (5, .int x5), (6, .int x6)] [] σ := by
  intro n
  induction n with
  | zero => intro x1 x2 x3 x4 x5 x6 σ h; exact h.elim
  | succ n ih =>
    intro x1 x2 x3 x4 x5 x6 σ h
    replace h : ((nI 115) ≤ x6 → (∀ σ3 : gM, σ3 = gU σ 82 20 ((σ 82 20) - (nI 1)) → (wM_noteAct_b51 Q x1 x2 x3 x4 x5 σ3))) ∧ (¬ ((nI 115) ≤ x6) → (vp_in (x6 + (nI 5)) 120 ∧ (vp_in x6 120 ∧ (∀ σ11 : gM, σ11 = gU σ 92 x6.toNatClampNeg (σ 92 (x6 + (nI 5)).toNatClampNeg) → (∀ x6_12 : Int32, x6_12 = x6 + (nI 1) → (wM_noteAct_l12 Q n x1 x2 x3 x4 x5 x6_12 σ11)))))) := h
    refine v_iload hC 6 dX7_noteAct_12 rfl ?_
    refine v_bipush hC (nI 115) dX7_noteAct_14 rfl ?_
    refine v_icmp_ge hC 41 dX7_noteAct_16 (by decide) (fun c2 => ?_) (fun c2 => ?_)
    · replace h := h.1 c2
      refine v_aload_n hC 0 dX7_noteAct_41 rfl ?_
      refine v_dup hC dX7_noteAct_42 rfl ?_
      refine gf_X7_173 hC dX7_noteAct_43 ?_
      refine v_iconst hC (nI 1) dX7_noteAct_46 rfl ?_
      refine v_isub hC dX7_noteAct_47 ?_
      refine pf_X7_173 hC dX7_noteAct_48 (fun σ3 e3 => ?_)
      replace h := h σ3 e3
      exact V.sub [0, 1, 2, 3, 4, 5] rfl (tM_noteAct_b51 hC hR  _ _ _ _ _ _ h)
    · replace h := h.2 c2
      refine v_aload_n hC 0 dX7_noteAct_19 rfl ?_
      refine gf_X7_38 hC dX7_noteAct_20 ?_
      refine v_iload hC 6 dX7_noteAct_23 rfl ?_
      refine v_aload_n hC 0 dX7_noteAct_25 rfl ?_
      refine gf_X7_38 hC dX7_noteAct_26 ?_
      refine v_iload hC 6 dX7_noteAct_29 rfl ?_
      refine v_iconst hC (nI 5) dX7_noteAct_31 rfl ?_
      refine v_iadd hC dX7_noteAct_32 ?_
      obtain ⟨hi10, h⟩ := h
      refine v_iald hC (Nat.le_of_ble_eq_true rfl) rfl rfl hi10 dX7_noteAct_33 ?_
      obtain ⟨hi11, h⟩ := h
      refine v_iast hC (Nat.le_of_ble_eq_true rfl) rfl rfl hi11 dX7_noteAct_34 (fun σ11 e11 => ?_)
      replace h := h σ11 e11
      refine v_iincN hC (nI 1) 6 dX7_noteAct_35 rfl rfl (by decide) (lo2 := fun x6_12 => [(6, .int x6_12), (0, .ref (xad X 82)), (1, .int x1), (2, .int x2), (3, .int x3), (4, .int x4), (5, .int x5)]) (fun _ => rfl) (fun x6_12 e12 => ?_)
      replace h := h x6_12 e12
      refine v_goto hC 12 dX7_noteAct_38 (by decide) ?_
      exact V.sub [1, 2, 3, 4, 5, 6, 0] rfl (ih _ _ _ _ _ _ _ h)
set_option maxHeartbeats 4000000 in
set_option maxRecDepth 100000 in
theorem kM_noteAct (x1 : Int32) (x2 : Int32) (x3 : Int32) (x4 : Int32) (x5 : Int32) (σ : gM) (Q : gM → Prop) (h : wM_noteAct x1 x2 x3 x4 x5 σ Q) : CT yX7_noteAct cX7_noteAct 7 none rmM_noteAct (fun G => [.ref (gad G 82), .int x1, .int x2, .int x3, .int x4, .int x5]) σ (gPv Q) := by
  refine c_enter (by decide) (fun _ => Nat.le_of_ble_eq_true rfl) (fun X hC hR => ?_)
  show V X 7 0 [(0, .ref (xad X 82)), (1, .int x1), (2, .int x2), (3, .int x3), (4, .int x4), (5, .int x5)] [] σ
  replace h : ((σ 82 20) = (nI 24) → (∃ n13 : Nat, wM_noteAct_l12 Q n13 x1 x2 x3 x4 x5 (nI 0) σ)) ∧ (¬ ((σ 82 20) = (nI 24)) → (wM_noteAct_b51 Q x1 x2 x3 x4 x5 σ)) := h
  refine v_aload_n hC 0 dX7_noteAct_0 rfl ?_
  refine gf_X7_173 hC dX7_noteAct_1 ?_
  refine v_bipush hC (nI 24) dX7_noteAct_4 rfl ?_
  refine v_icmp_ne hC 51 dX7_noteAct_6 (by decide) (fun c1 => ?_) (fun c1 => ?_)
  · replace h := h.2 c1
    exact V.sub [0, 1, 2, 3, 4, 5] rfl (tM_noteAct_b51 hC hR  _ _ _ _ _ _ h)
  · replace h := h.1 c1
    refine v_iconst hC (nI 0) dX7_noteAct_9 rfl ?_
    refine v_istore hC dX7_noteAct_10 (by decide) rfl ?_
    obtain ⟨n13, h⟩ := h
    exact V.sub [1, 2, 3, 4, 5, 6, 0] rfl (tM_noteAct_l12 hC hR  n13 _ _ _ _ _ _ _ h)
theorem cmM_noteAct : CM yX7_noteAct cX7_noteAct 7 none rmM_noteAct 5 := ⟨kw82, kw1172, rfl, rfl, by decide, by decide, by decide +kernel⟩
