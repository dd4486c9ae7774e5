def rmJS_coder : Room := { frames := 0, cells := 0, slots := 0, locals := 0 }
def rmJS_isLatin1 : Room := { frames := 0, cells := 0, slots := 0, locals := 0 }
def rmJS_length : Room := { frames := 1, cells := 0, slots := 0, locals := 20 }
def rmJP_checkIndex : Room := { frames := 0, cells := 0, slots := 0, locals := 0 }
def rmJS_checkIndex : Room := { frames := 1, cells := 0, slots := 0, locals := 22 }
def rmJL_charAt : Room := { frames := 2, cells := 0, slots := 0, locals := 43 }
def rmJS_charAt : Room := { frames := 3, cells := 0, slots := 0, locals := 64 }
theorem cmJS_coder : CM yJ0_coder_7d493 cJ0_coder_7d493 1 (some .byte) rmJS_coder 0 := ⟨kw85, kw483, rfl, rfl, by decide, by decide, by decide +kernel⟩
theorem cmJS_isLatin1 : CM yJ0_isLatin1_aae02 cJ0_isLatin1_aae02 1 (some .boolean) rmJS_isLatin1 0 := ⟨kw85, kw493, rfl, rfl, by decide, by decide, by decide +kernel⟩
theorem cmJS_length : CM yJ0_length_8abf5 cJ0_length_8abf5 1 (some .int) rmJS_length 0 := ⟨kw85, kw479, rfl, rfl, by decide, by decide, by decide +kernel⟩
theorem cmJP_checkIndex : CM yJ3_checkIndex_8e157 cJ3_checkIndex_8e157 3 (some .int) rmJP_checkIndex 3 := ⟨kw87, kw504, rfl, rfl, by decide, by decide, by decide +kernel⟩
theorem cmJS_checkIndex : CM yJ0_checkIndex_df160 cJ0_checkIndex_df160 2 none rmJS_checkIndex 2 := ⟨kw85, kw499, rfl, rfl, by decide, by decide, by decide +kernel⟩
theorem cmJL_charAt : CM yJ1_charAt_3b067 cJ1_charAt_3b067 2 (some .char) rmJL_charAt 2 := ⟨kw86, kw496, rfl, rfl, by decide, by decide, by decide +kernel⟩
theorem cmJS_charAt : CM yJ0_charAt_5068e cJ0_charAt_5068e 2 (some .char) rmJS_charAt 1 := ⟨kw85, kw489, rfl, rfl, by decide, by decide, by decide +kernel⟩
def gLen (i : Nat) : Int32 := Int32.ofNat (gTn.getD i 0)
def gCh (i j : Nat) : Int32 := (gTb.getD i []).getD j 0
abbrev gV (G : gG) : Nat → Nat := G.2.2.2.2.2
theorem gLen_shr : ∀ i, i < 8 → gLen i >>> ((0 : Int32) &&& 31) = gLen i := by decide
theorem gCh_ok : ∀ i, i < 8 → ∀ j, j < gTn.getD i 0 → (((gCh i j) &&& (255 : Int32)).toUInt32 % 65536).toInt32 = gCh i j ∧ narrow .char (.int (gCh i j)) = .int (gCh i j) := by decide +kernel
theorem gTn_small : ∀ i, i < 8 → gTn.getD i 0 < 2 ^ 31 := by decide
section Texts
variable {X : gX} {cc : ByteArray} {own : String} {nL : Nat} {R0 : Room} {pc : Nat} {lo lo' : List (Nat × Value)} {st : List Value} {σ : gM}
theorem v_compact (hC : VC X cc RJ0 nL R0) (hd : decode cc pc = .ok (.getstatic 38, 3)) (k : V X nL (pc + 3) lo (.int 1 :: st) σ) : V X nL pc lo st σ := by
  obtain ⟨p, l, e, R, s, m, args, below, meth, c, G, A, cells, slots, Q⟩ := X
  obtain ⟨hx, hb, -, hw, hts, -, -, hF, -⟩ := hC
  exact fun H locs ls hP hS h => va_gets hx hb hF.2.2.2.1 hS hw (hts _ kw484) (fun _ h9 => h9) hd (k H locs ls hP hS h)
theorem v_sioobe (hC : VC X cc RJ0 nL R0) (hd : decode cc pc = .ok (.getstatic 1053, 3)) (k : ∀ v : Value, (v = .null ∨ ∃ t, v = .ref t) → V X nL (pc + 3) lo (v :: st) σ) : V X nL pc lo st σ := by
  obtain ⟨p, l, e, R, s, m, args, below, meth, c, G, A, cells, slots, Q⟩ := X
  obtain ⟨hx, hb, -, hw, hts, -, -, hF, -⟩ := hC
  rcases hF.2.2.2.2.1 with hZ | ⟨t, hZ⟩
  · exact fun H locs ls hP hS h => va_gets hx hb hZ hS hw (hts _ kw500) (fun _ h9 => h9) hd (k _ (Or.inl rfl) H locs ls hP hS h)
  · exact fun H locs ls hP hS h => va_gets hx hb hZ hS hw (hts _ kw500) (fun _ h9 => h9) hd (k _ (Or.inr ⟨t, rfl⟩) H locs ls hP hS h)
theorem v_tcoder (hC : VC X cc RJ0 nL R0) {i : Nat} (hi : i < 8) (hd : decode cc pc = .ok (.getfield 15, 3)) (k : V X nL (pc + 3) lo (.int 0 :: st) σ) : V X nL pc lo (.ref (gK (xG X) i) :: st) σ := by
  obtain ⟨p, l, e, R, s, m, args, below, meth, c, G, A, cells, slots, Q⟩ := X
  obtain ⟨hx, hb, -, hw, hts, -, -, hF, -⟩ := hC
  exact fun H locs ls hP hS h => vk_getf hx hb (hF.2.2.2.2.2.1.1 i hi).2.1 hS hw (hts _ kw1342) (fun _ h9 => h9) hd (k H locs ls hP hS h)
theorem v_tval (hC : VC X cc RJ0 nL R0) {i : Nat} (hi : i < 8) (hd : decode cc pc = .ok (.getfield 9, 3)) (k : V X nL (pc + 3) lo (.ref (gV (xG X) i) :: st) σ) : V X nL pc lo (.ref (gK (xG X) i) :: st) σ := by
  obtain ⟨p, l, e, R, s, m, args, below, meth, c, G, A, cells, slots, Q⟩ := X
  obtain ⟨hx, hb, -, hw, hts, -, -, hF, -⟩ := hC
  exact fun H locs ls hP hS h => vk_getf hx hb (hF.2.2.2.2.2.1.1 i hi).2.2.1 hS hw (hts _ kw1341) (fun _ h9 => h9) hd (k H locs ls hP hS h)
theorem v_tlen (hC : VC X cc own nL R0) {i : Nat} (hi : i < 8) (hd : decode cc pc = .ok (.arraylength, 1)) (k : V X nL (pc + 1) lo (.int (gLen i) :: st) σ) : V X nL pc lo (.ref (gV (xG X) i) :: st) σ := by
  obtain ⟨p, l, e, R, s, m, args, below, meth, c, G, A, cells, slots, Q⟩ := X
  obtain ⟨hx, hb, -, hw, hts, -, -, hF, -⟩ := hC
  exact fun H locs ls hP hS h => va_tlen hx hb (hF.2.2.2.2.2.1.1 i hi).2.2.2 hS rfl hd (k H locs ls hP hS h)
theorem v_tb (hC : VC X cc own nL R0) {i : Nat} {j : Int32} (hi : i < 8) (hin : vp_in j (gTn.getD i 0)) (hd : decode cc pc = .ok (.baload, 1)) (k : V X nL (pc + 1) lo (.int (gCh i j.toNatClampNeg) :: st) σ) : V X nL pc lo (.int j :: .ref (gV (xG X) i) :: st) σ := by
  obtain ⟨p, l, e, R, s, m, args, below, meth, c, G, A, cells, slots, Q⟩ := X
  obtain ⟨hx, hb, -, hw, hts, -, -, hF, -⟩ := hC
  exact fun H locs ls hP hS h => va_tb hx hb (hF.2.2.2.2.2.1.1 i hi).2.2.2 hS hin rfl hd (k H locs ls hP hS h)
end Texts
set_option maxHeartbeats 4000000 in
set_option maxRecDepth 100000 in
theorem kJS_coder {i : Nat} (hi : i < 8) (σ : gM) (Q : Int32 → gM → Prop) (h : Q 0 σ) : CT yJ0_coder_7d493 cJ0_coder_7d493 1 (some .byte) rmJS_coder (fun G => [.ref (gK G i)]) σ (gPi Q) := by
  refine c_enter (by decide) (fun _ => Nat.le_of_ble_eq_true rfl) (fun X hC hR => ?_)
  show V X 1 0 [(0, .ref (gK (xG X) i))] [] σ
  refine v_compact hC dJ0_coder_7d493_0 ?_
  refine v_if_eq hC 13 dJ0_coder_7d493_3 (by decide) (fun q => absurd q (by decide)) (fun _ => ?_)
  refine v_aload_n hC 0 dJ0_coder_7d493_6 rfl ?_
  refine v_tcoder hC hi dJ0_coder_7d493_7 ?_
  refine v_goto hC 14 dJ0_coder_7d493_10 (by decide) ?_
  exact v_zret hC hR rfl h dJ0_coder_7d493_14
set_option maxHeartbeats 4000000 in
set_option maxRecDepth 100000 in
theorem kJS_isLatin1 {i : Nat} (hi : i < 8) (σ : gM) (Q : Int32 → gM → Prop) (h : Q 1 σ) : CT yJ0_isLatin1_aae02 cJ0_isLatin1_aae02 1 (some .boolean) rmJS_isLatin1 (fun G => [.ref (gK G i)]) σ (gPi Q) := by
  refine c_enter (by decide) (fun _ => Nat.le_of_ble_eq_true rfl) (fun X hC hR => ?_)
  show V X 1 0 [(0, .ref (gK (xG X) i))] [] σ
  refine v_compact hC dJ0_isLatin1_aae02_0 ?_
  refine v_if_eq hC 17 dJ0_isLatin1_aae02_3 (by decide) (fun q => absurd q (by decide)) (fun _ => ?_)
  refine v_aload_n hC 0 dJ0_isLatin1_aae02_6 rfl ?_
  refine v_tcoder hC hi dJ0_isLatin1_aae02_7 ?_
  refine v_if_ne hC 17 dJ0_isLatin1_aae02_10 (by decide) (fun q => absurd rfl q) (fun _ => ?_)
  refine v_iconst hC (1 : Int32) dJ0_isLatin1_aae02_13 rfl ?_
  refine v_goto hC 18 dJ0_isLatin1_aae02_14 (by decide) ?_
  exact v_zret hC hR rfl h dJ0_isLatin1_aae02_18
set_option maxHeartbeats 4000000 in
set_option maxRecDepth 100000 in
theorem kJS_length {i : Nat} (hi : i < 8) (σ : gM) (Q : Int32 → gM → Prop) (h : Q (gLen i) σ) : CT yJ0_length_8abf5 cJ0_length_8abf5 1 (some .int) rmJS_length (fun G => [.ref (gK G i)]) σ (gPi Q) := by
  refine c_enter (by decide) (fun _ => Nat.le_of_ble_eq_true rfl) (fun X hC hR => ?_)
  show V X 1 0 [(0, .ref (gK (xG X) i))] [] σ
  refine v_aload_n hC 0 dJ0_length_8abf5_0 rfl ?_
  refine v_tval hC hi dJ0_length_8abf5_1 ?_
  refine v_tlen hC hi dJ0_length_8abf5_4 ?_
  refine v_aload_n hC 0 dJ0_length_8abf5_5 rfl ?_
  refine v_callT hC (kJS_coder hi σ (fun r σ' => r = 0 ∧ σ' = σ) ⟨rfl, rfl⟩) cmJS_coder ⟨kw481, kw482⟩ kw480 ⟨Nat.le_of_ble_eq_true rfl, Nat.le_of_ble_eq_true rfl⟩ hi rfl (As := fun _ => []) (fun _ => rfl) (fun _ => rfl) (st := [.int (gLen i)]) (Nat.le_of_ble_eq_true rfl) rfl dJ0_length_8abf5_6 (kk_i (fun r σ' hr => ?_))
  obtain ⟨rfl, rfl⟩ := hr
  refine v_ishr hC dJ0_length_8abf5_9 ?_
  rw [gLen_shr i hi]
  exact v_iret hC hR h dJ0_length_8abf5_10
set_option maxHeartbeats 4000000 in
set_option maxRecDepth 100000 in
theorem kJP_checkIndex {v : Value} (hv : v = .null ∨ ∃ t, v = .ref t) (a n : Int32) (σ : gM) (Q : Int32 → gM → Prop) (h0 : ¬ a < 0) (h1 : a < n) (h : Q a σ) : CT yJ3_checkIndex_8e157 cJ3_checkIndex_8e157 3 (some .int) rmJP_checkIndex (fun _ => [.int a, .int n, v]) σ (gPi Q) := by
  have hl : (lg_sl [Value.int a, .int n, v]).length ≤ 3 := by
    rcases hv with rfl | ⟨t, rfl⟩ <;> exact Nat.le_of_ble_eq_true rfl
  refine c_enter (by decide) (fun _ => hl) (fun X hC hR => ?_)
  show V X 3 0 [(0, .int a), (1, .int n), (2, v)] [] σ
  refine v_iload_n hC 0 dJ3_checkIndex_8e157_0 rfl ?_
  refine v_if_lt hC 9 dJ3_checkIndex_8e157_1 (by decide) (fun q => absurd q h0) (fun _ => ?_)
  refine v_iload_n hC 0 dJ3_checkIndex_8e157_4 rfl ?_
  refine v_iload_n hC 1 dJ3_checkIndex_8e157_5 rfl ?_
  refine v_icmp_lt hC 16 dJ3_checkIndex_8e157_6 (by decide) (fun _ => ?_) (fun q => absurd h1 q)
  refine v_iload_n hC 0 dJ3_checkIndex_8e157_16 rfl ?_
  exact v_iret hC hR h dJ3_checkIndex_8e157_17
set_option maxHeartbeats 4000000 in
set_option maxRecDepth 100000 in
theorem kJS_checkIndex (a n : Int32) (σ : gM) (Q : gM → Prop) (h0 : ¬ a < 0) (h1 : a < n) (h : Q σ) : CT yJ0_checkIndex_df160 cJ0_checkIndex_df160 2 none rmJS_checkIndex (fun _ => [.int a, .int n]) σ (gPv Q) := by
  refine c_enter (by decide) (fun _ => Nat.le_of_ble_eq_true rfl) (fun X hC hR => ?_)
  show V X 2 0 [(0, .int a), (1, .int n)] [] σ
  refine v_iload_n hC 0 dJ0_checkIndex_df160_0 rfl ?_
  refine v_iload_n hC 1 dJ0_checkIndex_df160_1 rfl ?_
  refine v_sioobe hC dJ0_checkIndex_df160_2 (fun v hv => ?_)
  refine v_callS hC (kJP_checkIndex hv a n σ (fun r σ' => r = a ∧ σ' = σ) h0 h1 ⟨rfl, rfl⟩) cmJP_checkIndex kw503 kw502 ⟨Nat.le_of_ble_eq_true rfl, Nat.le_of_ble_eq_true rfl⟩ (fun _ => rfl) (st := []) (Nat.le_of_ble_eq_true rfl) rfl dJ0_checkIndex_df160_5 (kk_i (fun r σ' hr => ?_))
  obtain ⟨rfl, rfl⟩ := hr
  refine v_pop hC dJ0_checkIndex_df160_8 rfl ?_
  exact v_vret hC hR h dJ0_checkIndex_df160_9
set_option maxHeartbeats 4000000 in
set_option maxRecDepth 100000 in
theorem kJL_charAt {i : Nat} (hi : i < 8) (j : Int32) (σ : gM) (Q : Int32 → gM → Prop) (hin : vp_in j (gTn.getD i 0)) (h : Q (gCh i j.toNatClampNeg) σ) : CT yJ1_charAt_3b067 cJ1_charAt_3b067 2 (some .char) rmJL_charAt (fun G => [.ref (gV G i), .int j]) σ (gPi Q) := by
  refine c_enter (by decide) (fun _ => Nat.le_of_ble_eq_true rfl) (fun X hC hR => ?_)
  show V X 2 0 [(0, .ref (gV (xG X) i)), (1, .int j)] [] σ
  have hjl : j.toNatClampNeg < gTn.getD i 0 := Nat.not_le.mp (fun q => hin (Or.inr q))
  have hlt : j < gLen i := by
    obtain ⟨k, hk, rfl⟩ := vp_in_of hin (gTn_small i hi)
    exact nI_lt hk (gTn_small i hi)
  refine v_iload_n hC 1 dJ1_charAt_3b067_0 rfl ?_
  refine v_aload_n hC 0 dJ1_charAt_3b067_1 rfl ?_
  refine v_tlen hC hi dJ1_charAt_3b067_2 ?_
  refine v_callS hC (kJS_checkIndex j (gLen i) σ (fun σ' => σ' = σ) (fun q => hin (Or.inl q)) hlt rfl) cmJS_checkIndex kw498 kw497 ⟨Nat.le_of_ble_eq_true rfl, Nat.le_of_ble_eq_true rfl⟩ (fun _ => rfl) (st := []) (Nat.le_of_ble_eq_true rfl) rfl dJ1_charAt_3b067_3 (kk_v (fun σ' hr => ?_))
  subst hr
  refine v_aload_n hC 0 dJ1_charAt_3b067_6 rfl ?_
  refine v_iload_n hC 1 dJ1_charAt_3b067_7 rfl ?_
  refine v_tb hC hi hin dJ1_charAt_3b067_8 ?_
  refine v_sipush hC (255 : Int32) dJ1_charAt_3b067_9 rfl ?_
  refine v_iand hC dJ1_charAt_3b067_12 ?_
  refine v_i2c hC dJ1_charAt_3b067_13 ?_
  rw [(gCh_ok i hi _ hjl).1]
  exact v_zret hC hR (gCh_ok i hi _ hjl).2 h dJ1_charAt_3b067_14
set_option maxHeartbeats 4000000 in
set_option maxRecDepth 100000 in
theorem kJS_charAt {i : Nat} (hi : i < 8) (j : Int32) (σ : gM) (Q : Int32 → gM → Prop) (hin : vp_in j (gTn.getD i 0)) (h : Q (gCh i j.toNatClampNeg) σ) : CT yJ0_charAt_5068e cJ0_charAt_5068e 2 (some .char) rmJS_charAt (fun G => [.ref (gK G i), .int j]) σ (gPi Q) := by
  refine c_enter (by decide) (fun _ => Nat.le_of_ble_eq_true rfl) (fun X hC hR => ?_)
  show V X 2 0 [(0, .ref (gK (xG X) i)), (1, .int j)] [] σ
  have hjl : j.toNatClampNeg < gTn.getD i 0 := Nat.not_le.mp (fun q => hin (Or.inr q))
  refine v_aload_n hC 0 dJ0_charAt_5068e_0 rfl ?_
  refine v_callT hC (kJS_isLatin1 hi σ (fun r σ' => r = 1 ∧ σ' = σ) ⟨rfl, rfl⟩) cmJS_isLatin1 ⟨kw491, kw492⟩ kw490 ⟨Nat.le_of_ble_eq_true rfl, Nat.le_of_ble_eq_true rfl⟩ hi rfl (As := fun _ => []) (fun _ => rfl) (fun _ => rfl) (st := []) (Nat.le_of_ble_eq_true rfl) rfl dJ0_charAt_5068e_1 (kk_i (fun r σ' hr => ?_))
  obtain ⟨rfl, rfl⟩ := hr
  refine v_if_eq hC 16 dJ0_charAt_5068e_4 (by decide) (fun q => absurd q (by decide)) (fun _ => ?_)
  refine v_aload_n hC 0 dJ0_charAt_5068e_7 rfl ?_
  refine v_tval hC hi dJ0_charAt_5068e_8 ?_
  refine v_iload_n hC 1 dJ0_charAt_5068e_11 rfl ?_
  refine v_callS hC (kJL_charAt hi j _ (fun r σ' => r = gCh i j.toNatClampNeg ∧ σ' = _) hin ⟨rfl, rfl⟩) cmJL_charAt kw495 kw494 ⟨Nat.le_of_ble_eq_true rfl, Nat.le_of_ble_eq_true rfl⟩ (fun _ => rfl) (st := []) (Nat.le_of_ble_eq_true rfl) rfl dJ0_charAt_5068e_12 (kk_i (fun r σ' hr => ?_))
  obtain ⟨rfl, rfl⟩ := hr
  exact v_zret hC hR (gCh_ok i hi _ hjl).2 h dJ0_charAt_5068e_15
theorem v_slen {X : gX} {cc : ByteArray} {own : String} {nL : Nat} {R0 : Room} {pc ix : Nat} {lo : List (Nat × Value)} {st : List Value} {σ : gM} (hC : VC X cc own nL R0) (i : Nat) (v : Int32) (hl : Cond.methodLink own ix yJ0_length_8abf5 ∈ wsA) (hi : i < 8) (hv : gLen i = v) (hr : rmJS_length.frames + 1 ≤ R0.frames ∧ 8 + (1 + 11) + rmJS_length.locals ≤ R0.locals) (hst : (st.map fun v => v.category).sum ≤ 8) (hd : decode cc pc = .ok (.invokevirtual ix, 3)) (k : V X nL (pc + 3) lo (.int v :: st) σ) : V X nL pc lo (.ref (gK (xG X) i) :: st) σ :=
  v_callT hC (kJS_length hi σ (fun r σ' => r = gLen i ∧ σ' = σ) ⟨rfl, rfl⟩) cmJS_length ⟨kw477, kw478⟩ hl hr hi rfl (As := fun _ => []) (fun _ => rfl) (fun _ => rfl) (st := st) hst rfl hd (kk_i (fun r σ' hq => by
    obtain ⟨rfl, rfl⟩ := hq
    rw [hv]
    exact k))
theorem v_schar {X : gX} {cc : ByteArray} {own : String} {nL : Nat} {R0 : Room} {pc ix : Nat} {lo : List (Nat × Value)} {st : List Value} {σ : gM} (hC : VC X cc own nL R0) (i : Nat) {j : Int32} (hl : Cond.methodLink own ix yJ0_charAt_5068e ∈ wsA) (hi : i < 8) (hin : vp_in j (gTn.getD i 0)) (hr : rmJS_charAt.frames + 1 ≤ R0.frames ∧ 8 + (2 + 11) + rmJS_charAt.locals ≤ R0.locals) (hst : (st.map fun v => v.category).sum ≤ 8) (hd : decode cc pc = .ok (.invokevirtual ix, 3)) (k : V X nL (pc + 3) lo (.int (gCh i j.toNatClampNeg) :: st) σ) : V X nL pc lo (.int j :: .ref (gK (xG X) i) :: st) σ :=
  v_callT hC (kJS_charAt hi j σ (fun r σ' => r = gCh i j.toNatClampNeg ∧ σ' = σ) hin ⟨rfl, rfl⟩) cmJS_charAt ⟨kw487, kw488⟩ hl hr hi rfl (As := fun _ => [.int j]) (fun _ => rfl) (fun _ => rfl) (st := st) hst rfl hd (kk_i (fun r σ' hq => by
    obtain ⟨rfl, rfl⟩ := hq
    exact k))
