def R_law : String := "HeapEndsLaw"
/-- the law's own end and start: as the skeleton has them -/
def lw_Q (_ : Array Value) (s : State) (o : Outcome) (t : State) : Prop := o = .returned (some (.int 1)) ∧ Framed s o t [] 600000 7302250
def lw_Z (below : List Frame) (a : Array Value) (s : State) : State → Prop := fun t => ∃ o, t.status = .running ∧ Ended t below o ∧ lw_Q a s o t
/-- the law's own end, with 1 on the stack, nothing written that was there before, its room as the claim has it -/
theorem lw_ret {p : Program} {l : Launch} {e : Env} {s : State} {m : MethodId} {below : List Frame} {meth : Method} {c : Code} {b : Nat} (hx : p.tables.exec = Jvm.exec) (hb : c.code = code) (hr : meth.sig.returnType = ret) (hlocks : meth.locks = false) {pc : Nat} {H : Heap} {ls : Array Slot} (hdg : decode code pc = .ok (.ireturn, 1)) : W p l e room_1 s m #[Value.ref b] below meth c H [] 600000 7302250 (lw_Z below #[Value.ref b] s) (F0 m pc ls [.int 1]) := by
  intro T hT X
  obtain ⟨fs, hret, hrun, hended, hW, hframe⟩ := X.leave (v := some (.int 1)) (hlocks := hlocks) (fun h => by rw [hr] at h; cases h)
  have hmeth' : T.vm.method? m = some meth := X.method'
  refine ⟨T.setFrames fs, ?_, .returned (some (.int 1)), hrun, hended, rfl, ⟨_, rfl⟩, hW, hframe⟩
  jvm_step X.here [X.here.top, hx, hb, hdg, hmeth', hr, ret, narrow_b1]
  (try refine ⟨rfl, ?_⟩); (try refine ⟨rfl, ?_⟩)
  first | (intro acts; rw [hret _ acts rfl rfl rfl]) | rw [hret _ _ rfl rfl rfl]
  exact Steps.refl _
/-- the walk's frame is the law's -/
def VL (X : gX) (b L : Nat) (xs : Nat → Int32) : Prop :=
  match X with
  | (_, _, _, _, s, _, args, below, meth, _, _, A, cells, slots, Q) => va_X b L xs s s.heap ∧ b < s.heap.size ∧ A = (fun q => s.heap.size ≤ q) ∧ args = #[Value.ref b] ∧ cells = 600000 ∧ slots = 7302250 ∧ Q = lw_Z below #[Value.ref b] s ∧ meth.sig.returnType = ret ∧ meth.locks = false
section LawRows
variable {X : gX} {cc : ByteArray} {own : String} {nL : Nat} {R0 : Room} {pc b L : Nat} {xs : Nat → Int32} {lo lo' : List (Nat × Value)} {st : List Value} {σ : gM}
theorem v_sldL (hC : VC X cc own nL R0) (hV : VL X b L xs) {i : Int32} (hin : vp_in i L) (hd : decode cc pc = .ok (.iaload, 1)) (k : V X nL (pc + 1) lo (.int (xs i.toNatClampNeg) :: st) σ) : V X nL pc lo (.int i :: .ref b :: st) σ := by
  obtain ⟨p, l, e, R, s, m, args, below, meth, c, G, A, cells, slots, Q⟩ := X
  obtain ⟨hX, hbl, rfl, -⟩ := hV
  exact fun H locs ls hP hS h => va_sld hC.1 hC.2.1 hX hbl (Nat.not_le.mpr hbl) hS hin hd (k H locs ls hP hS h)
theorem v_slenL (hC : VC X cc own nL R0) (hV : VL X b L xs) (hd : decode cc pc = .ok (.arraylength, 1)) (k : V X nL (pc + 1) lo (.int (Int32.ofNat L) :: st) σ) : V X nL pc lo (.ref b :: st) σ := by
  obtain ⟨p, l, e, R, s, m, args, below, meth, c, G, A, cells, slots, Q⟩ := X
  obtain ⟨hX, hbl, rfl, -⟩ := hV
  exact fun H locs ls hP hS h => va_slen hC.1 hC.2.1 hX hbl (Nat.not_le.mpr hbl) hS hd (k H locs ls hP hS h)
theorem v_lawret (hC : VC X cL_law own nL room_1) (hV : VL X b L xs) (hd : decode cL_law pc = .ok (.ireturn, 1)) : V X nL pc lo [.int (1 : Int32)] σ := by
  obtain ⟨p, l, e, R, s, m, args, below, meth, c, G, A, cells, slots, Q⟩ := X
  obtain ⟨hX, hbl, rfl, rfl, rfl, rfl, rfl, hr, hlk⟩ := hV
  obtain ⟨hx, hb, -, -, -, hR, -⟩ := hC
  have hR : R = room_1 := hR
  subst hR
  exact fun H locs ls hP hS h => va_forget (fun q hq => hS.2.2 q hq) (lw_ret hx hb hr hlk hd)
end LawRows
def wL_l18 (xs : Nat → Int32) (L : Nat) : Nat → Int32 → gM → Prop
  | 0, _, _ => False
  | n + 1, x3, σ =>
    (((Int32.ofNat L) - (nI 6)) < x3 → (True)) ∧ (¬ (((Int32.ofNat L) - (nI 6)) < x3) → (vp_in x3 L ∧ ((((xs x3.toNatClampNeg) &&& (nI 63)) = (nI 0) → (vp_in (x3 + (nI 1)) L ∧ (vp_in (x3 + (nI 2)) L ∧ (vp_in (x3 + (nI 3)) L ∧ (wH_row (xs (x3 + (nI 1)).toNatClampNeg) (xs (x3 + (nI 2)).toNatClampNeg) (xs (x3 + (nI 3)).toNatClampNeg) σ (fun (r8 : Int32) (σ8 : gM) => vp_in (x3 + (nI 1)) L ∧ (vp_in (x3 + (nI 2)) L ∧ (vp_in (x3 + (nI 3)) L ∧ (wM_row (xs (x3 + (nI 1)).toNatClampNeg) (xs (x3 + (nI 2)).toNatClampNeg) (xs (x3 + (nI 3)).toNatClampNeg) σ8 (fun (r13 : Int32) (σ13 : gM) => (r8 = r13 → (∀ x3_15 : Int32, x3_15 = x3 + (nI 6) → (wL_l18 xs L n x3_15 σ13))) ∧ (¬ (r8 = r13) → (False)))))))))))) ∧ (((xs x3.toNatClampNeg) &&& (nI 63)) = (nI 1) → (vp_in (x3 + (nI 1)) L ∧ (vp_in (x3 + (nI 2)) L ∧ (vp_in (x3 + (nI 3)) L ∧ (wH_set (xs (x3 + (nI 1)).toNatClampNeg) (xs (x3 + (nI 2)).toNatClampNeg) (xs (x3 + (nI 3)).toNatClampNeg) σ (fun (r20 : Int32) (σ20 : gM) => vp_in (x3 + (nI 1)) L ∧ (vp_in (x3 + (nI 2)) L ∧ (vp_in (x3 + (nI 3)) L ∧ (wM_set (xs (x3 + (nI 1)).toNatClampNeg) (xs (x3 + (nI 2)).toNatClampNeg) (xs (x3 + (nI 3)).toNatClampNeg) σ20 (fun (r25 : Int32) (σ25 : gM) => (r20 = r25 → (∀ x3_27 : Int32, x3_27 = x3 + (nI 6) → (wL_l18 xs L n x3_27 σ25))) ∧ (¬ (r20 = r25) → (False)))))))))))) ∧ (((xs x3.toNatClampNeg) &&& (nI 63)) = (nI 2) → (vp_in (x3 + (nI 1)) L ∧ (vp_in (x3 + (nI 2)) L ∧ (vp_in (x3 + (nI 3)) L ∧ (vp_in (x3 + (nI 4)) L ∧ (vp_in (x3 + (nI 5)) L ∧ (wH_copy (xs (x3 + (nI 1)).toNatClampNeg) (xs (x3 + (nI 2)).toNatClampNeg) (xs (x3 + (nI 3)).toNatClampNeg) (xs (x3 + (nI 4)).toNatClampNeg) (xs (x3 + (nI 5)).toNatClampNeg) σ (fun (r34 : Int32) (σ34 : gM) => vp_in (x3 + (nI 1)) L ∧ (vp_in (x3 + (nI 2)) L ∧ (vp_in (x3 + (nI 3)) L ∧ (vp_in (x3 + (nI 4)) L ∧ (vp_in (x3 + (nI 5)) L ∧ (wM_copy (xs (x3 + (nI 1)).toNatClampNeg) (xs (x3 + (nI 2)).toNatClampNeg) (xs (x3 + (nI 3)).toNatClampNeg) (xs (x3 + (nI 4)).toNatClampNeg) (xs (x3 + (nI 5)).toNatClampNeg) σ34 (fun (r41 : Int32) (σ41 : gM) => (r34 = r41 → (∀ x3_43 : Int32, x3_43 = x3 + (nI 6) → (wL_l18 xs L n x3_43 σ41))) ∧ (¬ (r34 = r41) → (False)))))))))))))))) ∧ (((xs x3.toNatClampNeg) &&& (nI 63)) = (nI 3) → (vp_in (x3 + (nI 1)) L ∧ (wH_drop (xs (x3 + (nI 1)).toNatClampNeg) σ (fun (r46 : Int32) (σ46 : gM) => vp_in (x3 + (nI 1)) L ∧ (wM_drop (xs (x3 + (nI 1)).toNatClampNeg) σ46 (fun (r49 : Int32) (σ49 : gM) => (r46 = r49 → (∀ x3_51 : Int32, x3_51 = x3 + (nI 6) → (wL_l18 xs L n x3_51 σ49))) ∧ (¬ (r46 = r49) → (False)))))))) ∧ (((xs x3.toNatClampNeg) &&& (nI 63)) = (nI 4) → (vp_in (x3 + (nI 1)) L ∧ (vp_in (x3 + (nI 2)) L ∧ (vp_in (x3 + (nI 3)) L ∧ (wH_feed ((((xs (x3 + (nI 1)).toNatClampNeg).toInt64) <<< ((nI 32).toInt64 &&& 63)) ||| (((xs (x3 + (nI 2)).toNatClampNeg).toInt64) &&& (4294967295 : Int64))) (xs (x3 + (nI 3)).toNatClampNeg) σ (fun (r56 : Int32) (σ56 : gM) => vp_in (x3 + (nI 1)) L ∧ (vp_in (x3 + (nI 2)) L ∧ (vp_in (x3 + (nI 3)) L ∧ (wM_feed ((((xs (x3 + (nI 1)).toNatClampNeg).toInt64) <<< ((nI 32).toInt64 &&& 63)) ||| (((xs (x3 + (nI 2)).toNatClampNeg).toInt64) &&& (4294967295 : Int64))) (xs (x3 + (nI 3)).toNatClampNeg) σ56 (fun (r61 : Int32) (σ61 : gM) => (r56 = r61 → (∀ x3_63 : Int32, x3_63 = x3 + (nI 6) → (wL_l18 xs L n x3_63 σ61))) ∧ (¬ (r56 = r61) → (False)))))))))))) ∧ (((xs x3.toNatClampNeg) &&& (nI 63)) = (nI 5) → (wH_market  σ (fun (r65 : Int32) (σ65 : gM) => wM_market  σ65 (fun (r67 : Int32) (σ67 : gM) => (r65 = r67 → (∀ x3_69 : Int32, x3_69 = x3 + (nI 6) → (wL_l18 xs L n x3_69 σ67))) ∧ (¬ (r65 = r67) → (False)))))) ∧ (((xs x3.toNatClampNeg) &&& (nI 63)) = (nI 6) → (wH_fault  σ (fun (r71 : Int32) (σ71 : gM) => wM_fault  σ71 (fun (r73 : Int32) (σ73 : gM) => (r71 = r73 → (∀ x3_75 : Int32, x3_75 = x3 + (nI 6) → (wL_l18 xs L n x3_75 σ73))) ∧ (¬ (r71 = r73) → (False)))))) ∧ (((xs x3.toNatClampNeg) &&& (nI 63)) = (nI 7) → (vp_in (x3 + (nI 1)) L ∧ (vp_in (x3 + (nI 2)) L ∧ (wH_take (xs (x3 + (nI 1)).toNatClampNeg) (xs (x3 + (nI 2)).toNatClampNeg) σ (fun (r79 : Int32) (σ79 : gM) => vp_in (x3 + (nI 1)) L ∧ (vp_in (x3 + (nI 2)) L ∧ (wM_take (xs (x3 + (nI 1)).toNatClampNeg) (xs (x3 + (nI 2)).toNatClampNeg) σ79 (fun (r83 : Int32) (σ83 : gM) => (r79 = r83 → (∀ x3_85 : Int32, x3_85 = x3 + (nI 6) → (wL_l18 xs L n x3_85 σ83))) ∧ (¬ (r79 = r83) → (False)))))))))) ∧ (((xs x3.toNatClampNeg) &&& (nI 63)) = (nI 8) → (vp_in (x3 + (nI 1)) L ∧ (vp_in (x3 + (nI 2)) L ∧ (vp_in (x3 + (nI 3)) L ∧ (wH_lay (xs (x3 + (nI 1)).toNatClampNeg) (xs (x3 + (nI 2)).toNatClampNeg) (xs (x3 + (nI 3)).toNatClampNeg) σ (fun (r90 : Int32) (σ90 : gM) => vp_in (x3 + (nI 1)) L ∧ (vp_in (x3 + (nI 2)) L ∧ (vp_in (x3 + (nI 3)) L ∧ (wM_lay (xs (x3 + (nI 1)).toNatClampNeg) (xs (x3 + (nI 2)).toNatClampNeg) (xs (x3 + (nI 3)).toNatClampNeg) σ90 (fun (r95 : Int32) (σ95 : gM) => (r90 = r95 → (∀ x3_97 : Int32, x3_97 = x3 + (nI 6) → (wL_l18 xs L n x3_97 σ95))) ∧ (¬ (r90 = r95) → (False)))))))))))) ∧ (((xs x3.toNatClampNeg) &&& (nI 63)) = (nI 9) → (wH_day  σ (fun (r99 : Int32) (σ99 : gM) => wM_day  σ99 (fun (r101 : Int32) (σ101 : gM) => (r99 = r101 → (∀ x3_103 : Int32, x3_103 = x3 + (nI 6) → (wL_l18 xs L n x3_103 σ101))) ∧ (¬ (r99 = r101) → (False)))))) ∧ (((xs x3.toNatClampNeg) &&& (nI 63)) = (nI 10) → (wH_undo  σ (fun (r105 : Int32) (σ105 : gM) => wM_undo  σ105 (fun (r107 : Int32) (σ107 : gM) => (r105 = r107 → (∀ x3_109 : Int32, x3_109 = x3 + (nI 6) → (wL_l18 xs L n x3_109 σ107))) ∧ (¬ (r105 = r107) → (False)))))) ∧ (((xs x3.toNatClampNeg) &&& (nI 63)) = (nI 11) → (vp_in (x3 + (nI 1)) L ∧ (vp_in (x3 + (nI 2)) L ∧ (wH_ware (xs (x3 + (nI 1)).toNatClampNeg) (xs (x3 + (nI 2)).toNatClampNeg) σ (fun (r113 : Int32) (σ113 : gM) => vp_in (x3 + (nI 1)) L ∧ (vp_in (x3 + (nI 2)) L ∧ (wM_ware (xs (x3 + (nI 1)).toNatClampNeg) (xs (x3 + (nI 2)).toNatClampNeg) σ113 (fun (r117 : Int32) (σ117 : gM) => (r113 = r117 → (∀ x3_119 : Int32, x3_119 = x3 + (nI 6) → (wL_l18 xs L n x3_119 σ117))) ∧ (¬ (r113 = r117) → (False)))))))))) ∧ (((xs x3.toNatClampNeg) &&& (nI 63)) = (nI 12) → (vp_in (x3 + (nI 1)) L ∧ (vp_in (x3 + (nI 2)) L ∧ (wH_buyer (xs (x3 + (nI 1)).toNatClampNeg) (xs (x3 + (nI 2)).toNatClampNeg) σ (fun (r123 : Int32) (σ123 : gM) => vp_in (x3 + (nI 1)) L ∧ (vp_in (x3 + (nI 2)) L ∧ (wM_buyer (xs (x3 + (nI 1)).toNatClampNeg) (xs (x3 + (nI 2)).toNatClampNeg) σ123 (fun (r127 : Int32) (σ127 : gM) => (r123 = r127 → (∀ x3_129 : Int32, x3_129 = x3 + (nI 6) → (wL_l18 xs L n x3_129 σ127))) ∧ (¬ (r123 = r127) → (False)))))))))) ∧ (((xs x3.toNatClampNeg) &&& (nI 63)) = (nI 13) → (vp_in (x3 + (nI 1)) L ∧ (vp_in (x3 + (nI 2)) L ∧ (wH_worth (xs (x3 + (nI 1)).toNatClampNeg) (xs (x3 + (nI 2)).toNatClampNeg) σ (fun (r133 : Int32) (σ133 : gM) => vp_in (x3 + (nI 1)) L ∧ (vp_in (x3 + (nI 2)) L ∧ (wM_worth (xs (x3 + (nI 1)).toNatClampNeg) (xs (x3 + (nI 2)).toNatClampNeg) σ133 (fun (r137 : Int32) (σ137 : gM) => (r133 = r137 → (∀ x3_139 : Int32, x3_139 = x3 + (nI 6) → (wL_l18 xs L n x3_139 σ137))) ∧ (¬ (r133 = r137) → (False)))))))))) ∧ (((xs x3.toNatClampNeg) &&& (nI 63)) = (nI 14) → (vp_in (x3 + (nI 1)) L ∧ (vp_in (x3 + (nI 2)) L ∧ (vp_in (x3 + (nI 3)) L ∧ (wH_best (xs (x3 + (nI 1)).toNatClampNeg) (xs (x3 + (nI 2)).toNatClampNeg) (xs (x3 + (nI 3)).toNatClampNeg) σ (fun (r144 : Int32) (σ144 : gM) => vp_in (x3 + (nI 1)) L ∧ (vp_in (x3 + (nI 2)) L ∧ (vp_in (x3 + (nI 3)) L ∧ (wM_best (xs (x3 + (nI 1)).toNatClampNeg) (xs (x3 + (nI 2)).toNatClampNeg) (xs (x3 + (nI 3)).toNatClampNeg) σ144 (fun (r149 : Int32) (σ149 : gM) => (r144 = r149 → (∀ x3_151 : Int32, x3_151 = x3 + (nI 6) → (wL_l18 xs L n x3_151 σ149))) ∧ (¬ (r144 = r149) → (False)))))))))))) ∧ (((xs x3.toNatClampNeg) &&& (nI 63)) = (nI 15) → (vp_in (x3 + (nI 1)) L ∧ (vp_in (x3 + (nI 2)) L ∧ (wH_passBy (xs (x3 + (nI 1)).toNatClampNeg) (xs (x3 + (nI 2)).toNatClampNeg) σ (fun (r155 : Int32) (σ155 : gM) => vp_in (x3 + (nI 1)) L ∧ (vp_in (x3 + (nI 2)) L ∧ (wM_passBy (xs (x3 + (nI 1)).toNatClampNeg) (xs (x3 + (nI 2)).toNatClampNeg) σ155 (fun (r159 : Int32) (σ159 : gM) => (r155 = r159 → (∀ x3_161 : Int32, x3_161 = x3 + (nI 6) → (wL_l18 xs L n x3_161 σ159))) ∧ (¬ (r155 = r159) → (False)))))))))) ∧ (((xs x3.toNatClampNeg) &&& (nI 63)) = (nI 16) → (vp_in (x3 + (nI 1)) L ∧ (vp_in (x3 + (nI 2)) L ∧ (vp_in (x3 + (nI 3)) L ∧ (wH_laid (xs (x3 + (nI 1)).toNatClampNeg) (xs (x3 + (nI 2)).toNatClampNeg) (xs (x3 + (nI 3)).toNatClampNeg) σ (fun (r166 : Int32) (σ166 : gM) => vp_in (x3 + (nI 1)) L ∧ (vp_in (x3 + (nI 2)) L ∧ (vp_in (x3 + (nI 3)) L ∧ (wM_laid (xs (x3 + (nI 1)).toNatClampNeg) (xs (x3 + (nI 2)).toNatClampNeg) (xs (x3 + (nI 3)).toNatClampNeg) σ166 (fun (r171 : Int32) (σ171 : gM) => (r166 = r171 → (∀ x3_173 : Int32, x3_173 = x3 + (nI 6) → (wL_l18 xs L n x3_173 σ171))) ∧ (¬ (r166 = r171) → (False)))))))))))) ∧ (((xs x3.toNatClampNeg) &&& (nI 63)) = (nI 17) → (vp_in (x3 + (nI 1)) L ∧ (vp_in (x3 + (nI 2)) L ∧ (vp_in (x3 + (nI 3)) L ∧ (wH_ring (xs (x3 + (nI 1)).toNatClampNeg) (xs (x3 + (nI 2)).toNatClampNeg) (xs (x3 + (nI 3)).toNatClampNeg) σ (fun (r178 : Int32) (σ178 : gM) => vp_in (x3 + (nI 1)) L ∧ (vp_in (x3 + (nI 2)) L ∧ (vp_in (x3 + (nI 3)) L ∧ (wM_ring (xs (x3 + (nI 1)).toNatClampNeg) (xs (x3 + (nI 2)).toNatClampNeg) (xs (x3 + (nI 3)).toNatClampNeg) σ178 (fun (r183 : Int32) (σ183 : gM) => (r178 = r183 → (∀ x3_185 : Int32, x3_185 = x3 + (nI 6) → (wL_l18 xs L n x3_185 σ183))) ∧ (¬ (r178 = r183) → (False)))))))))))) ∧ (((xs x3.toNatClampNeg) &&& (nI 63)) = (nI 18) → (vp_in (x3 + (nI 1)) L ∧ (vp_in (x3 + (nI 2)) L ∧ (vp_in (x3 + (nI 3)) L ∧ (vp_in (x3 + (nI 4)) L ∧ (wH_line (xs (x3 + (nI 1)).toNatClampNeg) (xs (x3 + (nI 2)).toNatClampNeg) (xs (x3 + (nI 3)).toNatClampNeg) (xs (x3 + (nI 4)).toNatClampNeg) σ (fun (r191 : Int32) (σ191 : gM) => vp_in (x3 + (nI 1)) L ∧ (vp_in (x3 + (nI 2)) L ∧ (vp_in (x3 + (nI 3)) L ∧ (vp_in (x3 + (nI 4)) L ∧ (wM_line (xs (x3 + (nI 1)).toNatClampNeg) (xs (x3 + (nI 2)).toNatClampNeg) (xs (x3 + (nI 3)).toNatClampNeg) (xs (x3 + (nI 4)).toNatClampNeg) σ191 (fun (r197 : Int32) (σ197 : gM) => (r191 = r197 → (∀ x3_199 : Int32, x3_199 = x3 + (nI 6) → (wL_l18 xs L n x3_199 σ197))) ∧ (¬ (r191 = r197) → (False)))))))))))))) ∧ (((xs x3.toNatClampNeg) &&& (nI 63)) = (nI 19) → (vp_in (x3 + (nI 1)) L ∧ (vp_in (x3 + (nI 2)) L ∧ (wH_rots (xs (x3 + (nI 1)).toNatClampNeg) (xs (x3 + (nI 2)).toNatClampNeg) σ (fun (r203 : Int32) (σ203 : gM) => vp_in (x3 + (nI 1)) L ∧ (vp_in (x3 + (nI 2)) L ∧ (wM_rots (xs (x3 + (nI 1)).toNatClampNeg) (xs (x3 + (nI 2)).toNatClampNeg) σ203 (fun (r207 : Int32) (σ207 : gM) => (r203 = r207 → (∀ x3_209 : Int32, x3_209 = x3 + (nI 6) → (wL_l18 xs L n x3_209 σ207))) ∧ (¬ (r203 = r207) → (False)))))))))) ∧ (((xs x3.toNatClampNeg) &&& (nI 63)) = (nI 20) → (vp_in (x3 + (nI 1)) L ∧ (vp_in (x3 + (nI 2)) L ∧ (wH_reach (xs (x3 + (nI 1)).toNatClampNeg) (xs (x3 + (nI 2)).toNatClampNeg) σ (fun (r213 : Int32) (σ213 : gM) => vp_in (x3 + (nI 1)) L ∧ (vp_in (x3 + (nI 2)) L ∧ (wM_reach (xs (x3 + (nI 1)).toNatClampNeg) (xs (x3 + (nI 2)).toNatClampNeg) σ213 (fun (r217 : Int32) (σ217 : gM) => (r213 = r217 → (∀ x3_219 : Int32, x3_219 = x3 + (nI 6) → (wL_l18 xs L n x3_219 σ217))) ∧ (¬ (r213 = r217) → (False)))))))))) ∧ (((xs x3.toNatClampNeg) &&& (nI 63)) = (nI 21) → (vp_in (x3 + (nI 1)) L ∧ (vp_in (x3 + (nI 2)) L ∧ (wH_harvest (xs (x3 + (nI 1)).toNatClampNeg) (xs (x3 + (nI 2)).toNatClampNeg) σ (fun (r223 : Int32) (σ223 : gM) => vp_in (x3 + (nI 1)) L ∧ (vp_in (x3 + (nI 2)) L ∧ (wM_harvest (xs (x3 + (nI 1)).toNatClampNeg) (xs (x3 + (nI 2)).toNatClampNeg) σ223 (fun (r227 : Int32) (σ227 : gM) => (r223 = r227 → (∀ x3_229 : Int32, x3_229 = x3 + (nI 6) → (wL_l18 xs L n x3_229 σ227))) ∧ (¬ (r223 = r227) → (False)))))))))) ∧ (((xs x3.toNatClampNeg) &&& (nI 63)) = (nI 22) → (vp_in (x3 + (nI 1)) L ∧ (vp_in (x3 + (nI 2)) L ∧ (vp_in (x3 + (nI 3)) L ∧ (wH_judge (xs (x3 + (nI 1)).toNatClampNeg) (xs (x3 + (nI 2)).toNatClampNeg) (xs (x3 + (nI 3)).toNatClampNeg) σ (fun (r234 : Int32) (σ234 : gM) => vp_in (x3 + (nI 1)) L ∧ (vp_in (x3 + (nI 2)) L ∧ (vp_in (x3 + (nI 3)) L ∧ (wM_judge (xs (x3 + (nI 1)).toNatClampNeg) (xs (x3 + (nI 2)).toNatClampNeg) (xs (x3 + (nI 3)).toNatClampNeg) σ234 (fun (r239 : Int32) (σ239 : gM) => (r234 = r239 → (∀ x3_241 : Int32, x3_241 = x3 + (nI 6) → (wL_l18 xs L n x3_241 σ239))) ∧ (¬ (r234 = r239) → (False)))))))))))) ∧ (((xs x3.toNatClampNeg) &&& (nI 63)) = (nI 23) → (vp_in (x3 + (nI 1)) L ∧ (vp_in (x3 + (nI 2)) L ∧ (vp_in (x3 + (nI 3)) L ∧ (vp_in (x3 + (nI 4)) L ∧ (vp_in (x3 + (nI 5)) L ∧ (wH_heard (xs (x3 + (nI 1)).toNatClampNeg) (xs (x3 + (nI 2)).toNatClampNeg) (xs (x3 + (nI 3)).toNatClampNeg) (xs (x3 + (nI 4)).toNatClampNeg) (xs (x3 + (nI 5)).toNatClampNeg) σ (fun (r248 : Int32) (σ248 : gM) => vp_in (x3 + (nI 1)) L ∧ (vp_in (x3 + (nI 2)) L ∧ (vp_in (x3 + (nI 3)) L ∧ (vp_in (x3 + (nI 4)) L ∧ (vp_in (x3 + (nI 5)) L ∧ (wM_heard (xs (x3 + (nI 1)).toNatClampNeg) (xs (x3 + (nI 2)).toNatClampNeg) (xs (x3 + (nI 3)).toNatClampNeg) (xs (x3 + (nI 4)).toNatClampNeg) (xs (x3 + (nI 5)).toNatClampNeg) σ248 (fun (r255 : Int32) (σ255 : gM) => (r248 = r255 → (∀ x3_257 : Int32, x3_257 = x3 + (nI 6) → (wL_l18 xs L n x3_257 σ255))) ∧ (¬ (r248 = r255) → (False)))))))))))))))) ∧ (((xs x3.toNatClampNeg) &&& (nI 63)) = (nI 24) → (vp_in (x3 + (nI 1)) L ∧ (vp_in (x3 + (nI 2)) L ∧ (vp_in (x3 + (nI 3)) L ∧ (wH_apart (xs (x3 + (nI 1)).toNatClampNeg) (xs (x3 + (nI 2)).toNatClampNeg) (xs (x3 + (nI 3)).toNatClampNeg) σ (fun (r262 : Int32) (σ262 : gM) => vp_in (x3 + (nI 1)) L ∧ (vp_in (x3 + (nI 2)) L ∧ (vp_in (x3 + (nI 3)) L ∧ (wM_apart (xs (x3 + (nI 1)).toNatClampNeg) (xs (x3 + (nI 2)).toNatClampNeg) (xs (x3 + (nI 3)).toNatClampNeg) σ262 (fun (r267 : Int32) (σ267 : gM) => (r262 = r267 → (∀ x3_269 : Int32, x3_269 = x3 + (nI 6) → (wL_l18 xs L n x3_269 σ267))) ∧ (¬ (r262 = r267) → (False)))))))))))) ∧ (((xs x3.toNatClampNeg) &&& (nI 63)) = (nI 25) → (vp_in (x3 + (nI 1)) L ∧ (wH_image (xs (x3 + (nI 1)).toNatClampNeg) σ (fun (r272 : Int32) (σ272 : gM) => vp_in (x3 + (nI 1)) L ∧ (wM_image (xs (x3 + (nI 1)).toNatClampNeg) σ272 (fun (r275 : Int32) (σ275 : gM) => (r272 = r275 → (∀ x3_277 : Int32, x3_277 = x3 + (nI 6) → (wL_l18 xs L n x3_277 σ275))) ∧ (¬ (r272 = r275) → (False)))))))) ∧ (((xs x3.toNatClampNeg) &&& (nI 63)) = (nI 26) → (vp_in (x3 + (nI 1)) L ∧ (wH_restore (xs (x3 + (nI 1)).toNatClampNeg) σ (fun (r280 : Int32) (σ280 : gM) => vp_in (x3 + (nI 1)) L ∧ (wM_restore (xs (x3 + (nI 1)).toNatClampNeg) σ280 (fun (r283 : Int32) (σ283 : gM) => (r280 = r283 → (∀ x3_285 : Int32, x3_285 = x3 + (nI 6) → (wL_l18 xs L n x3_285 σ283))) ∧ (¬ (r280 = r283) → (False)))))))) ∧ (((xs x3.toNatClampNeg) &&& (nI 63)) = (nI 27) → (vp_in (x3 + (nI 1)) L ∧ (wH_kind (xs (x3 + (nI 1)).toNatClampNeg) σ (fun (r288 : Int32) (σ288 : gM) => vp_in (x3 + (nI 1)) L ∧ (wM_kind (xs (x3 + (nI 1)).toNatClampNeg) σ288 (fun (r291 : Int32) (σ291 : gM) => (r288 = r291 → (∀ x3_293 : Int32, x3_293 = x3 + (nI 6) → (wL_l18 xs L n x3_293 σ291))) ∧ (¬ (r288 = r291) → (False)))))))) ∧ (((xs x3.toNatClampNeg) &&& (nI 63)) = (nI 28) → (vp_in (x3 + (nI 1)) L ∧ (vp_in (x3 + (nI 2)) L ∧ (wH_as (xs (x3 + (nI 1)).toNatClampNeg) (xs (x3 + (nI 2)).toNatClampNeg) σ (fun (r297 : Int32) (σ297 : gM) => vp_in (x3 + (nI 1)) L ∧ (vp_in (x3 + (nI 2)) L ∧ (wM_as (xs (x3 + (nI 1)).toNatClampNeg) (xs (x3 + (nI 2)).toNatClampNeg) σ297 (fun (r301 : Int32) (σ301 : gM) => (r297 = r301 → (∀ x3_303 : Int32, x3_303 = x3 + (nI 6) → (wL_l18 xs L n x3_303 σ301))) ∧ (¬ (r297 = r301) → (False)))))))))) ∧ (((xs x3.toNatClampNeg) &&& (nI 63)) = (nI 29) → (vp_in (x3 + (nI 1)) L ∧ (vp_in (x3 + (nI 2)) L ∧ (wH_ask (xs (x3 + (nI 1)).toNatClampNeg) (xs (x3 + (nI 2)).toNatClampNeg) σ (fun (r307 : Int32) (σ307 : gM) => vp_in (x3 + (nI 1)) L ∧ (vp_in (x3 + (nI 2)) L ∧ (wM_ask (xs (x3 + (nI 1)).toNatClampNeg) (xs (x3 + (nI 2)).toNatClampNeg) σ307 (fun (r311 : Int32) (σ311 : gM) => (r307 = r311 → (∀ x3_313 : Int32, x3_313 = x3 + (nI 6) → (wL_l18 xs L n x3_313 σ311))) ∧ (¬ (r307 = r311) → (False)))))))))) ∧ (((xs x3.toNatClampNeg) &&& (nI 63)) = (nI 30) → (vp_in (x3 + (nI 1)) L ∧ (wH_trace (xs (x3 + (nI 1)).toNatClampNeg) σ (fun (r316 : Int32) (σ316 : gM) => vp_in (x3 + (nI 1)) L ∧ (wM_trace (xs (x3 + (nI 1)).toNatClampNeg) σ316 (fun (r319 : Int32) (σ319 : gM) => (r316 = r319 → (∀ x3_321 : Int32, x3_321 = x3 + (nI 6) → (wL_l18 xs L n x3_321 σ319))) ∧ (¬ (r316 = r319) → (False)))))))) ∧ (((xs x3.toNatClampNeg) &&& (nI 63)) = (nI 31) → (vp_in (x3 + (nI 1)) L ∧ (wH_count (xs (x3 + (nI 1)).toNatClampNeg) σ (fun (r324 : Int32) (σ324 : gM) => vp_in (x3 + (nI 1)) L ∧ (wM_count (xs (x3 + (nI 1)).toNatClampNeg) σ324 (fun (r327 : Int32) (σ327 : gM) => (r324 = r327 → (∀ x3_329 : Int32, x3_329 = x3 + (nI 6) → (wL_l18 xs L n x3_329 σ327))) ∧ (¬ (r324 = r327) → (False)))))))) ∧ (((xs x3.toNatClampNeg) &&& (nI 63)) = (nI 32) → (wH_status  σ (fun (r331 : Int32) (σ331 : gM) => wM_status  σ331 (fun (r333 : Int32) (σ333 : gM) => (r331 = r333 → (∀ x3_335 : Int32, x3_335 = x3 + (nI 6) → (wL_l18 xs L n x3_335 σ333))) ∧ (¬ (r331 = r333) → (False)))))) ∧ ((¬ ((xs x3.toNatClampNeg) &&& (nI 63)) = (nI 0) ∧ ¬ ((xs x3.toNatClampNeg) &&& (nI 63)) = (nI 1) ∧ ¬ ((xs x3.toNatClampNeg) &&& (nI 63)) = (nI 2) ∧ ¬ ((xs x3.toNatClampNeg) &&& (nI 63)) = (nI 3) ∧ ¬ ((xs x3.toNatClampNeg) &&& (nI 63)) = (nI 4) ∧ ¬ ((xs x3.toNatClampNeg) &&& (nI 63)) = (nI 5) ∧ ¬ ((xs x3.toNatClampNeg) &&& (nI 63)) = (nI 6) ∧ ¬ ((xs x3.toNatClampNeg) &&& (nI 63)) = (nI 7) ∧ ¬ ((xs x3.toNatClampNeg) &&& (nI 63)) = (nI 8) ∧ ¬ ((xs x3.toNatClampNeg) &&& (nI 63)) = (nI 9) ∧ ¬ ((xs x3.toNatClampNeg) &&& (nI 63)) = (nI 10) ∧ ¬ ((xs x3.toNatClampNeg) &&& (nI 63)) = (nI 11) ∧ ¬ ((xs x3.toNatClampNeg) &&& (nI 63)) = (nI 12) ∧ ¬ ((xs x3.toNatClampNeg) &&& (nI 63)) = (nI 13) ∧ ¬ ((xs x3.toNatClampNeg) &&& (nI 63)) = (nI 14) ∧ ¬ ((xs x3.toNatClampNeg) &&& (nI 63)) = (nI 15) ∧ ¬ ((xs x3.toNatClampNeg) &&& (nI 63)) = (nI 16) ∧ ¬ ((xs x3.toNatClampNeg) &&& (nI 63)) = (nI 17) ∧ ¬ ((xs x3.toNatClampNeg) &&& (nI 63)) = (nI 18) ∧ ¬ ((xs x3.toNatClampNeg) &&& (nI 63)) = (nI 19) ∧ ¬ ((xs x3.toNatClampNeg) &&& (nI 63)) = (nI 20) ∧ ¬ ((xs x3.toNatClampNeg) &&& (nI 63)) = (nI 21) ∧ ¬ ((xs x3.toNatClampNeg) &&& (nI 63)) = (nI 22) ∧ ¬ ((xs x3.toNatClampNeg) &&& (nI 63)) = (nI 23) ∧ ¬ ((xs x3.toNatClampNeg) &&& (nI 63)) = (nI 24) ∧ ¬ ((xs x3.toNatClampNeg) &&& (nI 63)) = (nI 25) ∧ ¬ ((xs x3.toNatClampNeg) &&& (nI 63)) = (nI 26) ∧ ¬ ((xs x3.toNatClampNeg) &&& (nI 63)) = (nI 27) ∧ ¬ ((xs x3.toNatClampNeg) &&& (nI 63)) = (nI 28) ∧ ¬ ((xs x3.toNatClampNeg) &&& (nI 63)) = (nI 29) ∧ ¬ ((xs x3.toNatClampNeg) &&& (nI 63)) = (nI 30) ∧ ¬ ((xs x3.toNatClampNeg) &&& (nI 63)) = (nI 31) ∧ ¬ ((xs x3.toNatClampNeg) &&& (nI 63)) = (nI 32)) → (∀ x3_336 : Int32, x3_336 = x3 + (nI 6) → (wL_l18 xs L n x3_336 σ))))))
set_option maxHeartbeats 4000000 in
set_option maxRecDepth 100000 in
theorem tL_l18 {X : gX} {b L : Nat} {xs : Nat → Int32} (hC : VC X cL_law RL 4 room_1) (hV : VL X b L xs) : ∀ (n : Nat) (x3 : Int32) (σ : gM), wL_l18 xs L n x3 σ → V X 4 18 [(0, .ref b), (1, .ref (xad X 0)), (2, .ref (xad X 82)), (3, .int x3)] [] σ := by
  intro n
  induction n with
  | zero => intro x3 σ h; exact h.elim
  | succ n ih =>
    intro x3 σ h
    replace h : (((Int32.ofNat L) - (nI 6)) < x3 → (True)) ∧ (¬ (((Int32.ofNat L) - (nI 6)) < x3) → (vp_in x3 L ∧ ((((xs x3.toNatClampNeg) &&& (nI 63)) = (nI 0) → (vp_in (x3 + (nI 1)) L ∧ (vp_in (x3 + (nI 2)) L ∧ (vp_in (x3 + (nI 3)) L ∧ (wH_row (xs (x3 + (nI 1)).toNatClampNeg) (xs (x3 + (nI 2)).toNatClampNeg) (xs (x3 + (nI 3)).toNatClampNeg) σ (fun (r8 : Int32) (σ8 : gM) => vp_in (x3 + (nI 1)) L ∧ (vp_in (x3 + (nI 2)) L ∧ (vp_in (x3 + (nI 3)) L ∧ (wM_row (xs (x3 + (nI 1)).toNatClampNeg) (xs (x3 + (nI 2)).toNatClampNeg) (xs (x3 + (nI 3)).toNatClampNeg) σ8 (fun (r13 : Int32) (σ13 : gM) => (r8 = r13 → (∀ x3_15 : Int32, x3_15 = x3 + (nI 6) → (wL_l18 xs L n x3_15 σ13))) ∧ (¬ (r8 = r13) → (False)))))))))))) ∧ (((xs x3.toNatClampNeg) &&& (nI 63)) = (nI 1) → (vp_in (x3 + (nI 1)) L ∧ (vp_in (x3 + (nI 2)) L ∧ (vp_in (x3 + (nI 3)) L ∧ (wH_set (xs (x3 + (nI 1)).toNatClampNeg) (xs (x3 + (nI 2)).toNatClampNeg) (xs (x3 + (nI 3)).toNatClampNeg) σ (fun (r20 : Int32) (σ20 : gM) => vp_in (x3 + (nI 1)) L ∧ (vp_in (x3 + (nI 2)) L ∧ (vp_in (x3 + (nI 3)) L ∧ (wM_set (xs (x3 + (nI 1)).toNatClampNeg) (xs (x3 + (nI 2)).toNatClampNeg) (xs (x3 + (nI 3)).toNatClampNeg) σ20 (fun (r25 : Int32) (σ25 : gM) => (r20 = r25 → (∀ x3_27 : Int32, x3_27 = x3 + (nI 6) → (wL_l18 xs L n x3_27 σ25))) ∧ (¬ (r20 = r25) → (False)))))))))))) ∧ (((xs x3.toNatClampNeg) &&& (nI 63)) = (nI 2) → (vp_in (x3 + (nI 1)) L ∧ (vp_in (x3 + (nI 2)) L ∧ (vp_in (x3 + (nI 3)) L ∧ (vp_in (x3 + (nI 4)) L ∧ (vp_in (x3 + (nI 5)) L ∧ (wH_copy (xs (x3 + (nI 1)).toNatClampNeg) (xs (x3 + (nI 2)).toNatClampNeg) (xs (x3 + (nI 3)).toNatClampNeg) (xs (x3 + (nI 4)).toNatClampNeg) (xs (x3 + (nI 5)).toNatClampNeg) σ (fun (r34 : Int32) (σ34 : gM) => vp_in (x3 + (nI 1)) L ∧ (vp_in (x3 + (nI 2)) L ∧ (vp_in (x3 + (nI 3)) L ∧ (vp_in (x3 + (nI 4)) L ∧ (vp_in (x3 + (nI 5)) L ∧ (wM_copy (xs (x3 + (nI 1)).toNatClampNeg) (xs (x3 + (nI 2)).toNatClampNeg) (xs (x3 + (nI 3)).toNatClampNeg) (xs (x3 + (nI 4)).toNatClampNeg) (xs (x3 + (nI 5)).toNatClampNeg) σ34 (fun (r41 : Int32) (σ41 : gM) => (r34 = r41 → (∀ x3_43 : Int32, x3_43 = x3 + (nI 6) → (wL_l18 xs L n x3_43 σ41))) ∧ (¬ (r34 = r41) → (False)))))))))))))))) ∧ (((xs x3.toNatClampNeg) &&& (nI 63)) = (nI 3) → (vp_in (x3 + (nI 1)) L ∧ (wH_drop (xs (x3 + (nI 1)).toNatClampNeg) σ (fun (r46 : Int32) (σ46 : gM) => vp_in (x3 + (nI 1)) L ∧ (wM_drop (xs (x3 + (nI 1)).toNatClampNeg) σ46 (fun (r49 : Int32) (σ49 : gM) => (r46 = r49 → (∀ x3_51 : Int32, x3_51 = x3 + (nI 6) → (wL_l18 xs L n x3_51 σ49))) ∧ (¬ (r46 = r49) → (False)))))))) ∧ (((xs x3.toNatClampNeg) &&& (nI 63)) = (nI 4) → (vp_in (x3 + (nI 1)) L ∧ (vp_in (x3 + (nI 2)) L ∧ (vp_in (x3 + (nI 3)) L ∧ (wH_feed ((((xs (x3 + (nI 1)).toNatClampNeg).toInt64) <<< ((nI 32).toInt64 &&& 63)) ||| (((xs (x3 + (nI 2)).toNatClampNeg).toInt64) &&& (4294967295 : Int64))) (xs (x3 + (nI 3)).toNatClampNeg) σ (fun (r56 : Int32) (σ56 : gM) => vp_in (x3 + (nI 1)) L ∧ (vp_in (x3 + (nI 2)) L ∧ (vp_in (x3 + (nI 3)) L ∧ (wM_feed ((((xs (x3 + (nI 1)).toNatClampNeg).toInt64) <<< ((nI 32).toInt64 &&& 63)) ||| (((xs (x3 + (nI 2)).toNatClampNeg).toInt64) &&& (4294967295 : Int64))) (xs (x3 + (nI 3)).toNatClampNeg) σ56 (fun (r61 : Int32) (σ61 : gM) => (r56 = r61 → (∀ x3_63 : Int32, x3_63 = x3 + (nI 6) → (wL_l18 xs L n x3_63 σ61))) ∧ (¬ (r56 = r61) → (False)))))))))))) ∧ (((xs x3.toNatClampNeg) &&& (nI 63)) = (nI 5) → (wH_market  σ (fun (r65 : Int32) (σ65 : gM) => wM_market  σ65 (fun (r67 : Int32) (σ67 : gM) => (r65 = r67 → (∀ x3_69 : Int32, x3_69 = x3 + (nI 6) → (wL_l18 xs L n x3_69 σ67))) ∧ (¬ (r65 = r67) → (False)))))) ∧ (((xs x3.toNatClampNeg) &&& (nI 63)) = (nI 6) → (wH_fault  σ (fun (r71 : Int32) (σ71 : gM) => wM_fault  σ71 (fun (r73 : Int32) (σ73 : gM) => (r71 = r73 → (∀ x3_75 : Int32, x3_75 = x3 + (nI 6) → (wL_l18 xs L n x3_75 σ73))) ∧ (¬ (r71 = r73) → (False)))))) ∧ (((xs x3.toNatClampNeg) &&& (nI 63)) = (nI 7) → (vp_in (x3 + (nI 1)) L ∧ (vp_in (x3 + (nI 2)) L ∧ (wH_take (xs (x3 + (nI 1)).toNatClampNeg) (xs (x3 + (nI 2)).toNatClampNeg) σ (fun (r79 : Int32) (σ79 : gM) => vp_in (x3 + (nI 1)) L ∧ (vp_in (x3 + (nI 2)) L ∧ (wM_take (xs (x3 + (nI 1)).toNatClampNeg) (xs (x3 + (nI 2)).toNatClampNeg) σ79 (fun (r83 : Int32) (σ83 : gM) => (r79 = r83 → (∀ x3_85 : Int32, x3_85 = x3 + (nI 6) → (wL_l18 xs L n x3_85 σ83))) ∧ (¬ (r79 = r83) → (False)))))))))) ∧ (((xs x3.toNatClampNeg) &&& (nI 63)) = (nI 8) → (vp_in (x3 + (nI 1)) L ∧ (vp_in (x3 + (nI 2)) L ∧ (vp_in (x3 + (nI 3)) L ∧ (wH_lay (xs (x3 + (nI 1)).toNatClampNeg) (xs (x3 + (nI 2)).toNatClampNeg) (xs (x3 + (nI 3)).toNatClampNeg) σ (fun (r90 : Int32) (σ90 : gM) => vp_in (x3 + (nI 1)) L ∧ (vp_in (x3 + (nI 2)) L ∧ (vp_in (x3 + (nI 3)) L ∧ (wM_lay (xs (x3 + (nI 1)).toNatClampNeg) (xs (x3 + (nI 2)).toNatClampNeg) (xs (x3 + (nI 3)).toNatClampNeg) σ90 (fun (r95 : Int32) (σ95 : gM) => (r90 = r95 → (∀ x3_97 : Int32, x3_97 = x3 + (nI 6) → (wL_l18 xs L n x3_97 σ95))) ∧ (¬ (r90 = r95) → (False)))))))))))) ∧ (((xs x3.toNatClampNeg) &&& (nI 63)) = (nI 9) → (wH_day  σ (fun (r99 : Int32) (σ99 : gM) => wM_day  σ99 (fun (r101 : Int32) (σ101 : gM) => (r99 = r101 → (∀ x3_103 : Int32, x3_103 = x3 + (nI 6) → (wL_l18 xs L n x3_103 σ101))) ∧ (¬ (r99 = r101) → (False)))))) ∧ (((xs x3.toNatClampNeg) &&& (nI 63)) = (nI 10) → (wH_undo  σ (fun (r105 : Int32) (σ105 : gM) => wM_undo  σ105 (fun (r107 : Int32) (σ107 : gM) => (r105 = r107 → (∀ x3_109 : Int32, x3_109 = x3 + (nI 6) → (wL_l18 xs L n x3_109 σ107))) ∧ (¬ (r105 = r107) → (False)))))) ∧ (((xs x3.toNatClampNeg) &&& (nI 63)) = (nI 11) → (vp_in (x3 + (nI 1)) L ∧ (vp_in (x3 + (nI 2)) L ∧ (wH_ware (xs (x3 + (nI 1)).toNatClampNeg) (xs (x3 + (nI 2)).toNatClampNeg) σ (fun (r113 : Int32) (σ113 : gM) => vp_in (x3 + (nI 1)) L ∧ (vp_in (x3 + (nI 2)) L ∧ (wM_ware (xs (x3 + (nI 1)).toNatClampNeg) (xs (x3 + (nI 2)).toNatClampNeg) σ113 (fun (r117 : Int32) (σ117 : gM) => (r113 = r117 → (∀ x3_119 : Int32, x3_119 = x3 + (nI 6) → (wL_l18 xs L n x3_119 σ117))) ∧ (¬ (r113 = r117) → (False)))))))))) ∧ (((xs x3.toNatClampNeg) &&& (nI 63)) = (nI 12) → (vp_in (x3 + (nI 1)) L ∧ (vp_in (x3 + (nI 2)) L ∧ (wH_buyer (xs (x3 + (nI 1)).toNatClampNeg) (xs (x3 + (nI 2)).toNatClampNeg) σ (fun (r123 : Int32) (σ123 : gM) => vp_in (x3 + (nI 1)) L ∧ (vp_in (x3 + (nI 2)) L ∧ (wM_buyer (xs (x3 + (nI 1)).toNatClampNeg) (xs (x3 + (nI 2)).toNatClampNeg) σ123 (fun (r127 : Int32) (σ127 : gM) => (r123 = r127 → (∀ x3_129 : Int32, x3_129 = x3 + (nI 6) → (wL_l18 xs L n x3_129 σ127))) ∧ (¬ (r123 = r127) → (False)))))))))) ∧ (((xs x3.toNatClampNeg) &&& (nI 63)) = (nI 13) → (vp_in (x3 + (nI 1)) L ∧ (vp_in (x3 + (nI 2)) L ∧ (wH_worth (xs (x3 + (nI 1)).toNatClampNeg) (xs (x3 + (nI 2)).toNatClampNeg) σ (fun (r133 : Int32) (σ133 : gM) => vp_in (x3 + (nI 1)) L ∧ (vp_in (x3 + (nI 2)) L ∧ (wM_worth (xs (x3 + (nI 1)).toNatClampNeg) (xs (x3 + (nI 2)).toNatClampNeg) σ133 (fun (r137 : Int32) (σ137 : gM) => (r133 = r137 → (∀ x3_139 : Int32, x3_139 = x3 + (nI 6) → (wL_l18 xs L n x3_139 σ137))) ∧ (¬ (r133 = r137) → (False)))))))))) ∧ (((xs x3.toNatClampNeg) &&& (nI 63)) = (nI 14) → (vp_in (x3 + (nI 1)) L ∧ (vp_in (x3 + (nI 2)) L ∧ (vp_in (x3 + (nI 3)) L ∧ (wH_best (xs (x3 + (nI 1)).toNatClampNeg) (xs (x3 + (nI 2)).toNatClampNeg) (xs (x3 + (nI 3)).toNatClampNeg) σ (fun (r144 : Int32) (σ144 : gM) => vp_in (x3 + (nI 1)) L ∧ (vp_in (x3 + (nI 2)) L ∧ (vp_in (x3 + (nI 3)) L ∧ (wM_best (xs (x3 + (nI 1)).toNatClampNeg) (xs (x3 + (nI 2)).toNatClampNeg) (xs (x3 + (nI 3)).toNatClampNeg) σ144 (fun (r149 : Int32) (σ149 : gM) => (r144 = r149 → (∀ x3_151 : Int32, x3_151 = x3 + (nI 6) → (wL_l18 xs L n x3_151 σ149))) ∧ (¬ (r144 = r149) → (False)))))))))))) ∧ (((xs x3.toNatClampNeg) &&& (nI 63)) = (nI 15) → (vp_in (x3 + (nI 1)) L ∧ (vp_in (x3 + (nI 2)) L ∧ (wH_passBy (xs (x3 + (nI 1)).toNatClampNeg) (xs (x3 + (nI 2)).toNatClampNeg) σ (fun (r155 : Int32) (σ155 : gM) => vp_in (x3 + (nI 1)) L ∧ (vp_in (x3 + (nI 2)) L ∧ (wM_passBy (xs (x3 + (nI 1)).toNatClampNeg) (xs (x3 + (nI 2)).toNatClampNeg) σ155 (fun (r159 : Int32) (σ159 : gM) => (r155 = r159 → (∀ x3_161 : Int32, x3_161 = x3 + (nI 6) → (wL_l18 xs L n x3_161 σ159))) ∧ (¬ (r155 = r159) → (False)))))))))) ∧ (((xs x3.toNatClampNeg) &&& (nI 63)) = (nI 16) → (vp_in (x3 + (nI 1)) L ∧ (vp_in (x3 + (nI 2)) L ∧ (vp_in (x3 + (nI 3)) L ∧ (wH_laid (xs (x3 + (nI 1)).toNatClampNeg) (xs (x3 + (nI 2)).toNatClampNeg) (xs (x3 + (nI 3)).toNatClampNeg) σ (fun (r166 : Int32) (σ166 : gM) => vp_in (x3 + (nI 1)) L ∧ (vp_in (x3 + (nI 2)) L ∧ (vp_in (x3 + (nI 3)) L ∧ (wM_laid (xs (x3 + (nI 1)).toNatClampNeg) (xs (x3 + (nI 2)).toNatClampNeg) (xs (x3 + (nI 3)).toNatClampNeg) σ166 (fun (r171 : Int32) (σ171 : gM) => (r166 = r171 → (∀ x3_173 : Int32, x3_173 = x3 + (nI 6) → (wL_l18 xs L n x3_173 σ171))) ∧ (¬ (r166 = r171) → (False)))))))))))) ∧ (((xs x3.toNatClampNeg) &&& (nI 63)) = (nI 17) → (vp_in (x3 + (nI 1)) L ∧ (vp_in (x3 + (nI 2)) L ∧ (vp_in (x3 + (nI 3)) L ∧ (wH_ring (xs (x3 + (nI 1)).toNatClampNeg) (xs (x3 + (nI 2)).toNatClampNeg) (xs (x3 + (nI 3)).toNatClampNeg) σ (fun (r178 : Int32) (σ178 : gM) => vp_in (x3 + (nI 1)) L ∧ (vp_in (x3 + (nI 2)) L ∧ (vp_in (x3 + (nI 3)) L ∧ (wM_ring (xs (x3 + (nI 1)).toNatClampNeg) (xs (x3 + (nI 2)).toNatClampNeg) (xs (x3 + (nI 3)).toNatClampNeg) σ178 (fun (r183 : Int32) (σ183 : gM) => (r178 = r183 → (∀ x3_185 : Int32, x3_185 = x3 + (nI 6) → (wL_l18 xs L n x3_185 σ183))) ∧ (¬ (r178 = r183) → (False)))))))))))) ∧ (((xs x3.toNatClampNeg) &&& (nI 63)) = (nI 18) → (vp_in (x3 + (nI 1)) L ∧ (vp_in (x3 + (nI 2)) L ∧ (vp_in (x3 + (nI 3)) L ∧ (vp_in (x3 + (nI 4)) L ∧ (wH_line (xs (x3 + (nI 1)).toNatClampNeg) (xs (x3 + (nI 2)).toNatClampNeg) (xs (x3 + (nI 3)).toNatClampNeg) (xs (x3 + (nI 4)).toNatClampNeg) σ (fun (r191 : Int32) (σ191 : gM) => vp_in (x3 + (nI 1)) L ∧ (vp_in (x3 + (nI 2)) L ∧ (vp_in (x3 + (nI 3)) L ∧ (vp_in (x3 + (nI 4)) L ∧ (wM_line (xs (x3 + (nI 1)).toNatClampNeg) (xs (x3 + (nI 2)).toNatClampNeg) (xs (x3 + (nI 3)).toNatClampNeg) (xs (x3 + (nI 4)).toNatClampNeg) σ191 (fun (r197 : Int32) (σ197 : gM) => (r191 = r197 → (∀ x3_199 : Int32, x3_199 = x3 + (nI 6) → (wL_l18 xs L n x3_199 σ197))) ∧ (¬ (r191 = r197) → (False)))))))))))))) ∧ (((xs x3.toNatClampNeg) &&& (nI 63)) = (nI 19) → (vp_in (x3 + (nI 1)) L ∧ (vp_in (x3 + (nI 2)) L ∧ (wH_rots (xs (x3 + (nI 1)).toNatClampNeg) (xs (x3 + (nI 2)).toNatClampNeg) σ (fun (r203 : Int32) (σ203 : gM) => vp_in (x3 + (nI 1)) L ∧ (vp_in (x3 + (nI 2)) L ∧ (wM_rots (xs (x3 + (nI 1)).toNatClampNeg) (xs (x3 + (nI 2)).toNatClampNeg) σ203 (fun (r207 : Int32) (σ207 : gM) => (r203 = r207 → (∀ x3_209 : Int32, x3_209 = x3 + (nI 6) → (wL_l18 xs L n x3_209 σ207))) ∧ (¬ (r203 = r207) → (False)))))))))) ∧ (((xs x3.toNatClampNeg) &&& (nI 63)) = (nI 20) → (vp_in (x3 + (nI 1)) L ∧ (vp_in (x3 + (nI 2)) L ∧ (wH_reach (xs (x3 + (nI 1)).toNatClampNeg) (xs (x3 + (nI 2)).toNatClampNeg) σ (fun (r213 : Int32) (σ213 : gM) => vp_in (x3 + (nI 1)) L ∧ (vp_in (x3 + (nI 2)) L ∧ (wM_reach (xs (x3 + (nI 1)).toNatClampNeg) (xs (x3 + (nI 2)).toNatClampNeg) σ213 (fun (r217 : Int32) (σ217 : gM) => (r213 = r217 → (∀ x3_219 : Int32, x3_219 = x3 + (nI 6) → (wL_l18 xs L n x3_219 σ217))) ∧ (¬ (r213 = r217) → (False)))))))))) ∧ (((xs x3.toNatClampNeg) &&& (nI 63)) = (nI 21) → (vp_in (x3 + (nI 1)) L ∧ (vp_in (x3 + (nI 2)) L ∧ (wH_harvest (xs (x3 + (nI 1)).toNatClampNeg) (xs (x3 + (nI 2)).toNatClampNeg) σ (fun (r223 : Int32) (σ223 : gM) => vp_in (x3 + (nI 1)) L ∧ (vp_in (x3 + (nI 2)) L ∧ (wM_harvest (xs (x3 + (nI 1)).toNatClampNeg) (xs (x3 + (nI 2)).toNatClampNeg) σ223 (fun (r227 : Int32) (σ227 : gM) => (r223 = r227 → (∀ x3_229 : Int32, x3_229 = x3 + (nI 6) → (wL_l18 xs L n x3_229 σ227))) ∧ (¬ (r223 = r227) → (False)))))))))) ∧ (((xs x3.toNatClampNeg) &&& (nI 63)) = (nI 22) → (vp_in (x3 + (nI 1)) L ∧ (vp_in (x3 + (nI 2)) L ∧ (vp_in (x3 + (nI 3)) L ∧ (wH_judge (xs (x3 + (nI 1)).toNatClampNeg) (xs (x3 + (nI 2)).toNatClampNeg) (xs (x3 + (nI 3)).toNatClampNeg) σ (fun (r234 : Int32) (σ234 : gM) => vp_in (x3 + (nI 1)) L ∧ (vp_in (x3 + (nI 2)) L ∧ (vp_in (x3 + (nI 3)) L ∧ (wM_judge (xs (x3 + (nI 1)).toNatClampNeg) (xs (x3 + (nI 2)).toNatClampNeg) (xs (x3 + (nI 3)).toNatClampNeg) σ234 (fun (r239 : Int32) (σ239 : gM) => (r234 = r239 → (∀ x3_241 : Int32, x3_241 = x3 + (nI 6) → (wL_l18 xs L n x3_241 σ239))) ∧ (¬ (r234 = r239) → (False)))))))))))) ∧ (((xs x3.toNatClampNeg) &&& (nI 63)) = (nI 23) → (vp_in (x3 + (nI 1)) L ∧ (vp_in (x3 + (nI 2)) L ∧ (vp_in (x3 + (nI 3)) L ∧ (vp_in (x3 + (nI 4)) L ∧ (vp_in (x3 + (nI 5)) L ∧ (wH_heard (xs (x3 + (nI 1)).toNatClampNeg) (xs (x3 + (nI 2)).toNatClampNeg) (xs (x3 + (nI 3)).toNatClampNeg) (xs (x3 + (nI 4)).toNatClampNeg) (xs (x3 + (nI 5)).toNatClampNeg) σ (fun (r248 : Int32) (σ248 : gM) => vp_in (x3 + (nI 1)) L ∧ (vp_in (x3 + (nI 2)) L ∧ (vp_in (x3 + (nI 3)) L ∧ (vp_in (x3 + (nI 4)) L ∧ (vp_in (x3 + (nI 5)) L ∧ (wM_heard (xs (x3 + (nI 1)).toNatClampNeg) (xs (x3 + (nI 2)).toNatClampNeg) (xs (x3 + (nI 3)).toNatClampNeg) (xs (x3 + (nI 4)).toNatClampNeg) (xs (x3 + (nI 5)).toNatClampNeg) σ248 (fun (r255 : Int32) (σ255 : gM) => (r248 = r255 → (∀ x3_257 : Int32, x3_257 = x3 + (nI 6) → (wL_l18 xs L n x3_257 σ255))) ∧ (¬ (r248 = r255) → (False)))))))))))))))) ∧ (((xs x3.toNatClampNeg) &&& (nI 63)) = (nI 24) → (vp_in (x3 + (nI 1)) L ∧ (vp_in (x3 + (nI 2)) L ∧ (vp_in (x3 + (nI 3)) L ∧ (wH_apart (xs (x3 + (nI 1)).toNatClampNeg) (xs (x3 + (nI 2)).toNatClampNeg) (xs (x3 + (nI 3)).toNatClampNeg) σ (fun (r262 : Int32) (σ262 : gM) => vp_in (x3 + (nI 1)) L ∧ (vp_in (x3 + (nI 2)) L ∧ (vp_in (x3 + (nI 3)) L ∧ (wM_apart (xs (x3 + (nI 1)).toNatClampNeg) (xs (x3 + (nI 2)).toNatClampNeg) (xs (x3 + (nI 3)).toNatClampNeg) σ262 (fun (r267 : Int32) (σ267 : gM) => (r262 = r267 → (∀ x3_269 : Int32, x3_269 = x3 + (nI 6) → (wL_l18 xs L n x3_269 σ267))) ∧ (¬ (r262 = r267) → (False)))))))))))) ∧ (((xs x3.toNatClampNeg) &&& (nI 63)) = (nI 25) → (vp_in (x3 + (nI 1)) L ∧ (wH_image (xs (x3 + (nI 1)).toNatClampNeg) σ (fun (r272 : Int32) (σ272 : gM) => vp_in (x3 + (nI 1)) L ∧ (wM_image (xs (x3 + (nI 1)).toNatClampNeg) σ272 (fun (r275 : Int32) (σ275 : gM) => (r272 = r275 → (∀ x3_277 : Int32, x3_277 = x3 + (nI 6) → (wL_l18 xs L n x3_277 σ275))) ∧ (¬ (r272 = r275) → (False)))))))) ∧ (((xs x3.toNatClampNeg) &&& (nI 63)) = (nI 26) → (vp_in (x3 + (nI 1)) L ∧ (wH_restore (xs (x3 + (nI 1)).toNatClampNeg) σ (fun (r280 : Int32) (σ280 : gM) => vp_in (x3 + (nI 1)) L ∧ (wM_restore (xs (x3 + (nI 1)).toNatClampNeg) σ280 (fun (r283 : Int32) (σ283 : gM) => (r280 = r283 → (∀ x3_285 : Int32, x3_285 = x3 + (nI 6) → (wL_l18 xs L n x3_285 σ283))) ∧ (¬ (r280 = r283) → (False)))))))) ∧ (((xs x3.toNatClampNeg) &&& (nI 63)) = (nI 27) → (vp_in (x3 + (nI 1)) L ∧ (wH_kind (xs (x3 + (nI 1)).toNatClampNeg) σ (fun (r288 : Int32) (σ288 : gM) => vp_in (x3 + (nI 1)) L ∧ (wM_kind (xs (x3 + (nI 1)).toNatClampNeg) σ288 (fun (r291 : Int32) (σ291 : gM) => (r288 = r291 → (∀ x3_293 : Int32, x3_293 = x3 + (nI 6) → (wL_l18 xs L n x3_293 σ291))) ∧ (¬ (r288 = r291) → (False)))))))) ∧ (((xs x3.toNatClampNeg) &&& (nI 63)) = (nI 28) → (vp_in (x3 + (nI 1)) L ∧ (vp_in (x3 + (nI 2)) L ∧ (wH_as (xs (x3 + (nI 1)).toNatClampNeg) (xs (x3 + (nI 2)).toNatClampNeg) σ (fun (r297 : Int32) (σ297 : gM) => vp_in (x3 + (nI 1)) L ∧ (vp_in (x3 + (nI 2)) L ∧ (wM_as (xs (x3 + (nI 1)).toNatClampNeg) (xs (x3 + (nI 2)).toNatClampNeg) σ297 (fun (r301 : Int32) (σ301 : gM) => (r297 = r301 → (∀ x3_303 : Int32, x3_303 = x3 + (nI 6) → (wL_l18 xs L n x3_303 σ301))) ∧ (¬ (r297 = r301) → (False)))))))))) ∧ (((xs x3.toNatClampNeg) &&& (nI 63)) = (nI 29) → (vp_in (x3 + (nI 1)) L ∧ (vp_in (x3 + (nI 2)) L ∧ (wH_ask (xs (x3 + (nI 1)).toNatClampNeg) (xs (x3 + (nI 2)).toNatClampNeg) σ (fun (r307 : Int32) (σ307 : gM) => vp_in (x3 + (nI 1)) L ∧ (vp_in (x3 + (nI 2)) L ∧ (wM_ask (xs (x3 + (nI 1)).toNatClampNeg) (xs (x3 + (nI 2)).toNatClampNeg) σ307 (fun (r311 : Int32) (σ311 : gM) => (r307 = r311 → (∀ x3_313 : Int32, x3_313 = x3 + (nI 6) → (wL_l18 xs L n x3_313 σ311))) ∧ (¬ (r307 = r311) → (False)))))))))) ∧ (((xs x3.toNatClampNeg) &&& (nI 63)) = (nI 30) → (vp_in (x3 + (nI 1)) L ∧ (wH_trace (xs (x3 + (nI 1)).toNatClampNeg) σ (fun (r316 : Int32) (σ316 : gM) => vp_in (x3 + (nI 1)) L ∧ (wM_trace (xs (x3 + (nI 1)).toNatClampNeg) σ316 (fun (r319 : Int32) (σ319 : gM) => (r316 = r319 → (∀ x3_321 : Int32, x3_321 = x3 + (nI 6) → (wL_l18 xs L n x3_321 σ319))) ∧ (¬ (r316 = r319) → (False)))))))) ∧ (((xs x3.toNatClampNeg) &&& (nI 63)) = (nI 31) → (vp_in (x3 + (nI 1)) L ∧ (wH_count (xs (x3 + (nI 1)).toNatClampNeg) σ (fun (r324 : Int32) (σ324 : gM) => vp_in (x3 + (nI 1)) L ∧ (wM_count (xs (x3 + (nI 1)).toNatClampNeg) σ324 (fun (r327 : Int32) (σ327 : gM) => (r324 = r327 → (∀ x3_329 : Int32, x3_329 = x3 + (nI 6) → (wL_l18 xs L n x3_329 σ327))) ∧ (¬ (r324 = r327) → (False)))))))) ∧ (((xs x3.toNatClampNeg) &&& (nI 63)) = (nI 32) → (wH_status  σ (fun (r331 : Int32) (σ331 : gM) => wM_status  σ331 (fun (r333 : Int32) (σ333 : gM) => (r331 = r333 → (∀ x3_335 : Int32, x3_335 = x3 + (nI 6) → (wL_l18 xs L n x3_335 σ333))) ∧ (¬ (r331 = r333) → (False)))))) ∧ ((¬ ((xs x3.toNatClampNeg) &&& (nI 63)) = (nI 0) ∧ ¬ ((xs x3.toNatClampNeg) &&& (nI 63)) = (nI 1) ∧ ¬ ((xs x3.toNatClampNeg) &&& (nI 63)) = (nI 2) ∧ ¬ ((xs x3.toNatClampNeg) &&& (nI 63)) = (nI 3) ∧ ¬ ((xs x3.toNatClampNeg) &&& (nI 63)) = (nI 4) ∧ ¬ ((xs x3.toNatClampNeg) &&& (nI 63)) = (nI 5) ∧ ¬ ((xs x3.toNatClampNeg) &&& (nI 63)) = (nI 6) ∧ ¬ ((xs x3.toNatClampNeg) &&& (nI 63)) = (nI 7) ∧ ¬ ((xs x3.toNatClampNeg) &&& (nI 63)) = (nI 8) ∧ ¬ ((xs x3.toNatClampNeg) &&& (nI 63)) = (nI 9) ∧ ¬ ((xs x3.toNatClampNeg) &&& (nI 63)) = (nI 10) ∧ ¬ ((xs x3.toNatClampNeg) &&& (nI 63)) = (nI 11) ∧ ¬ ((xs x3.toNatClampNeg) &&& (nI 63)) = (nI 12) ∧ ¬ ((xs x3.toNatClampNeg) &&& (nI 63)) = (nI 13) ∧ ¬ ((xs x3.toNatClampNeg) &&& (nI 63)) = (nI 14) ∧ ¬ ((xs x3.toNatClampNeg) &&& (nI 63)) = (nI 15) ∧ ¬ ((xs x3.toNatClampNeg) &&& (nI 63)) = (nI 16) ∧ ¬ ((xs x3.toNatClampNeg) &&& (nI 63)) = (nI 17) ∧ ¬ ((xs x3.toNatClampNeg) &&& (nI 63)) = (nI 18) ∧ ¬ ((xs x3.toNatClampNeg) &&& (nI 63)) = (nI 19) ∧ ¬ ((xs x3.toNatClampNeg) &&& (nI 63)) = (nI 20) ∧ ¬ ((xs x3.toNatClampNeg) &&& (nI 63)) = (nI 21) ∧ ¬ ((xs x3.toNatClampNeg) &&& (nI 63)) = (nI 22) ∧ ¬ ((xs x3.toNatClampNeg) &&& (nI 63)) = (nI 23) ∧ ¬ ((xs x3.toNatClampNeg) &&& (nI 63)) = (nI 24) ∧ ¬ ((xs x3.toNatClampNeg) &&& (nI 63)) = (nI 25) ∧ ¬ ((xs x3.toNatClampNeg) &&& (nI 63)) = (nI 26) ∧ ¬ ((xs x3.toNatClampNeg) &&& (nI 63)) = (nI 27) ∧ ¬ ((xs x3.toNatClampNeg) &&& (nI 63)) = (nI 28) ∧ ¬ ((xs x3.toNatClampNeg) &&& (nI 63)) = (nI 29) ∧ ¬ ((xs x3.toNatClampNeg) &&& (nI 63)) = (nI 30) ∧ ¬ ((xs x3.toNatClampNeg) &&& (nI 63)) = (nI 31) ∧ ¬ ((xs x3.toNatClampNeg) &&& (nI 63)) = (nI 32)) → (∀ x3_336 : Int32, x3_336 = x3 + (nI 6) → (wL_l18 xs L n x3_336 σ)))))) := h
    refine v_iload_n hC 3 dL_law_18 rfl ?_
    refine v_aload_n hC 0 dL_law_19 rfl ?_
    refine v_slenL hC hV dL_law_20 ?_
    refine v_bipush hC (nI 6) dL_law_21 rfl ?_
    refine v_isub hC dL_law_23 ?_
    refine v_icmp_gt hC 1305 dL_law_24 (by decide) (fun c1 => ?_) (fun c1 => ?_)
    · replace h := h.1 c1
      refine v_iconst hC (nI 1) dL_law_1305 rfl ?_
      exact v_lawret hC hV dL_law_1306
    · replace h := h.2 c1
      refine v_aload_n hC 0 dL_law_27 rfl ?_
      refine v_iload_n hC 3 dL_law_28 rfl ?_
      obtain ⟨hi2, h⟩ := h
      refine v_sldL hC hV hi2 dL_law_29 ?_
      refine v_bipush hC (nI 63) dL_law_30 rfl ?_
      refine v_iand hC dL_law_32 ?_
      by_cases q3_0 : ((xs x3.toNatClampNeg) &&& (nI 63)) = (nI 0)
      · replace h := h.1 q3_0
        refine v_tableIn hC (nI 0) 180 dL_law_33 q3_0 (by decide) (by decide) rfl (by decide) ?_
        refine v_aload_n hC 1 dL_law_180 rfl ?_
        refine v_aload_n hC 0 dL_law_181 rfl ?_
        refine v_iload_n hC 3 dL_law_182 rfl ?_
        refine v_iconst hC (nI 1) dL_law_183 rfl ?_
        refine v_iadd hC dL_law_184 ?_
        obtain ⟨hi4, h⟩ := h
        refine v_sldL hC hV hi4 dL_law_185 ?_
        refine v_aload_n hC 0 dL_law_186 rfl ?_
        refine v_iload_n hC 3 dL_law_187 rfl ?_
        refine v_iconst hC (nI 2) dL_law_188 rfl ?_
        refine v_iadd hC dL_law_189 ?_
        obtain ⟨hi5, h⟩ := h
        refine v_sldL hC hV hi5 dL_law_190 ?_
        refine v_aload_n hC 0 dL_law_191 rfl ?_
        refine v_iload_n hC 3 dL_law_192 rfl ?_
        refine v_iconst hC (nI 3) dL_law_193 rfl ?_
        refine v_iadd hC dL_law_194 ?_
        obtain ⟨hi6, h⟩ := h
        refine v_sldL hC hV hi6 dL_law_195 ?_
        refine v_callV hC (kH_row _ _ _ _ _ h) cmH_row ⟨kw370, kw371⟩ kw369 ⟨Nat.le_of_ble_eq_true rfl, Nat.le_of_ble_eq_true rfl⟩ (Nat.le_of_ble_eq_true rfl) rfl (ci := 6) (T := TX6) (N := 12) rfl (As := fun G => [.int (xs (x3 + (nI 1)).toNatClampNeg), .int (xs (x3 + (nI 2)).toNatClampNeg), .int (xs (x3 + (nI 3)).toNatClampNeg)]) (fun _ => rfl) (fun _ => rfl) (st := []) (Nat.le_of_ble_eq_true rfl) rfl dL_law_196 (kk_i (fun r8 σ8 h => ?_))
        refine v_aload_n hC 2 dL_law_199 rfl ?_
        refine v_aload_n hC 0 dL_law_200 rfl ?_
        refine v_iload_n hC 3 dL_law_201 rfl ?_
        refine v_iconst hC (nI 1) dL_law_202 rfl ?_
        refine v_iadd hC dL_law_203 ?_
        obtain ⟨hi9, h⟩ := h
        refine v_sldL hC hV hi9 dL_law_204 ?_
        refine v_aload_n hC 0 dL_law_205 rfl ?_
        refine v_iload_n hC 3 dL_law_206 rfl ?_
        refine v_iconst hC (nI 2) dL_law_207 rfl ?_
        refine v_iadd hC dL_law_208 ?_
        obtain ⟨hi10, h⟩ := h
        refine v_sldL hC hV hi10 dL_law_209 ?_
        refine v_aload_n hC 0 dL_law_210 rfl ?_
        refine v_iload_n hC 3 dL_law_211 rfl ?_
        refine v_iconst hC (nI 3) dL_law_212 rfl ?_
        refine v_iadd hC dL_law_213 ?_
        obtain ⟨hi11, h⟩ := h
        refine v_sldL hC hV hi11 dL_law_214 ?_
        refine v_callV hC (kM_row _ _ _ _ _ h) cmM_row ⟨kw1044, kw1045⟩ kw1043 ⟨Nat.le_of_ble_eq_true rfl, Nat.le_of_ble_eq_true rfl⟩ (Nat.le_of_ble_eq_true rfl) rfl (ci := 7) (T := TX7) (N := 30) rfl (As := fun G => [.int (xs (x3 + (nI 1)).toNatClampNeg), .int (xs (x3 + (nI 2)).toNatClampNeg), .int (xs (x3 + (nI 3)).toNatClampNeg)]) (fun _ => rfl) (fun _ => rfl) (st := [.int r8]) (Nat.le_of_ble_eq_true rfl) rfl dL_law_215 (kk_i (fun r13 σ13 h => ?_))
        refine v_icmp_eq hC 1299 dL_law_218 (by decide) (fun c14 => ?_) (fun c14 => ?_)
        · replace h := h.1 c14
          refine v_iincN hC (nI 6) 3 dL_law_1299 rfl rfl (by decide) (lo2 := fun x3_15 => [(3, .int x3_15), (0, .ref b), (1, .ref (xad X 0)), (2, .ref (xad X 82))]) (fun _ => rfl) (fun x3_15 e15 => ?_)
          replace h := h x3_15 e15
          refine v_goto hC 18 dL_law_1302 (by decide) ?_
          exact V.sub [1, 2, 3, 0] rfl (ih _ _ h)
        · replace h := h.2 c14
          refine v_iconst hC (nI 0) dL_law_221 rfl ?_
          exact h.elim
      · by_cases q3_1 : ((xs x3.toNatClampNeg) &&& (nI 63)) = (nI 1)
        · replace h := h.2.1 q3_1
          refine v_tableIn hC (nI 1) 223 dL_law_33 q3_1 (by decide) (by decide) rfl (by decide) ?_
          refine v_aload_n hC 1 dL_law_223 rfl ?_
          refine v_aload_n hC 0 dL_law_224 rfl ?_
          refine v_iload_n hC 3 dL_law_225 rfl ?_
          refine v_iconst hC (nI 1) dL_law_226 rfl ?_
          refine v_iadd hC dL_law_227 ?_
          obtain ⟨hi16, h⟩ := h
          refine v_sldL hC hV hi16 dL_law_228 ?_
          refine v_aload_n hC 0 dL_law_229 rfl ?_
          refine v_iload_n hC 3 dL_law_230 rfl ?_
          refine v_iconst hC (nI 2) dL_law_231 rfl ?_
          refine v_iadd hC dL_law_232 ?_
          obtain ⟨hi17, h⟩ := h
          refine v_sldL hC hV hi17 dL_law_233 ?_
          refine v_aload_n hC 0 dL_law_234 rfl ?_
          refine v_iload_n hC 3 dL_law_235 rfl ?_
          refine v_iconst hC (nI 3) dL_law_236 rfl ?_
          refine v_iadd hC dL_law_237 ?_
          obtain ⟨hi18, h⟩ := h
          refine v_sldL hC hV hi18 dL_law_238 ?_
          refine v_callV hC (kH_set _ _ _ _ _ h) cmH_set ⟨kw395, kw396⟩ kw394 ⟨Nat.le_of_ble_eq_true rfl, Nat.le_of_ble_eq_true rfl⟩ (Nat.le_of_ble_eq_true rfl) rfl (ci := 6) (T := TX6) (N := 12) rfl (As := fun G => [.int (xs (x3 + (nI 1)).toNatClampNeg), .int (xs (x3 + (nI 2)).toNatClampNeg), .int (xs (x3 + (nI 3)).toNatClampNeg)]) (fun _ => rfl) (fun _ => rfl) (st := []) (Nat.le_of_ble_eq_true rfl) rfl dL_law_239 (kk_i (fun r20 σ20 h => ?_))
          refine v_aload_n hC 2 dL_law_242 rfl ?_
          refine v_aload_n hC 0 dL_law_243 rfl ?_
          refine v_iload_n hC 3 dL_law_244 rfl ?_
          refine v_iconst hC (nI 1) dL_law_245 rfl ?_
          refine v_iadd hC dL_law_246 ?_
          obtain ⟨hi21, h⟩ := h
          refine v_sldL hC hV hi21 dL_law_247 ?_
          refine v_aload_n hC 0 dL_law_248 rfl ?_
          refine v_iload_n hC 3 dL_law_249 rfl ?_
          refine v_iconst hC (nI 2) dL_law_250 rfl ?_
          refine v_iadd hC dL_law_251 ?_
          obtain ⟨hi22, h⟩ := h
          refine v_sldL hC hV hi22 dL_law_252 ?_
          refine v_aload_n hC 0 dL_law_253 rfl ?_
          refine v_iload_n hC 3 dL_law_254 rfl ?_
          refine v_iconst hC (nI 3) dL_law_255 rfl ?_
          refine v_iadd hC dL_law_256 ?_
          obtain ⟨hi23, h⟩ := h
          refine v_sldL hC hV hi23 dL_law_257 ?_
          refine v_callV hC (kM_set _ _ _ _ _ h) cmM_set ⟨kw1064, kw1065⟩ kw1063 ⟨Nat.le_of_ble_eq_true rfl, Nat.le_of_ble_eq_true rfl⟩ (Nat.le_of_ble_eq_true rfl) rfl (ci := 7) (T := TX7) (N := 30) rfl (As := fun G => [.int (xs (x3 + (nI 1)).toNatClampNeg), .int (xs (x3 + (nI 2)).toNatClampNeg), .int (xs (x3 + (nI 3)).toNatClampNeg)]) (fun _ => rfl) (fun _ => rfl) (st := [.int r20]) (Nat.le_of_ble_eq_true rfl) rfl dL_law_258 (kk_i (fun r25 σ25 h => ?_))
          refine v_icmp_eq hC 1299 dL_law_261 (by decide) (fun c26 => ?_) (fun c26 => ?_)
          · replace h := h.1 c26
            refine v_iincN hC (nI 6) 3 dL_law_1299 rfl rfl (by decide) (lo2 := fun x3_27 => [(3, .int x3_27), (0, .ref b), (1, .ref (xad X 0)), (2, .ref (xad X 82))]) (fun _ => rfl) (fun x3_27 e27 => ?_)
            replace h := h x3_27 e27
            refine v_goto hC 18 dL_law_1302 (by decide) ?_
            exact V.sub [1, 2, 3, 0] rfl (ih _ _ h)
          · replace h := h.2 c26
            refine v_iconst hC (nI 0) dL_law_264 rfl ?_
            exact h.elim
        · by_cases q3_2 : ((xs x3.toNatClampNeg) &&& (nI 63)) = (nI 2)
          · replace h := h.2.2.1 q3_2
            refine v_tableIn hC (nI 2) 266 dL_law_33 q3_2 (by decide) (by decide) rfl (by decide) ?_
            refine v_aload_n hC 1 dL_law_266 rfl ?_
            refine v_aload_n hC 0 dL_law_267 rfl ?_
            refine v_iload_n hC 3 dL_law_268 rfl ?_
            refine v_iconst hC (nI 1) dL_law_269 rfl ?_
            refine v_iadd hC dL_law_270 ?_
            obtain ⟨hi28, h⟩ := h
            refine v_sldL hC hV hi28 dL_law_271 ?_
            refine v_aload_n hC 0 dL_law_272 rfl ?_
            refine v_iload_n hC 3 dL_law_273 rfl ?_
            refine v_iconst hC (nI 2) dL_law_274 rfl ?_
            refine v_iadd hC dL_law_275 ?_
            obtain ⟨hi29, h⟩ := h
            refine v_sldL hC hV hi29 dL_law_276 ?_
            refine v_aload_n hC 0 dL_law_277 rfl ?_
            refine v_iload_n hC 3 dL_law_278 rfl ?_
            refine v_iconst hC (nI 3) dL_law_279 rfl ?_
            refine v_iadd hC dL_law_280 ?_
            obtain ⟨hi30, h⟩ := h
            refine v_sldL hC hV hi30 dL_law_281 ?_
            refine v_aload_n hC 0 dL_law_282 rfl ?_
            refine v_iload_n hC 3 dL_law_283 rfl ?_
            refine v_iconst hC (nI 4) dL_law_284 rfl ?_
            refine v_iadd hC dL_law_285 ?_
            obtain ⟨hi31, h⟩ := h
            refine v_sldL hC hV hi31 dL_law_286 ?_
            refine v_aload_n hC 0 dL_law_287 rfl ?_
            refine v_iload_n hC 3 dL_law_288 rfl ?_
            refine v_iconst hC (nI 5) dL_law_289 rfl ?_
            refine v_iadd hC dL_law_290 ?_
            obtain ⟨hi32, h⟩ := h
            refine v_sldL hC hV hi32 dL_law_291 ?_
            refine v_callV hC (kH_copy _ _ _ _ _ _ _ h) cmH_copy ⟨kw415, kw416⟩ kw414 ⟨Nat.le_of_ble_eq_true rfl, Nat.le_of_ble_eq_true rfl⟩ (Nat.le_of_ble_eq_true rfl) rfl (ci := 6) (T := TX6) (N := 12) rfl (As := fun G => [.int (xs (x3 + (nI 1)).toNatClampNeg), .int (xs (x3 + (nI 2)).toNatClampNeg), .int (xs (x3 + (nI 3)).toNatClampNeg), .int (xs (x3 + (nI 4)).toNatClampNeg), .int (xs (x3 + (nI 5)).toNatClampNeg)]) (fun _ => rfl) (fun _ => rfl) (st := []) (Nat.le_of_ble_eq_true rfl) rfl dL_law_292 (kk_i (fun r34 σ34 h => ?_))
            refine v_aload_n hC 2 dL_law_295 rfl ?_
            refine v_aload_n hC 0 dL_law_296 rfl ?_
            refine v_iload_n hC 3 dL_law_297 rfl ?_
            refine v_iconst hC (nI 1) dL_law_298 rfl ?_
            refine v_iadd hC dL_law_299 ?_
            obtain ⟨hi35, h⟩ := h
            refine v_sldL hC hV hi35 dL_law_300 ?_
            refine v_aload_n hC 0 dL_law_301 rfl ?_
            refine v_iload_n hC 3 dL_law_302 rfl ?_
            refine v_iconst hC (nI 2) dL_law_303 rfl ?_
            refine v_iadd hC dL_law_304 ?_
            obtain ⟨hi36, h⟩ := h
            refine v_sldL hC hV hi36 dL_law_305 ?_
            refine v_aload_n hC 0 dL_law_306 rfl ?_
            refine v_iload_n hC 3 dL_law_307 rfl ?_
            refine v_iconst hC (nI 3) dL_law_308 rfl ?_
            refine v_iadd hC dL_law_309 ?_
            obtain ⟨hi37, h⟩ := h
            refine v_sldL hC hV hi37 dL_law_310 ?_
            refine v_aload_n hC 0 dL_law_311 rfl ?_
            refine v_iload_n hC 3 dL_law_312 rfl ?_
            refine v_iconst hC (nI 4) dL_law_313 rfl ?_
            refine v_iadd hC dL_law_314 ?_
            obtain ⟨hi38, h⟩ := h
            refine v_sldL hC hV hi38 dL_law_315 ?_
            refine v_aload_n hC 0 dL_law_316 rfl ?_
            refine v_iload_n hC 3 dL_law_317 rfl ?_
            refine v_iconst hC (nI 5) dL_law_318 rfl ?_
            refine v_iadd hC dL_law_319 ?_
            obtain ⟨hi39, h⟩ := h
            refine v_sldL hC hV hi39 dL_law_320 ?_
            refine v_callV hC (kM_copy _ _ _ _ _ _ _ h) cmM_copy ⟨kw1072, kw1073⟩ kw1071 ⟨Nat.le_of_ble_eq_true rfl, Nat.le_of_ble_eq_true rfl⟩ (Nat.le_of_ble_eq_true rfl) rfl (ci := 7) (T := TX7) (N := 30) rfl (As := fun G => [.int (xs (x3 + (nI 1)).toNatClampNeg), .int (xs (x3 + (nI 2)).toNatClampNeg), .int (xs (x3 + (nI 3)).toNatClampNeg), .int (xs (x3 + (nI 4)).toNatClampNeg), .int (xs (x3 + (nI 5)).toNatClampNeg)]) (fun _ => rfl) (fun _ => rfl) (st := [.int r34]) (Nat.le_of_ble_eq_true rfl) rfl dL_law_321 (kk_i (fun r41 σ41 h => ?_))
            refine v_icmp_eq hC 1299 dL_law_324 (by decide) (fun c42 => ?_) (fun c42 => ?_)
            · replace h := h.1 c42
              refine v_iincN hC (nI 6) 3 dL_law_1299 rfl rfl (by decide) (lo2 := fun x3_43 => [(3, .int x3_43), (0, .ref b), (1, .ref (xad X 0)), (2, .ref (xad X 82))]) (fun _ => rfl) (fun x3_43 e43 => ?_)
              replace h := h x3_43 e43
              refine v_goto hC 18 dL_law_1302 (by decide) ?_
              exact V.sub [1, 2, 3, 0] rfl (ih _ _ h)
            · replace h := h.2 c42
              refine v_iconst hC (nI 0) dL_law_327 rfl ?_
              exact h.elim
          · by_cases q3_3 : ((xs x3.toNatClampNeg) &&& (nI 63)) = (nI 3)
            · replace h := h.2.2.2.1 q3_3
              refine v_tableIn hC (nI 3) 329 dL_law_33 q3_3 (by decide) (by decide) rfl (by decide) ?_
              refine v_aload_n hC 1 dL_law_329 rfl ?_
              refine v_aload_n hC 0 dL_law_330 rfl ?_
              refine v_iload_n hC 3 dL_law_331 rfl ?_
              refine v_iconst hC (nI 1) dL_law_332 rfl ?_
              refine v_iadd hC dL_law_333 ?_
              obtain ⟨hi44, h⟩ := h
              refine v_sldL hC hV hi44 dL_law_334 ?_
              refine v_callV hC (kH_drop _ _ _ h) cmH_drop ⟨kw422, kw423⟩ kw421 ⟨Nat.le_of_ble_eq_true rfl, Nat.le_of_ble_eq_true rfl⟩ (Nat.le_of_ble_eq_true rfl) rfl (ci := 6) (T := TX6) (N := 12) rfl (As := fun G => [.int (xs (x3 + (nI 1)).toNatClampNeg)]) (fun _ => rfl) (fun _ => rfl) (st := []) (Nat.le_of_ble_eq_true rfl) rfl dL_law_335 (kk_i (fun r46 σ46 h => ?_))
              refine v_aload_n hC 2 dL_law_338 rfl ?_
              refine v_aload_n hC 0 dL_law_339 rfl ?_
              refine v_iload_n hC 3 dL_law_340 rfl ?_
              refine v_iconst hC (nI 1) dL_law_341 rfl ?_
              refine v_iadd hC dL_law_342 ?_
              obtain ⟨hi47, h⟩ := h
              refine v_sldL hC hV hi47 dL_law_343 ?_
              refine v_callV hC (kM_drop _ _ _ h) cmM_drop ⟨kw1076, kw1077⟩ kw1075 ⟨Nat.le_of_ble_eq_true rfl, Nat.le_of_ble_eq_true rfl⟩ (Nat.le_of_ble_eq_true rfl) rfl (ci := 7) (T := TX7) (N := 30) rfl (As := fun G => [.int (xs (x3 + (nI 1)).toNatClampNeg)]) (fun _ => rfl) (fun _ => rfl) (st := [.int r46]) (Nat.le_of_ble_eq_true rfl) rfl dL_law_344 (kk_i (fun r49 σ49 h => ?_))
              refine v_icmp_eq hC 1299 dL_law_347 (by decide) (fun c50 => ?_) (fun c50 => ?_)
              · replace h := h.1 c50
                refine v_iincN hC (nI 6) 3 dL_law_1299 rfl rfl (by decide) (lo2 := fun x3_51 => [(3, .int x3_51), (0, .ref b), (1, .ref (xad X 0)), (2, .ref (xad X 82))]) (fun _ => rfl) (fun x3_51 e51 => ?_)
                replace h := h x3_51 e51
                refine v_goto hC 18 dL_law_1302 (by decide) ?_
                exact V.sub [1, 2, 3, 0] rfl (ih _ _ h)
              · replace h := h.2 c50
                refine v_iconst hC (nI 0) dL_law_350 rfl ?_
                exact h.elim
            · by_cases q3_4 : ((xs x3.toNatClampNeg) &&& (nI 63)) = (nI 4)
              · replace h := h.2.2.2.2.1 q3_4
                refine v_tableIn hC (nI 4) 352 dL_law_33 q3_4 (by decide) (by decide) rfl (by decide) ?_
                refine v_aload_n hC 1 dL_law_352 rfl ?_
                refine v_aload_n hC 0 dL_law_353 rfl ?_
                refine v_iload_n hC 3 dL_law_354 rfl ?_
                refine v_iconst hC (nI 1) dL_law_355 rfl ?_
                refine v_iadd hC dL_law_356 ?_
                obtain ⟨hi52, h⟩ := h
                refine v_sldL hC hV hi52 dL_law_357 ?_
                refine v_i2l hC dL_law_358 ?_
                refine v_bipush hC (nI 32) dL_law_359 rfl ?_
                refine v_lshl hC dL_law_361 ?_
                refine v_aload_n hC 0 dL_law_362 rfl ?_
                refine v_iload_n hC 3 dL_law_363 rfl ?_
                refine v_iconst hC (nI 2) dL_law_364 rfl ?_
                refine v_iadd hC dL_law_365 ?_
                obtain ⟨hi53, h⟩ := h
                refine v_sldL hC hV hi53 dL_law_366 ?_
                refine v_i2l hC dL_law_367 ?_
                refine v_ldc2 hC kw1340 dL_law_368 ?_
                refine v_land hC dL_law_371 ?_
                refine v_lor hC dL_law_372 ?_
                refine v_aload_n hC 0 dL_law_373 rfl ?_
                refine v_iload_n hC 3 dL_law_374 rfl ?_
                refine v_iconst hC (nI 3) dL_law_375 rfl ?_
                refine v_iadd hC dL_law_376 ?_
                obtain ⟨hi54, h⟩ := h
                refine v_sldL hC hV hi54 dL_law_377 ?_
                refine v_callV hC (kH_feed _ _ _ _ h) cmH_feed ⟨kw426, kw427⟩ kw425 ⟨Nat.le_of_ble_eq_true rfl, Nat.le_of_ble_eq_true rfl⟩ (Nat.le_of_ble_eq_true rfl) rfl (ci := 6) (T := TX6) (N := 12) rfl (As := fun G => [.long ((((xs (x3 + (nI 1)).toNatClampNeg).toInt64) <<< ((nI 32).toInt64 &&& 63)) ||| (((xs (x3 + (nI 2)).toNatClampNeg).toInt64) &&& (4294967295 : Int64))), .int (xs (x3 + (nI 3)).toNatClampNeg)]) (fun _ => rfl) (fun _ => rfl) (st := []) (Nat.le_of_ble_eq_true rfl) rfl dL_law_378 (kk_i (fun r56 σ56 h => ?_))
                refine v_aload_n hC 2 dL_law_381 rfl ?_
                refine v_aload_n hC 0 dL_law_382 rfl ?_
                refine v_iload_n hC 3 dL_law_383 rfl ?_
                refine v_iconst hC (nI 1) dL_law_384 rfl ?_
                refine v_iadd hC dL_law_385 ?_
                obtain ⟨hi57, h⟩ := h
                refine v_sldL hC hV hi57 dL_law_386 ?_
                refine v_i2l hC dL_law_387 ?_
                refine v_bipush hC (nI 32) dL_law_388 rfl ?_
                refine v_lshl hC dL_law_390 ?_
                refine v_aload_n hC 0 dL_law_391 rfl ?_
                refine v_iload_n hC 3 dL_law_392 rfl ?_
                refine v_iconst hC (nI 2) dL_law_393 rfl ?_
                refine v_iadd hC dL_law_394 ?_
                obtain ⟨hi58, h⟩ := h
                refine v_sldL hC hV hi58 dL_law_395 ?_
                refine v_i2l hC dL_law_396 ?_
                refine v_ldc2 hC kw1340 dL_law_397 ?_
                refine v_land hC dL_law_400 ?_
                refine v_lor hC dL_law_401 ?_
                refine v_aload_n hC 0 dL_law_402 rfl ?_
                refine v_iload_n hC 3 dL_law_403 rfl ?_
                refine v_iconst hC (nI 3) dL_law_404 rfl ?_
                refine v_iadd hC dL_law_405 ?_
                obtain ⟨hi59, h⟩ := h
                refine v_sldL hC hV hi59 dL_law_406 ?_
                refine v_callV hC (kM_feed _ _ _ _ h) cmM_feed ⟨kw1080, kw1081⟩ kw1079 ⟨Nat.le_of_ble_eq_true rfl, Nat.le_of_ble_eq_true rfl⟩ (Nat.le_of_ble_eq_true rfl) rfl (ci := 7) (T := TX7) (N := 30) rfl (As := fun G => [.long ((((xs (x3 + (nI 1)).toNatClampNeg).toInt64) <<< ((nI 32).toInt64 &&& 63)) ||| (((xs (x3 + (nI 2)).toNatClampNeg).toInt64) &&& (4294967295 : Int64))), .int (xs (x3 + (nI 3)).toNatClampNeg)]) (fun _ => rfl) (fun _ => rfl) (st := [.int r56]) (Nat.le_of_ble_eq_true rfl) rfl dL_law_407 (kk_i (fun r61 σ61 h => ?_))
                refine v_icmp_eq hC 1299 dL_law_410 (by decide) (fun c62 => ?_) (fun c62 => ?_)
                · replace h := h.1 c62
                  refine v_iincN hC (nI 6) 3 dL_law_1299 rfl rfl (by decide) (lo2 := fun x3_63 => [(3, .int x3_63), (0, .ref b), (1, .ref (xad X 0)), (2, .ref (xad X 82))]) (fun _ => rfl) (fun x3_63 e63 => ?_)
                  replace h := h x3_63 e63
                  refine v_goto hC 18 dL_law_1302 (by decide) ?_
                  exact V.sub [1, 2, 3, 0] rfl (ih _ _ h)
                · replace h := h.2 c62
                  refine v_iconst hC (nI 0) dL_law_413 rfl ?_
                  exact h.elim
              · by_cases q3_5 : ((xs x3.toNatClampNeg) &&& (nI 63)) = (nI 5)
                · replace h := h.2.2.2.2.2.1 q3_5
                  refine v_tableIn hC (nI 5) 415 dL_law_33 q3_5 (by decide) (by decide) rfl (by decide) ?_
                  refine v_aload_n hC 1 dL_law_415 rfl ?_
                  refine v_callV hC (kH_market  _ _ h) cmH_market ⟨kw435, kw436⟩ kw434 ⟨Nat.le_of_ble_eq_true rfl, Nat.le_of_ble_eq_true rfl⟩ (Nat.le_of_ble_eq_true rfl) rfl (ci := 6) (T := TX6) (N := 12) rfl (As := fun G => []) (fun _ => rfl) (fun _ => rfl) (st := []) (Nat.le_of_ble_eq_true rfl) rfl dL_law_416 (kk_i (fun r65 σ65 h => ?_))
                  refine v_aload_n hC 2 dL_law_419 rfl ?_
                  refine v_callV hC (kM_market  _ _ h) cmM_market ⟨kw1086, kw1087⟩ kw1085 ⟨Nat.le_of_ble_eq_true rfl, Nat.le_of_ble_eq_true rfl⟩ (Nat.le_of_ble_eq_true rfl) rfl (ci := 7) (T := TX7) (N := 30) rfl (As := fun G => []) (fun _ => rfl) (fun _ => rfl) (st := [.int r65]) (Nat.le_of_ble_eq_true rfl) rfl dL_law_420 (kk_i (fun r67 σ67 h => ?_))
                  refine v_icmp_eq hC 1299 dL_law_423 (by decide) (fun c68 => ?_) (fun c68 => ?_)
                  · replace h := h.1 c68
                    refine v_iincN hC (nI 6) 3 dL_law_1299 rfl rfl (by decide) (lo2 := fun x3_69 => [(3, .int x3_69), (0, .ref b), (1, .ref (xad X 0)), (2, .ref (xad X 82))]) (fun _ => rfl) (fun x3_69 e69 => ?_)
                    replace h := h x3_69 e69
                    refine v_goto hC 18 dL_law_1302 (by decide) ?_
                    exact V.sub [1, 2, 3, 0] rfl (ih _ _ h)
                  · replace h := h.2 c68
                    refine v_iconst hC (nI 0) dL_law_426 rfl ?_
                    exact h.elim
                · by_cases q3_6 : ((xs x3.toNatClampNeg) &&& (nI 63)) = (nI 6)
                  · replace h := h.2.2.2.2.2.2.1 q3_6
                    refine v_tableIn hC (nI 6) 428 dL_law_33 q3_6 (by decide) (by decide) rfl (by decide) ?_
                    refine v_aload_n hC 1 dL_law_428 rfl ?_
                    refine v_callV hC (kH_fault  _ _ h) cmH_fault ⟨kw583, kw584⟩ kw582 ⟨Nat.le_of_ble_eq_true rfl, Nat.le_of_ble_eq_true rfl⟩ (Nat.le_of_ble_eq_true rfl) rfl (ci := 6) (T := TX6) (N := 12) rfl (As := fun G => []) (fun _ => rfl) (fun _ => rfl) (st := []) (Nat.le_of_ble_eq_true rfl) rfl dL_law_429 (kk_i (fun r71 σ71 h => ?_))
                    refine v_aload_n hC 2 dL_law_432 rfl ?_
                    refine v_callV hC (kM_fault  _ _ h) cmM_fault ⟨kw1134, kw1135⟩ kw1133 ⟨Nat.le_of_ble_eq_true rfl, Nat.le_of_ble_eq_true rfl⟩ (Nat.le_of_ble_eq_true rfl) rfl (ci := 7) (T := TX7) (N := 30) rfl (As := fun G => []) (fun _ => rfl) (fun _ => rfl) (st := [.int r71]) (Nat.le_of_ble_eq_true rfl) rfl dL_law_433 (kk_i (fun r73 σ73 h => ?_))
                    refine v_icmp_eq hC 1299 dL_law_436 (by decide) (fun c74 => ?_) (fun c74 => ?_)
                    · replace h := h.1 c74
                      refine v_iincN hC (nI 6) 3 dL_law_1299 rfl rfl (by decide) (lo2 := fun x3_75 => [(3, .int x3_75), (0, .ref b), (1, .ref (xad X 0)), (2, .ref (xad X 82))]) (fun _ => rfl) (fun x3_75 e75 => ?_)
                      replace h := h x3_75 e75
                      refine v_goto hC 18 dL_law_1302 (by decide) ?_
                      exact V.sub [1, 2, 3, 0] rfl (ih _ _ h)
                    · replace h := h.2 c74
                      refine v_iconst hC (nI 0) dL_law_439 rfl ?_
                      exact h.elim
                  · by_cases q3_7 : ((xs x3.toNatClampNeg) &&& (nI 63)) = (nI 7)
                    · replace h := h.2.2.2.2.2.2.2.1 q3_7
                      refine v_tableIn hC (nI 7) 441 dL_law_33 q3_7 (by decide) (by decide) rfl (by decide) ?_
                      refine v_aload_n hC 1 dL_law_441 rfl ?_
                      refine v_aload_n hC 0 dL_law_442 rfl ?_
                      refine v_iload_n hC 3 dL_law_443 rfl ?_
                      refine v_iconst hC (nI 1) dL_law_444 rfl ?_
                      refine v_iadd hC dL_law_445 ?_
                      obtain ⟨hi76, h⟩ := h
                      refine v_sldL hC hV hi76 dL_law_446 ?_
                      refine v_aload_n hC 0 dL_law_447 rfl ?_
                      refine v_iload_n hC 3 dL_law_448 rfl ?_
                      refine v_iconst hC (nI 2) dL_law_449 rfl ?_
                      refine v_iadd hC dL_law_450 ?_
                      obtain ⟨hi77, h⟩ := h
                      refine v_sldL hC hV hi77 dL_law_451 ?_
                      refine v_callV hC (kH_take _ _ _ _ h) cmH_take ⟨kw587, kw588⟩ kw586 ⟨Nat.le_of_ble_eq_true rfl, Nat.le_of_ble_eq_true rfl⟩ (Nat.le_of_ble_eq_true rfl) rfl (ci := 6) (T := TX6) (N := 12) rfl (As := fun G => [.int (xs (x3 + (nI 1)).toNatClampNeg), .int (xs (x3 + (nI 2)).toNatClampNeg)]) (fun _ => rfl) (fun _ => rfl) (st := []) (Nat.le_of_ble_eq_true rfl) rfl dL_law_452 (kk_i (fun r79 σ79 h => ?_))
                      refine v_aload_n hC 2 dL_law_455 rfl ?_
                      refine v_aload_n hC 0 dL_law_456 rfl ?_
                      refine v_iload_n hC 3 dL_law_457 rfl ?_
                      refine v_iconst hC (nI 1) dL_law_458 rfl ?_
                      refine v_iadd hC dL_law_459 ?_
                      obtain ⟨hi80, h⟩ := h
                      refine v_sldL hC hV hi80 dL_law_460 ?_
                      refine v_aload_n hC 0 dL_law_461 rfl ?_
                      refine v_iload_n hC 3 dL_law_462 rfl ?_
                      refine v_iconst hC (nI 2) dL_law_463 rfl ?_
                      refine v_iadd hC dL_law_464 ?_
                      obtain ⟨hi81, h⟩ := h
                      refine v_sldL hC hV hi81 dL_law_465 ?_
                      refine v_callV hC (kM_take _ _ _ _ h) cmM_take ⟨kw1138, kw1139⟩ kw1137 ⟨Nat.le_of_ble_eq_true rfl, Nat.le_of_ble_eq_true rfl⟩ (Nat.le_of_ble_eq_true rfl) rfl (ci := 7) (T := TX7) (N := 30) rfl (As := fun G => [.int (xs (x3 + (nI 1)).toNatClampNeg), .int (xs (x3 + (nI 2)).toNatClampNeg)]) (fun _ => rfl) (fun _ => rfl) (st := [.int r79]) (Nat.le_of_ble_eq_true rfl) rfl dL_law_466 (kk_i (fun r83 σ83 h => ?_))
                      refine v_icmp_eq hC 1299 dL_law_469 (by decide) (fun c84 => ?_) (fun c84 => ?_)
                      · replace h := h.1 c84
                        refine v_iincN hC (nI 6) 3 dL_law_1299 rfl rfl (by decide) (lo2 := fun x3_85 => [(3, .int x3_85), (0, .ref b), (1, .ref (xad X 0)), (2, .ref (xad X 82))]) (fun _ => rfl) (fun x3_85 e85 => ?_)
                        replace h := h x3_85 e85
                        refine v_goto hC 18 dL_law_1302 (by decide) ?_
                        exact V.sub [1, 2, 3, 0] rfl (ih _ _ h)
                      · replace h := h.2 c84
                        refine v_iconst hC (nI 0) dL_law_472 rfl ?_
                        exact h.elim
                    · by_cases q3_8 : ((xs x3.toNatClampNeg) &&& (nI 63)) = (nI 8)
                      · replace h := h.2.2.2.2.2.2.2.2.1 q3_8
                        refine v_tableIn hC (nI 8) 474 dL_law_33 q3_8 (by decide) (by decide) rfl (by decide) ?_
                        refine v_aload_n hC 1 dL_law_474 rfl ?_
                        refine v_aload_n hC 0 dL_law_475 rfl ?_
                        refine v_iload_n hC 3 dL_law_476 rfl ?_
                        refine v_iconst hC (nI 1) dL_law_477 rfl ?_
                        refine v_iadd hC dL_law_478 ?_
                        obtain ⟨hi86, h⟩ := h
                        refine v_sldL hC hV hi86 dL_law_479 ?_
                        refine v_aload_n hC 0 dL_law_480 rfl ?_
                        refine v_iload_n hC 3 dL_law_481 rfl ?_
                        refine v_iconst hC (nI 2) dL_law_482 rfl ?_
                        refine v_iadd hC dL_law_483 ?_
                        obtain ⟨hi87, h⟩ := h
                        refine v_sldL hC hV hi87 dL_law_484 ?_
                        refine v_aload_n hC 0 dL_law_485 rfl ?_
                        refine v_iload_n hC 3 dL_law_486 rfl ?_
                        refine v_iconst hC (nI 3) dL_law_487 rfl ?_
                        refine v_iadd hC dL_law_488 ?_
                        obtain ⟨hi88, h⟩ := h
                        refine v_sldL hC hV hi88 dL_law_489 ?_
                        refine v_callV hC (kH_lay _ _ _ _ _ h) cmH_lay ⟨kw640, kw641⟩ kw639 ⟨Nat.le_of_ble_eq_true rfl, Nat.le_of_ble_eq_true rfl⟩ (Nat.le_of_ble_eq_true rfl) rfl (ci := 6) (T := TX6) (N := 12) rfl (As := fun G => [.int (xs (x3 + (nI 1)).toNatClampNeg), .int (xs (x3 + (nI 2)).toNatClampNeg), .int (xs (x3 + (nI 3)).toNatClampNeg)]) (fun _ => rfl) (fun _ => rfl) (st := []) (Nat.le_of_ble_eq_true rfl) rfl dL_law_490 (kk_i (fun r90 σ90 h => ?_))
                        refine v_aload_n hC 2 dL_law_493 rfl ?_
                        refine v_aload_n hC 0 dL_law_494 rfl ?_
                        refine v_iload_n hC 3 dL_law_495 rfl ?_
                        refine v_iconst hC (nI 1) dL_law_496 rfl ?_
                        refine v_iadd hC dL_law_497 ?_
                        obtain ⟨hi91, h⟩ := h
                        refine v_sldL hC hV hi91 dL_law_498 ?_
                        refine v_aload_n hC 0 dL_law_499 rfl ?_
                        refine v_iload_n hC 3 dL_law_500 rfl ?_
                        refine v_iconst hC (nI 2) dL_law_501 rfl ?_
                        refine v_iadd hC dL_law_502 ?_
                        obtain ⟨hi92, h⟩ := h
                        refine v_sldL hC hV hi92 dL_law_503 ?_
                        refine v_aload_n hC 0 dL_law_504 rfl ?_
                        refine v_iload_n hC 3 dL_law_505 rfl ?_
                        refine v_iconst hC (nI 3) dL_law_506 rfl ?_
                        refine v_iadd hC dL_law_507 ?_
                        obtain ⟨hi93, h⟩ := h
                        refine v_sldL hC hV hi93 dL_law_508 ?_
                        refine v_callV hC (kM_lay _ _ _ _ _ h) cmM_lay ⟨kw1174, kw1175⟩ kw1173 ⟨Nat.le_of_ble_eq_true rfl, Nat.le_of_ble_eq_true rfl⟩ (Nat.le_of_ble_eq_true rfl) rfl (ci := 7) (T := TX7) (N := 30) rfl (As := fun G => [.int (xs (x3 + (nI 1)).toNatClampNeg), .int (xs (x3 + (nI 2)).toNatClampNeg), .int (xs (x3 + (nI 3)).toNatClampNeg)]) (fun _ => rfl) (fun _ => rfl) (st := [.int r90]) (Nat.le_of_ble_eq_true rfl) rfl dL_law_509 (kk_i (fun r95 σ95 h => ?_))
                        refine v_icmp_eq hC 1299 dL_law_512 (by decide) (fun c96 => ?_) (fun c96 => ?_)
                        · replace h := h.1 c96
                          refine v_iincN hC (nI 6) 3 dL_law_1299 rfl rfl (by decide) (lo2 := fun x3_97 => [(3, .int x3_97), (0, .ref b), (1, .ref (xad X 0)), (2, .ref (xad X 82))]) (fun _ => rfl) (fun x3_97 e97 => ?_)
                          replace h := h x3_97 e97
                          refine v_goto hC 18 dL_law_1302 (by decide) ?_
                          exact V.sub [1, 2, 3, 0] rfl (ih _ _ h)
                        · replace h := h.2 c96
                          refine v_iconst hC (nI 0) dL_law_515 rfl ?_
                          exact h.elim
                      · by_cases q3_9 : ((xs x3.toNatClampNeg) &&& (nI 63)) = (nI 9)
                        · replace h := h.2.2.2.2.2.2.2.2.2.1 q3_9
                          refine v_tableIn hC (nI 9) 517 dL_law_33 q3_9 (by decide) (by decide) rfl (by decide) ?_
                          refine v_aload_n hC 1 dL_law_517 rfl ?_
                          refine v_callV hC (kH_day  _ _ h) cmH_day ⟨kw645, kw646⟩ kw644 ⟨Nat.le_of_ble_eq_true rfl, Nat.le_of_ble_eq_true rfl⟩ (Nat.le_of_ble_eq_true rfl) rfl (ci := 6) (T := TX6) (N := 12) rfl (As := fun G => []) (fun _ => rfl) (fun _ => rfl) (st := []) (Nat.le_of_ble_eq_true rfl) rfl dL_law_518 (kk_i (fun r99 σ99 h => ?_))
                          refine v_aload_n hC 2 dL_law_521 rfl ?_
                          refine v_callV hC (kM_day  _ _ h) cmM_day ⟨kw1182, kw1183⟩ kw1181 ⟨Nat.le_of_ble_eq_true rfl, Nat.le_of_ble_eq_true rfl⟩ (Nat.le_of_ble_eq_true rfl) rfl (ci := 7) (T := TX7) (N := 30) rfl (As := fun G => []) (fun _ => rfl) (fun _ => rfl) (st := [.int r99]) (Nat.le_of_ble_eq_true rfl) rfl dL_law_522 (kk_i (fun r101 σ101 h => ?_))
                          refine v_icmp_eq hC 1299 dL_law_525 (by decide) (fun c102 => ?_) (fun c102 => ?_)
                          · replace h := h.1 c102
                            refine v_iincN hC (nI 6) 3 dL_law_1299 rfl rfl (by decide) (lo2 := fun x3_103 => [(3, .int x3_103), (0, .ref b), (1, .ref (xad X 0)), (2, .ref (xad X 82))]) (fun _ => rfl) (fun x3_103 e103 => ?_)
                            replace h := h x3_103 e103
                            refine v_goto hC 18 dL_law_1302 (by decide) ?_
                            exact V.sub [1, 2, 3, 0] rfl (ih _ _ h)
                          · replace h := h.2 c102
                            refine v_iconst hC (nI 0) dL_law_528 rfl ?_
                            exact h.elim
                        · by_cases q3_10 : ((xs x3.toNatClampNeg) &&& (nI 63)) = (nI 10)
                          · replace h := h.2.2.2.2.2.2.2.2.2.2.1 q3_10
                            refine v_tableIn hC (nI 10) 530 dL_law_33 q3_10 (by decide) (by decide) rfl (by decide) ?_
                            refine v_aload_n hC 1 dL_law_530 rfl ?_
                            refine v_callV hC (kH_undo  _ _ h) cmH_undo ⟨kw658, kw659⟩ kw657 ⟨Nat.le_of_ble_eq_true rfl, Nat.le_of_ble_eq_true rfl⟩ (Nat.le_of_ble_eq_true rfl) rfl (ci := 6) (T := TX6) (N := 12) rfl (As := fun G => []) (fun _ => rfl) (fun _ => rfl) (st := []) (Nat.le_of_ble_eq_true rfl) rfl dL_law_531 (kk_i (fun r105 σ105 h => ?_))
                            refine v_aload_n hC 2 dL_law_534 rfl ?_
                            refine v_callV hC (kM_undo  _ _ h) cmM_undo ⟨kw1194, kw1195⟩ kw1193 ⟨Nat.le_of_ble_eq_true rfl, Nat.le_of_ble_eq_true rfl⟩ (Nat.le_of_ble_eq_true rfl) rfl (ci := 7) (T := TX7) (N := 30) rfl (As := fun G => []) (fun _ => rfl) (fun _ => rfl) (st := [.int r105]) (Nat.le_of_ble_eq_true rfl) rfl dL_law_535 (kk_i (fun r107 σ107 h => ?_))
                            refine v_icmp_eq hC 1299 dL_law_538 (by decide) (fun c108 => ?_) (fun c108 => ?_)
                            · replace h := h.1 c108
                              refine v_iincN hC (nI 6) 3 dL_law_1299 rfl rfl (by decide) (lo2 := fun x3_109 => [(3, .int x3_109), (0, .ref b), (1, .ref (xad X 0)), (2, .ref (xad X 82))]) (fun _ => rfl) (fun x3_109 e109 => ?_)
                              replace h := h x3_109 e109
                              refine v_goto hC 18 dL_law_1302 (by decide) ?_
                              exact V.sub [1, 2, 3, 0] rfl (ih _ _ h)
                            · replace h := h.2 c108
                              refine v_iconst hC (nI 0) dL_law_541 rfl ?_
                              exact h.elim
                          · by_cases q3_11 : ((xs x3.toNatClampNeg) &&& (nI 63)) = (nI 11)
                            · replace h := h.2.2.2.2.2.2.2.2.2.2.2.1 q3_11
                              refine v_tableIn hC (nI 11) 543 dL_law_33 q3_11 (by decide) (by decide) rfl (by decide) ?_
                              refine v_aload_n hC 1 dL_law_543 rfl ?_
                              refine v_aload_n hC 0 dL_law_544 rfl ?_
                              refine v_iload_n hC 3 dL_law_545 rfl ?_
                              refine v_iconst hC (nI 1) dL_law_546 rfl ?_
                              refine v_iadd hC dL_law_547 ?_
                              obtain ⟨hi110, h⟩ := h
                              refine v_sldL hC hV hi110 dL_law_548 ?_
                              refine v_aload_n hC 0 dL_law_549 rfl ?_
                              refine v_iload_n hC 3 dL_law_550 rfl ?_
                              refine v_iconst hC (nI 2) dL_law_551 rfl ?_
                              refine v_iadd hC dL_law_552 ?_
                              obtain ⟨hi111, h⟩ := h
                              refine v_sldL hC hV hi111 dL_law_553 ?_
                              refine v_callV hC (kH_ware _ _ _ _ h) cmH_ware ⟨kw674, kw675⟩ kw673 ⟨Nat.le_of_ble_eq_true rfl, Nat.le_of_ble_eq_true rfl⟩ (Nat.le_of_ble_eq_true rfl) rfl (ci := 6) (T := TX6) (N := 12) rfl (As := fun G => [.int (xs (x3 + (nI 1)).toNatClampNeg), .int (xs (x3 + (nI 2)).toNatClampNeg)]) (fun _ => rfl) (fun _ => rfl) (st := []) (Nat.le_of_ble_eq_true rfl) rfl dL_law_554 (kk_i (fun r113 σ113 h => ?_))
                              refine v_aload_n hC 2 dL_law_557 rfl ?_
                              refine v_aload_n hC 0 dL_law_558 rfl ?_
                              refine v_iload_n hC 3 dL_law_559 rfl ?_
                              refine v_iconst hC (nI 1) dL_law_560 rfl ?_
                              refine v_iadd hC dL_law_561 ?_
                              obtain ⟨hi114, h⟩ := h
                              refine v_sldL hC hV hi114 dL_law_562 ?_
                              refine v_aload_n hC 0 dL_law_563 rfl ?_
                              refine v_iload_n hC 3 dL_law_564 rfl ?_
                              refine v_iconst hC (nI 2) dL_law_565 rfl ?_
                              refine v_iadd hC dL_law_566 ?_
                              obtain ⟨hi115, h⟩ := h
                              refine v_sldL hC hV hi115 dL_law_567 ?_
                              refine v_callV hC (kM_ware _ _ _ _ h) cmM_ware ⟨kw1198, kw1199⟩ kw1197 ⟨Nat.le_of_ble_eq_true rfl, Nat.le_of_ble_eq_true rfl⟩ (Nat.le_of_ble_eq_true rfl) rfl (ci := 7) (T := TX7) (N := 30) rfl (As := fun G => [.int (xs (x3 + (nI 1)).toNatClampNeg), .int (xs (x3 + (nI 2)).toNatClampNeg)]) (fun _ => rfl) (fun _ => rfl) (st := [.int r113]) (Nat.le_of_ble_eq_true rfl) rfl dL_law_568 (kk_i (fun r117 σ117 h => ?_))
                              refine v_icmp_eq hC 1299 dL_law_571 (by decide) (fun c118 => ?_) (fun c118 => ?_)
                              · replace h := h.1 c118
                                refine v_iincN hC (nI 6) 3 dL_law_1299 rfl rfl (by decide) (lo2 := fun x3_119 => [(3, .int x3_119), (0, .ref b), (1, .ref (xad X 0)), (2, .ref (xad X 82))]) (fun _ => rfl) (fun x3_119 e119 => ?_)
                                replace h := h x3_119 e119
                                refine v_goto hC 18 dL_law_1302 (by decide) ?_
                                exact V.sub [1, 2, 3, 0] rfl (ih _ _ h)
                              · replace h := h.2 c118
                                refine v_iconst hC (nI 0) dL_law_574 rfl ?_
                                exact h.elim
                            · by_cases q3_12 : ((xs x3.toNatClampNeg) &&& (nI 63)) = (nI 12)
                              · replace h := h.2.2.2.2.2.2.2.2.2.2.2.2.1 q3_12
                                refine v_tableIn hC (nI 12) 576 dL_law_33 q3_12 (by decide) (by decide) rfl (by decide) ?_
                                refine v_aload_n hC 1 dL_law_576 rfl ?_
                                refine v_aload_n hC 0 dL_law_577 rfl ?_
                                refine v_iload_n hC 3 dL_law_578 rfl ?_
                                refine v_iconst hC (nI 1) dL_law_579 rfl ?_
                                refine v_iadd hC dL_law_580 ?_
                                obtain ⟨hi120, h⟩ := h
                                refine v_sldL hC hV hi120 dL_law_581 ?_
                                refine v_aload_n hC 0 dL_law_582 rfl ?_
                                refine v_iload_n hC 3 dL_law_583 rfl ?_
                                refine v_iconst hC (nI 2) dL_law_584 rfl ?_
                                refine v_iadd hC dL_law_585 ?_
                                obtain ⟨hi121, h⟩ := h
                                refine v_sldL hC hV hi121 dL_law_586 ?_
                                refine v_callV hC (kH_buyer _ _ _ _ h) cmH_buyer ⟨kw686, kw687⟩ kw685 ⟨Nat.le_of_ble_eq_true rfl, Nat.le_of_ble_eq_true rfl⟩ (Nat.le_of_ble_eq_true rfl) rfl (ci := 6) (T := TX6) (N := 12) rfl (As := fun G => [.int (xs (x3 + (nI 1)).toNatClampNeg), .int (xs (x3 + (nI 2)).toNatClampNeg)]) (fun _ => rfl) (fun _ => rfl) (st := []) (Nat.le_of_ble_eq_true rfl) rfl dL_law_587 (kk_i (fun r123 σ123 h => ?_))
                                refine v_aload_n hC 2 dL_law_590 rfl ?_
                                refine v_aload_n hC 0 dL_law_591 rfl ?_
                                refine v_iload_n hC 3 dL_law_592 rfl ?_
                                refine v_iconst hC (nI 1) dL_law_593 rfl ?_
                                refine v_iadd hC dL_law_594 ?_
                                obtain ⟨hi124, h⟩ := h
                                refine v_sldL hC hV hi124 dL_law_595 ?_
                                refine v_aload_n hC 0 dL_law_596 rfl ?_
                                refine v_iload_n hC 3 dL_law_597 rfl ?_
                                refine v_iconst hC (nI 2) dL_law_598 rfl ?_
                                refine v_iadd hC dL_law_599 ?_
                                obtain ⟨hi125, h⟩ := h
                                refine v_sldL hC hV hi125 dL_law_600 ?_
                                refine v_callV hC (kM_buyer _ _ _ _ h) cmM_buyer ⟨kw1210, kw1211⟩ kw1209 ⟨Nat.le_of_ble_eq_true rfl, Nat.le_of_ble_eq_true rfl⟩ (Nat.le_of_ble_eq_true rfl) rfl (ci := 7) (T := TX7) (N := 30) rfl (As := fun G => [.int (xs (x3 + (nI 1)).toNatClampNeg), .int (xs (x3 + (nI 2)).toNatClampNeg)]) (fun _ => rfl) (fun _ => rfl) (st := [.int r123]) (Nat.le_of_ble_eq_true rfl) rfl dL_law_601 (kk_i (fun r127 σ127 h => ?_))
                                refine v_icmp_eq hC 1299 dL_law_604 (by decide) (fun c128 => ?_) (fun c128 => ?_)
                                · replace h := h.1 c128
                                  refine v_iincN hC (nI 6) 3 dL_law_1299 rfl rfl (by decide) (lo2 := fun x3_129 => [(3, .int x3_129), (0, .ref b), (1, .ref (xad X 0)), (2, .ref (xad X 82))]) (fun _ => rfl) (fun x3_129 e129 => ?_)
                                  replace h := h x3_129 e129
                                  refine v_goto hC 18 dL_law_1302 (by decide) ?_
                                  exact V.sub [1, 2, 3, 0] rfl (ih _ _ h)
                                · replace h := h.2 c128
                                  refine v_iconst hC (nI 0) dL_law_607 rfl ?_
                                  exact h.elim
                              · by_cases q3_13 : ((xs x3.toNatClampNeg) &&& (nI 63)) = (nI 13)
                                · replace h := h.2.2.2.2.2.2.2.2.2.2.2.2.2.1 q3_13
                                  refine v_tableIn hC (nI 13) 609 dL_law_33 q3_13 (by decide) (by decide) rfl (by decide) ?_
                                  refine v_aload_n hC 1 dL_law_609 rfl ?_
                                  refine v_aload_n hC 0 dL_law_610 rfl ?_
                                  refine v_iload_n hC 3 dL_law_611 rfl ?_
                                  refine v_iconst hC (nI 1) dL_law_612 rfl ?_
                                  refine v_iadd hC dL_law_613 ?_
                                  obtain ⟨hi130, h⟩ := h
                                  refine v_sldL hC hV hi130 dL_law_614 ?_
                                  refine v_aload_n hC 0 dL_law_615 rfl ?_
                                  refine v_iload_n hC 3 dL_law_616 rfl ?_
                                  refine v_iconst hC (nI 2) dL_law_617 rfl ?_
                                  refine v_iadd hC dL_law_618 ?_
                                  obtain ⟨hi131, h⟩ := h
                                  refine v_sldL hC hV hi131 dL_law_619 ?_
                                  refine v_callV hC (kH_worth _ _ _ _ h) cmH_worth ⟨kw690, kw691⟩ kw689 ⟨Nat.le_of_ble_eq_true rfl, Nat.le_of_ble_eq_true rfl⟩ (Nat.le_of_ble_eq_true rfl) rfl (ci := 6) (T := TX6) (N := 12) rfl (As := fun G => [.int (xs (x3 + (nI 1)).toNatClampNeg), .int (xs (x3 + (nI 2)).toNatClampNeg)]) (fun _ => rfl) (fun _ => rfl) (st := []) (Nat.le_of_ble_eq_true rfl) rfl dL_law_620 (kk_i (fun r133 σ133 h => ?_))
                                  refine v_aload_n hC 2 dL_law_623 rfl ?_
                                  refine v_aload_n hC 0 dL_law_624 rfl ?_
                                  refine v_iload_n hC 3 dL_law_625 rfl ?_
                                  refine v_iconst hC (nI 1) dL_law_626 rfl ?_
                                  refine v_iadd hC dL_law_627 ?_
                                  obtain ⟨hi134, h⟩ := h
                                  refine v_sldL hC hV hi134 dL_law_628 ?_
                                  refine v_aload_n hC 0 dL_law_629 rfl ?_
                                  refine v_iload_n hC 3 dL_law_630 rfl ?_
                                  refine v_iconst hC (nI 2) dL_law_631 rfl ?_
                                  refine v_iadd hC dL_law_632 ?_
                                  obtain ⟨hi135, h⟩ := h
                                  refine v_sldL hC hV hi135 dL_law_633 ?_
                                  refine v_callV hC (kM_worth _ _ _ _ h) cmM_worth ⟨kw1214, kw1215⟩ kw1213 ⟨Nat.le_of_ble_eq_true rfl, Nat.le_of_ble_eq_true rfl⟩ (Nat.le_of_ble_eq_true rfl) rfl (ci := 7) (T := TX7) (N := 30) rfl (As := fun G => [.int (xs (x3 + (nI 1)).toNatClampNeg), .int (xs (x3 + (nI 2)).toNatClampNeg)]) (fun _ => rfl) (fun _ => rfl) (st := [.int r133]) (Nat.le_of_ble_eq_true rfl) rfl dL_law_634 (kk_i (fun r137 σ137 h => ?_))
                                  refine v_icmp_eq hC 1299 dL_law_637 (by decide) (fun c138 => ?_) (fun c138 => ?_)
                                  · replace h := h.1 c138
                                    refine v_iincN hC (nI 6) 3 dL_law_1299 rfl rfl (by decide) (lo2 := fun x3_139 => [(3, .int x3_139), (0, .ref b), (1, .ref (xad X 0)), (2, .ref (xad X 82))]) (fun _ => rfl) (fun x3_139 e139 => ?_)
                                    replace h := h x3_139 e139
                                    refine v_goto hC 18 dL_law_1302 (by decide) ?_
                                    exact V.sub [1, 2, 3, 0] rfl (ih _ _ h)
                                  · replace h := h.2 c138
                                    refine v_iconst hC (nI 0) dL_law_640 rfl ?_
                                    exact h.elim
                                · by_cases q3_14 : ((xs x3.toNatClampNeg) &&& (nI 63)) = (nI 14)
                                  · replace h := h.2.2.2.2.2.2.2.2.2.2.2.2.2.2.1 q3_14
                                    refine v_tableIn hC (nI 14) 642 dL_law_33 q3_14 (by decide) (by decide) rfl (by decide) ?_
                                    refine v_aload_n hC 1 dL_law_642 rfl ?_
                                    refine v_aload_n hC 0 dL_law_643 rfl ?_
                                    refine v_iload_n hC 3 dL_law_644 rfl ?_
                                    refine v_iconst hC (nI 1) dL_law_645 rfl ?_
                                    refine v_iadd hC dL_law_646 ?_
                                    obtain ⟨hi140, h⟩ := h
                                    refine v_sldL hC hV hi140 dL_law_647 ?_
                                    refine v_aload_n hC 0 dL_law_648 rfl ?_
                                    refine v_iload_n hC 3 dL_law_649 rfl ?_
                                    refine v_iconst hC (nI 2) dL_law_650 rfl ?_
                                    refine v_iadd hC dL_law_651 ?_
                                    obtain ⟨hi141, h⟩ := h
                                    refine v_sldL hC hV hi141 dL_law_652 ?_
                                    refine v_aload_n hC 0 dL_law_653 rfl ?_
                                    refine v_iload_n hC 3 dL_law_654 rfl ?_
                                    refine v_iconst hC (nI 3) dL_law_655 rfl ?_
                                    refine v_iadd hC dL_law_656 ?_
                                    obtain ⟨hi142, h⟩ := h
                                    refine v_sldL hC hV hi142 dL_law_657 ?_
                                    refine v_callV hC (kH_best _ _ _ _ _ h) cmH_best ⟨kw695, kw696⟩ kw694 ⟨Nat.le_of_ble_eq_true rfl, Nat.le_of_ble_eq_true rfl⟩ (Nat.le_of_ble_eq_true rfl) rfl (ci := 6) (T := TX6) (N := 12) rfl (As := fun G => [.int (xs (x3 + (nI 1)).toNatClampNeg), .int (xs (x3 + (nI 2)).toNatClampNeg), .int (xs (x3 + (nI 3)).toNatClampNeg)]) (fun _ => rfl) (fun _ => rfl) (st := []) (Nat.le_of_ble_eq_true rfl) rfl dL_law_658 (kk_i (fun r144 σ144 h => ?_))
                                    refine v_aload_n hC 2 dL_law_661 rfl ?_
                                    refine v_aload_n hC 0 dL_law_662 rfl ?_
                                    refine v_iload_n hC 3 dL_law_663 rfl ?_
                                    refine v_iconst hC (nI 1) dL_law_664 rfl ?_
                                    refine v_iadd hC dL_law_665 ?_
                                    obtain ⟨hi145, h⟩ := h
                                    refine v_sldL hC hV hi145 dL_law_666 ?_
                                    refine v_aload_n hC 0 dL_law_667 rfl ?_
                                    refine v_iload_n hC 3 dL_law_668 rfl ?_
                                    refine v_iconst hC (nI 2) dL_law_669 rfl ?_
                                    refine v_iadd hC dL_law_670 ?_
                                    obtain ⟨hi146, h⟩ := h
                                    refine v_sldL hC hV hi146 dL_law_671 ?_
                                    refine v_aload_n hC 0 dL_law_672 rfl ?_
                                    refine v_iload_n hC 3 dL_law_673 rfl ?_
                                    refine v_iconst hC (nI 3) dL_law_674 rfl ?_
                                    refine v_iadd hC dL_law_675 ?_
                                    obtain ⟨hi147, h⟩ := h
                                    refine v_sldL hC hV hi147 dL_law_676 ?_
                                    refine v_callV hC (kM_best _ _ _ _ _ h) cmM_best ⟨kw1218, kw1219⟩ kw1217 ⟨Nat.le_of_ble_eq_true rfl, Nat.le_of_ble_eq_true rfl⟩ (Nat.le_of_ble_eq_true rfl) rfl (ci := 7) (T := TX7) (N := 30) rfl (As := fun G => [.int (xs (x3 + (nI 1)).toNatClampNeg), .int (xs (x3 + (nI 2)).toNatClampNeg), .int (xs (x3 + (nI 3)).toNatClampNeg)]) (fun _ => rfl) (fun _ => rfl) (st := [.int r144]) (Nat.le_of_ble_eq_true rfl) rfl dL_law_677 (kk_i (fun r149 σ149 h => ?_))
                                    refine v_icmp_eq hC 1299 dL_law_680 (by decide) (fun c150 => ?_) (fun c150 => ?_)
                                    · replace h := h.1 c150
                                      refine v_iincN hC (nI 6) 3 dL_law_1299 rfl rfl (by decide) (lo2 := fun x3_151 => [(3, .int x3_151), (0, .ref b), (1, .ref (xad X 0)), (2, .ref (xad X 82))]) (fun _ => rfl) (fun x3_151 e151 => ?_)
                                      replace h := h x3_151 e151
                                      refine v_goto hC 18 dL_law_1302 (by decide) ?_
                                      exact V.sub [1, 2, 3, 0] rfl (ih _ _ h)
                                    · replace h := h.2 c150
                                      refine v_iconst hC (nI 0) dL_law_683 rfl ?_
                                      exact h.elim
                                  · by_cases q3_15 : ((xs x3.toNatClampNeg) &&& (nI 63)) = (nI 15)
                                    · replace h := h.2.2.2.2.2.2.2.2.2.2.2.2.2.2.2.1 q3_15
                                      refine v_tableIn hC (nI 15) 685 dL_law_33 q3_15 (by decide) (by decide) rfl (by decide) ?_
                                      refine v_aload_n hC 1 dL_law_685 rfl ?_
                                      refine v_aload_n hC 0 dL_law_686 rfl ?_
                                      refine v_iload_n hC 3 dL_law_687 rfl ?_
                                      refine v_iconst hC (nI 1) dL_law_688 rfl ?_
                                      refine v_iadd hC dL_law_689 ?_
                                      obtain ⟨hi152, h⟩ := h
                                      refine v_sldL hC hV hi152 dL_law_690 ?_
                                      refine v_aload_n hC 0 dL_law_691 rfl ?_
                                      refine v_iload_n hC 3 dL_law_692 rfl ?_
                                      refine v_iconst hC (nI 2) dL_law_693 rfl ?_
                                      refine v_iadd hC dL_law_694 ?_
                                      obtain ⟨hi153, h⟩ := h
                                      refine v_sldL hC hV hi153 dL_law_695 ?_
                                      refine v_callV hC (kH_passBy _ _ _ _ h) cmH_passBy ⟨kw737, kw738⟩ kw736 ⟨Nat.le_of_ble_eq_true rfl, Nat.le_of_ble_eq_true rfl⟩ (Nat.le_of_ble_eq_true rfl) rfl (ci := 6) (T := TX6) (N := 12) rfl (As := fun G => [.int (xs (x3 + (nI 1)).toNatClampNeg), .int (xs (x3 + (nI 2)).toNatClampNeg)]) (fun _ => rfl) (fun _ => rfl) (st := []) (Nat.le_of_ble_eq_true rfl) rfl dL_law_696 (kk_i (fun r155 σ155 h => ?_))
                                      refine v_aload_n hC 2 dL_law_699 rfl ?_
                                      refine v_aload_n hC 0 dL_law_700 rfl ?_
                                      refine v_iload_n hC 3 dL_law_701 rfl ?_
                                      refine v_iconst hC (nI 1) dL_law_702 rfl ?_
                                      refine v_iadd hC dL_law_703 ?_
                                      obtain ⟨hi156, h⟩ := h
                                      refine v_sldL hC hV hi156 dL_law_704 ?_
                                      refine v_aload_n hC 0 dL_law_705 rfl ?_
                                      refine v_iload_n hC 3 dL_law_706 rfl ?_
                                      refine v_iconst hC (nI 2) dL_law_707 rfl ?_
                                      refine v_iadd hC dL_law_708 ?_
                                      obtain ⟨hi157, h⟩ := h
                                      refine v_sldL hC hV hi157 dL_law_709 ?_
                                      refine v_callV hC (kM_passBy _ _ _ _ h) cmM_passBy ⟨kw1238, kw1239⟩ kw1237 ⟨Nat.le_of_ble_eq_true rfl, Nat.le_of_ble_eq_true rfl⟩ (Nat.le_of_ble_eq_true rfl) rfl (ci := 7) (T := TX7) (N := 30) rfl (As := fun G => [.int (xs (x3 + (nI 1)).toNatClampNeg), .int (xs (x3 + (nI 2)).toNatClampNeg)]) (fun _ => rfl) (fun _ => rfl) (st := [.int r155]) (Nat.le_of_ble_eq_true rfl) rfl dL_law_710 (kk_i (fun r159 σ159 h => ?_))
                                      refine v_icmp_eq hC 1299 dL_law_713 (by decide) (fun c160 => ?_) (fun c160 => ?_)
                                      · replace h := h.1 c160
                                        refine v_iincN hC (nI 6) 3 dL_law_1299 rfl rfl (by decide) (lo2 := fun x3_161 => [(3, .int x3_161), (0, .ref b), (1, .ref (xad X 0)), (2, .ref (xad X 82))]) (fun _ => rfl) (fun x3_161 e161 => ?_)
                                        replace h := h x3_161 e161
                                        refine v_goto hC 18 dL_law_1302 (by decide) ?_
                                        exact V.sub [1, 2, 3, 0] rfl (ih _ _ h)
                                      · replace h := h.2 c160
                                        refine v_iconst hC (nI 0) dL_law_716 rfl ?_
                                        exact h.elim
                                    · by_cases q3_16 : ((xs x3.toNatClampNeg) &&& (nI 63)) = (nI 16)
                                      · replace h := h.2.2.2.2.2.2.2.2.2.2.2.2.2.2.2.2.1 q3_16
                                        refine v_tableIn hC (nI 16) 718 dL_law_33 q3_16 (by decide) (by decide) rfl (by decide) ?_
                                        refine v_aload_n hC 1 dL_law_718 rfl ?_
                                        refine v_aload_n hC 0 dL_law_719 rfl ?_
                                        refine v_iload_n hC 3 dL_law_720 rfl ?_
                                        refine v_iconst hC (nI 1) dL_law_721 rfl ?_
                                        refine v_iadd hC dL_law_722 ?_
                                        obtain ⟨hi162, h⟩ := h
                                        refine v_sldL hC hV hi162 dL_law_723 ?_
                                        refine v_aload_n hC 0 dL_law_724 rfl ?_
                                        refine v_iload_n hC 3 dL_law_725 rfl ?_
                                        refine v_iconst hC (nI 2) dL_law_726 rfl ?_
                                        refine v_iadd hC dL_law_727 ?_
                                        obtain ⟨hi163, h⟩ := h
                                        refine v_sldL hC hV hi163 dL_law_728 ?_
                                        refine v_aload_n hC 0 dL_law_729 rfl ?_
                                        refine v_iload_n hC 3 dL_law_730 rfl ?_
                                        refine v_iconst hC (nI 3) dL_law_731 rfl ?_
                                        refine v_iadd hC dL_law_732 ?_
                                        obtain ⟨hi164, h⟩ := h
                                        refine v_sldL hC hV hi164 dL_law_733 ?_
                                        refine v_callV hC (kH_laid _ _ _ _ _ h) cmH_laid ⟨kw746, kw747⟩ kw745 ⟨Nat.le_of_ble_eq_true rfl, Nat.le_of_ble_eq_true rfl⟩ (Nat.le_of_ble_eq_true rfl) rfl (ci := 6) (T := TX6) (N := 12) rfl (As := fun G => [.int (xs (x3 + (nI 1)).toNatClampNeg), .int (xs (x3 + (nI 2)).toNatClampNeg), .int (xs (x3 + (nI 3)).toNatClampNeg)]) (fun _ => rfl) (fun _ => rfl) (st := []) (Nat.le_of_ble_eq_true rfl) rfl dL_law_734 (kk_i (fun r166 σ166 h => ?_))
                                        refine v_aload_n hC 2 dL_law_737 rfl ?_
                                        refine v_aload_n hC 0 dL_law_738 rfl ?_
                                        refine v_iload_n hC 3 dL_law_739 rfl ?_
                                        refine v_iconst hC (nI 1) dL_law_740 rfl ?_
                                        refine v_iadd hC dL_law_741 ?_
                                        obtain ⟨hi167, h⟩ := h
                                        refine v_sldL hC hV hi167 dL_law_742 ?_
                                        refine v_aload_n hC 0 dL_law_743 rfl ?_
                                        refine v_iload_n hC 3 dL_law_744 rfl ?_
                                        refine v_iconst hC (nI 2) dL_law_745 rfl ?_
                                        refine v_iadd hC dL_law_746 ?_
                                        obtain ⟨hi168, h⟩ := h
                                        refine v_sldL hC hV hi168 dL_law_747 ?_
                                        refine v_aload_n hC 0 dL_law_748 rfl ?_
                                        refine v_iload_n hC 3 dL_law_749 rfl ?_
                                        refine v_iconst hC (nI 3) dL_law_750 rfl ?_
                                        refine v_iadd hC dL_law_751 ?_
                                        obtain ⟨hi169, h⟩ := h
                                        refine v_sldL hC hV hi169 dL_law_752 ?_
                                        refine v_callV hC (kM_laid _ _ _ _ _ h) cmM_laid ⟨kw1242, kw1243⟩ kw1241 ⟨Nat.le_of_ble_eq_true rfl, Nat.le_of_ble_eq_true rfl⟩ (Nat.le_of_ble_eq_true rfl) rfl (ci := 7) (T := TX7) (N := 30) rfl (As := fun G => [.int (xs (x3 + (nI 1)).toNatClampNeg), .int (xs (x3 + (nI 2)).toNatClampNeg), .int (xs (x3 + (nI 3)).toNatClampNeg)]) (fun _ => rfl) (fun _ => rfl) (st := [.int r166]) (Nat.le_of_ble_eq_true rfl) rfl dL_law_753 (kk_i (fun r171 σ171 h => ?_))
                                        refine v_icmp_eq hC 1299 dL_law_756 (by decide) (fun c172 => ?_) (fun c172 => ?_)
                                        · replace h := h.1 c172
                                          refine v_iincN hC (nI 6) 3 dL_law_1299 rfl rfl (by decide) (lo2 := fun x3_173 => [(3, .int x3_173), (0, .ref b), (1, .ref (xad X 0)), (2, .ref (xad X 82))]) (fun _ => rfl) (fun x3_173 e173 => ?_)
                                          replace h := h x3_173 e173
                                          refine v_goto hC 18 dL_law_1302 (by decide) ?_
                                          exact V.sub [1, 2, 3, 0] rfl (ih _ _ h)
                                        · replace h := h.2 c172
                                          refine v_iconst hC (nI 0) dL_law_759 rfl ?_
                                          exact h.elim
                                      · by_cases q3_17 : ((xs x3.toNatClampNeg) &&& (nI 63)) = (nI 17)
                                        · replace h := h.2.2.2.2.2.2.2.2.2.2.2.2.2.2.2.2.2.1 q3_17
                                          refine v_tableIn hC (nI 17) 761 dL_law_33 q3_17 (by decide) (by decide) rfl (by decide) ?_
                                          refine v_aload_n hC 1 dL_law_761 rfl ?_
                                          refine v_aload_n hC 0 dL_law_762 rfl ?_
                                          refine v_iload_n hC 3 dL_law_763 rfl ?_
                                          refine v_iconst hC (nI 1) dL_law_764 rfl ?_
                                          refine v_iadd hC dL_law_765 ?_
                                          obtain ⟨hi174, h⟩ := h
                                          refine v_sldL hC hV hi174 dL_law_766 ?_
                                          refine v_aload_n hC 0 dL_law_767 rfl ?_
                                          refine v_iload_n hC 3 dL_law_768 rfl ?_
                                          refine v_iconst hC (nI 2) dL_law_769 rfl ?_
                                          refine v_iadd hC dL_law_770 ?_
                                          obtain ⟨hi175, h⟩ := h
                                          refine v_sldL hC hV hi175 dL_law_771 ?_
                                          refine v_aload_n hC 0 dL_law_772 rfl ?_
                                          refine v_iload_n hC 3 dL_law_773 rfl ?_
                                          refine v_iconst hC (nI 3) dL_law_774 rfl ?_
                                          refine v_iadd hC dL_law_775 ?_
                                          obtain ⟨hi176, h⟩ := h
                                          refine v_sldL hC hV hi176 dL_law_776 ?_
                                          refine v_callV hC (kH_ring _ _ _ _ _ h) cmH_ring ⟨kw769, kw770⟩ kw768 ⟨Nat.le_of_ble_eq_true rfl, Nat.le_of_ble_eq_true rfl⟩ (Nat.le_of_ble_eq_true rfl) rfl (ci := 6) (T := TX6) (N := 12) rfl (As := fun G => [.int (xs (x3 + (nI 1)).toNatClampNeg), .int (xs (x3 + (nI 2)).toNatClampNeg), .int (xs (x3 + (nI 3)).toNatClampNeg)]) (fun _ => rfl) (fun _ => rfl) (st := []) (Nat.le_of_ble_eq_true rfl) rfl dL_law_777 (kk_i (fun r178 σ178 h => ?_))
                                          refine v_aload_n hC 2 dL_law_780 rfl ?_
                                          refine v_aload_n hC 0 dL_law_781 rfl ?_
                                          refine v_iload_n hC 3 dL_law_782 rfl ?_
                                          refine v_iconst hC (nI 1) dL_law_783 rfl ?_
                                          refine v_iadd hC dL_law_784 ?_
                                          obtain ⟨hi179, h⟩ := h
                                          refine v_sldL hC hV hi179 dL_law_785 ?_
                                          refine v_aload_n hC 0 dL_law_786 rfl ?_
                                          refine v_iload_n hC 3 dL_law_787 rfl ?_
                                          refine v_iconst hC (nI 2) dL_law_788 rfl ?_
                                          refine v_iadd hC dL_law_789 ?_
                                          obtain ⟨hi180, h⟩ := h
                                          refine v_sldL hC hV hi180 dL_law_790 ?_
                                          refine v_aload_n hC 0 dL_law_791 rfl ?_
                                          refine v_iload_n hC 3 dL_law_792 rfl ?_
                                          refine v_iconst hC (nI 3) dL_law_793 rfl ?_
                                          refine v_iadd hC dL_law_794 ?_
                                          obtain ⟨hi181, h⟩ := h
                                          refine v_sldL hC hV hi181 dL_law_795 ?_
                                          refine v_callV hC (kM_ring _ _ _ _ _ h) cmM_ring ⟨kw1250, kw1251⟩ kw1249 ⟨Nat.le_of_ble_eq_true rfl, Nat.le_of_ble_eq_true rfl⟩ (Nat.le_of_ble_eq_true rfl) rfl (ci := 7) (T := TX7) (N := 30) rfl (As := fun G => [.int (xs (x3 + (nI 1)).toNatClampNeg), .int (xs (x3 + (nI 2)).toNatClampNeg), .int (xs (x3 + (nI 3)).toNatClampNeg)]) (fun _ => rfl) (fun _ => rfl) (st := [.int r178]) (Nat.le_of_ble_eq_true rfl) rfl dL_law_796 (kk_i (fun r183 σ183 h => ?_))
                                          refine v_icmp_eq hC 1299 dL_law_799 (by decide) (fun c184 => ?_) (fun c184 => ?_)
                                          · replace h := h.1 c184
                                            refine v_iincN hC (nI 6) 3 dL_law_1299 rfl rfl (by decide) (lo2 := fun x3_185 => [(3, .int x3_185), (0, .ref b), (1, .ref (xad X 0)), (2, .ref (xad X 82))]) (fun _ => rfl) (fun x3_185 e185 => ?_)
                                            replace h := h x3_185 e185
                                            refine v_goto hC 18 dL_law_1302 (by decide) ?_
                                            exact V.sub [1, 2, 3, 0] rfl (ih _ _ h)
                                          · replace h := h.2 c184
                                            refine v_iconst hC (nI 0) dL_law_802 rfl ?_
                                            exact h.elim
                                        · by_cases q3_18 : ((xs x3.toNatClampNeg) &&& (nI 63)) = (nI 18)
                                          · replace h := h.2.2.2.2.2.2.2.2.2.2.2.2.2.2.2.2.2.2.1 q3_18
                                            refine v_tableIn hC (nI 18) 804 dL_law_33 q3_18 (by decide) (by decide) rfl (by decide) ?_
                                            refine v_aload_n hC 1 dL_law_804 rfl ?_
                                            refine v_aload_n hC 0 dL_law_805 rfl ?_
                                            refine v_iload_n hC 3 dL_law_806 rfl ?_
                                            refine v_iconst hC (nI 1) dL_law_807 rfl ?_
                                            refine v_iadd hC dL_law_808 ?_
                                            obtain ⟨hi186, h⟩ := h
                                            refine v_sldL hC hV hi186 dL_law_809 ?_
                                            refine v_aload_n hC 0 dL_law_810 rfl ?_
                                            refine v_iload_n hC 3 dL_law_811 rfl ?_
                                            refine v_iconst hC (nI 2) dL_law_812 rfl ?_
                                            refine v_iadd hC dL_law_813 ?_
                                            obtain ⟨hi187, h⟩ := h
                                            refine v_sldL hC hV hi187 dL_law_814 ?_
                                            refine v_aload_n hC 0 dL_law_815 rfl ?_
                                            refine v_iload_n hC 3 dL_law_816 rfl ?_
                                            refine v_iconst hC (nI 3) dL_law_817 rfl ?_
                                            refine v_iadd hC dL_law_818 ?_
                                            obtain ⟨hi188, h⟩ := h
                                            refine v_sldL hC hV hi188 dL_law_819 ?_
                                            refine v_aload_n hC 0 dL_law_820 rfl ?_
                                            refine v_iload_n hC 3 dL_law_821 rfl ?_
                                            refine v_iconst hC (nI 4) dL_law_822 rfl ?_
                                            refine v_iadd hC dL_law_823 ?_
                                            obtain ⟨hi189, h⟩ := h
                                            refine v_sldL hC hV hi189 dL_law_824 ?_
                                            refine v_callV hC (kH_line _ _ _ _ _ _ h) cmH_line ⟨kw777, kw778⟩ kw776 ⟨Nat.le_of_ble_eq_true rfl, Nat.le_of_ble_eq_true rfl⟩ (Nat.le_of_ble_eq_true rfl) rfl (ci := 6) (T := TX6) (N := 12) rfl (As := fun G => [.int (xs (x3 + (nI 1)).toNatClampNeg), .int (xs (x3 + (nI 2)).toNatClampNeg), .int (xs (x3 + (nI 3)).toNatClampNeg), .int (xs (x3 + (nI 4)).toNatClampNeg)]) (fun _ => rfl) (fun _ => rfl) (st := []) (Nat.le_of_ble_eq_true rfl) rfl dL_law_825 (kk_i (fun r191 σ191 h => ?_))
                                            refine v_aload_n hC 2 dL_law_828 rfl ?_
                                            refine v_aload_n hC 0 dL_law_829 rfl ?_
                                            refine v_iload_n hC 3 dL_law_830 rfl ?_
                                            refine v_iconst hC (nI 1) dL_law_831 rfl ?_
                                            refine v_iadd hC dL_law_832 ?_
                                            obtain ⟨hi192, h⟩ := h
                                            refine v_sldL hC hV hi192 dL_law_833 ?_
                                            refine v_aload_n hC 0 dL_law_834 rfl ?_
                                            refine v_iload_n hC 3 dL_law_835 rfl ?_
                                            refine v_iconst hC (nI 2) dL_law_836 rfl ?_
                                            refine v_iadd hC dL_law_837 ?_
                                            obtain ⟨hi193, h⟩ := h
                                            refine v_sldL hC hV hi193 dL_law_838 ?_
                                            refine v_aload_n hC 0 dL_law_839 rfl ?_
                                            refine v_iload_n hC 3 dL_law_840 rfl ?_
                                            refine v_iconst hC (nI 3) dL_law_841 rfl ?_
                                            refine v_iadd hC dL_law_842 ?_
                                            obtain ⟨hi194, h⟩ := h
                                            refine v_sldL hC hV hi194 dL_law_843 ?_
                                            refine v_aload_n hC 0 dL_law_844 rfl ?_
                                            refine v_iload_n hC 3 dL_law_845 rfl ?_
                                            refine v_iconst hC (nI 4) dL_law_846 rfl ?_
                                            refine v_iadd hC dL_law_847 ?_
                                            obtain ⟨hi195, h⟩ := h
                                            refine v_sldL hC hV hi195 dL_law_848 ?_
                                            refine v_callV hC (kM_line _ _ _ _ _ _ h) cmM_line ⟨kw1254, kw1255⟩ kw1253 ⟨Nat.le_of_ble_eq_true rfl, Nat.le_of_ble_eq_true rfl⟩ (Nat.le_of_ble_eq_true rfl) rfl (ci := 7) (T := TX7) (N := 30) rfl (As := fun G => [.int (xs (x3 + (nI 1)).toNatClampNeg), .int (xs (x3 + (nI 2)).toNatClampNeg), .int (xs (x3 + (nI 3)).toNatClampNeg), .int (xs (x3 + (nI 4)).toNatClampNeg)]) (fun _ => rfl) (fun _ => rfl) (st := [.int r191]) (Nat.le_of_ble_eq_true rfl) rfl dL_law_849 (kk_i (fun r197 σ197 h => ?_))
                                            refine v_icmp_eq hC 1299 dL_law_852 (by decide) (fun c198 => ?_) (fun c198 => ?_)
                                            · replace h := h.1 c198
                                              refine v_iincN hC (nI 6) 3 dL_law_1299 rfl rfl (by decide) (lo2 := fun x3_199 => [(3, .int x3_199), (0, .ref b), (1, .ref (xad X 0)), (2, .ref (xad X 82))]) (fun _ => rfl) (fun x3_199 e199 => ?_)
                                              replace h := h x3_199 e199
                                              refine v_goto hC 18 dL_law_1302 (by decide) ?_
                                              exact V.sub [1, 2, 3, 0] rfl (ih _ _ h)
                                            · replace h := h.2 c198
                                              refine v_iconst hC (nI 0) dL_law_855 rfl ?_
                                              exact h.elim
                                          · by_cases q3_19 : ((xs x3.toNatClampNeg) &&& (nI 63)) = (nI 19)
                                            · replace h := h.2.2.2.2.2.2.2.2.2.2.2.2.2.2.2.2.2.2.2.1 q3_19
                                              refine v_tableIn hC (nI 19) 857 dL_law_33 q3_19 (by decide) (by decide) rfl (by decide) ?_
                                              refine v_aload_n hC 1 dL_law_857 rfl ?_
                                              refine v_aload_n hC 0 dL_law_858 rfl ?_
                                              refine v_iload_n hC 3 dL_law_859 rfl ?_
                                              refine v_iconst hC (nI 1) dL_law_860 rfl ?_
                                              refine v_iadd hC dL_law_861 ?_
                                              obtain ⟨hi200, h⟩ := h
                                              refine v_sldL hC hV hi200 dL_law_862 ?_
                                              refine v_aload_n hC 0 dL_law_863 rfl ?_
                                              refine v_iload_n hC 3 dL_law_864 rfl ?_
                                              refine v_iconst hC (nI 2) dL_law_865 rfl ?_
                                              refine v_iadd hC dL_law_866 ?_
                                              obtain ⟨hi201, h⟩ := h
                                              refine v_sldL hC hV hi201 dL_law_867 ?_
                                              refine v_callV hC (kH_rots _ _ _ _ h) cmH_rots ⟨kw791, kw792⟩ kw790 ⟨Nat.le_of_ble_eq_true rfl, Nat.le_of_ble_eq_true rfl⟩ (Nat.le_of_ble_eq_true rfl) rfl (ci := 6) (T := TX6) (N := 12) rfl (As := fun G => [.int (xs (x3 + (nI 1)).toNatClampNeg), .int (xs (x3 + (nI 2)).toNatClampNeg)]) (fun _ => rfl) (fun _ => rfl) (st := []) (Nat.le_of_ble_eq_true rfl) rfl dL_law_868 (kk_i (fun r203 σ203 h => ?_))
                                              refine v_aload_n hC 2 dL_law_871 rfl ?_
                                              refine v_aload_n hC 0 dL_law_872 rfl ?_
                                              refine v_iload_n hC 3 dL_law_873 rfl ?_
                                              refine v_iconst hC (nI 1) dL_law_874 rfl ?_
                                              refine v_iadd hC dL_law_875 ?_
                                              obtain ⟨hi204, h⟩ := h
                                              refine v_sldL hC hV hi204 dL_law_876 ?_
                                              refine v_aload_n hC 0 dL_law_877 rfl ?_
                                              refine v_iload_n hC 3 dL_law_878 rfl ?_
                                              refine v_iconst hC (nI 2) dL_law_879 rfl ?_
                                              refine v_iadd hC dL_law_880 ?_
                                              obtain ⟨hi205, h⟩ := h
                                              refine v_sldL hC hV hi205 dL_law_881 ?_
                                              refine v_callV hC (kM_rots _ _ _ _ h) cmM_rots ⟨kw1262, kw1263⟩ kw1261 ⟨Nat.le_of_ble_eq_true rfl, Nat.le_of_ble_eq_true rfl⟩ (Nat.le_of_ble_eq_true rfl) rfl (ci := 7) (T := TX7) (N := 30) rfl (As := fun G => [.int (xs (x3 + (nI 1)).toNatClampNeg), .int (xs (x3 + (nI 2)).toNatClampNeg)]) (fun _ => rfl) (fun _ => rfl) (st := [.int r203]) (Nat.le_of_ble_eq_true rfl) rfl dL_law_882 (kk_i (fun r207 σ207 h => ?_))
                                              refine v_icmp_eq hC 1299 dL_law_885 (by decide) (fun c208 => ?_) (fun c208 => ?_)
                                              · replace h := h.1 c208
                                                refine v_iincN hC (nI 6) 3 dL_law_1299 rfl rfl (by decide) (lo2 := fun x3_209 => [(3, .int x3_209), (0, .ref b), (1, .ref (xad X 0)), (2, .ref (xad X 82))]) (fun _ => rfl) (fun x3_209 e209 => ?_)
                                                replace h := h x3_209 e209
                                                refine v_goto hC 18 dL_law_1302 (by decide) ?_
                                                exact V.sub [1, 2, 3, 0] rfl (ih _ _ h)
                                              · replace h := h.2 c208
                                                refine v_iconst hC (nI 0) dL_law_888 rfl ?_
                                                exact h.elim
                                            · by_cases q3_20 : ((xs x3.toNatClampNeg) &&& (nI 63)) = (nI 20)
                                              · replace h := h.2.2.2.2.2.2.2.2.2.2.2.2.2.2.2.2.2.2.2.2.1 q3_20
                                                refine v_tableIn hC (nI 20) 890 dL_law_33 q3_20 (by decide) (by decide) rfl (by decide) ?_
                                                refine v_aload_n hC 1 dL_law_890 rfl ?_
                                                refine v_aload_n hC 0 dL_law_891 rfl ?_
                                                refine v_iload_n hC 3 dL_law_892 rfl ?_
                                                refine v_iconst hC (nI 1) dL_law_893 rfl ?_
                                                refine v_iadd hC dL_law_894 ?_
                                                obtain ⟨hi210, h⟩ := h
                                                refine v_sldL hC hV hi210 dL_law_895 ?_
                                                refine v_aload_n hC 0 dL_law_896 rfl ?_
                                                refine v_iload_n hC 3 dL_law_897 rfl ?_
                                                refine v_iconst hC (nI 2) dL_law_898 rfl ?_
                                                refine v_iadd hC dL_law_899 ?_
                                                obtain ⟨hi211, h⟩ := h
                                                refine v_sldL hC hV hi211 dL_law_900 ?_
                                                refine v_callV hC (kH_reach _ _ _ _ h) cmH_reach ⟨kw805, kw806⟩ kw804 ⟨Nat.le_of_ble_eq_true rfl, Nat.le_of_ble_eq_true rfl⟩ (Nat.le_of_ble_eq_true rfl) rfl (ci := 6) (T := TX6) (N := 12) rfl (As := fun G => [.int (xs (x3 + (nI 1)).toNatClampNeg), .int (xs (x3 + (nI 2)).toNatClampNeg)]) (fun _ => rfl) (fun _ => rfl) (st := []) (Nat.le_of_ble_eq_true rfl) rfl dL_law_901 (kk_i (fun r213 σ213 h => ?_))
                                                refine v_aload_n hC 2 dL_law_904 rfl ?_
                                                refine v_aload_n hC 0 dL_law_905 rfl ?_
                                                refine v_iload_n hC 3 dL_law_906 rfl ?_
                                                refine v_iconst hC (nI 1) dL_law_907 rfl ?_
                                                refine v_iadd hC dL_law_908 ?_
                                                obtain ⟨hi214, h⟩ := h
                                                refine v_sldL hC hV hi214 dL_law_909 ?_
                                                refine v_aload_n hC 0 dL_law_910 rfl ?_
                                                refine v_iload_n hC 3 dL_law_911 rfl ?_
                                                refine v_iconst hC (nI 2) dL_law_912 rfl ?_
                                                refine v_iadd hC dL_law_913 ?_
                                                obtain ⟨hi215, h⟩ := h
                                                refine v_sldL hC hV hi215 dL_law_914 ?_
                                                refine v_callV hC (kM_reach _ _ _ _ h) cmM_reach ⟨kw1269, kw1270⟩ kw1268 ⟨Nat.le_of_ble_eq_true rfl, Nat.le_of_ble_eq_true rfl⟩ (Nat.le_of_ble_eq_true rfl) rfl (ci := 7) (T := TX7) (N := 30) rfl (As := fun G => [.int (xs (x3 + (nI 1)).toNatClampNeg), .int (xs (x3 + (nI 2)).toNatClampNeg)]) (fun _ => rfl) (fun _ => rfl) (st := [.int r213]) (Nat.le_of_ble_eq_true rfl) rfl dL_law_915 (kk_i (fun r217 σ217 h => ?_))
                                                refine v_icmp_eq hC 1299 dL_law_918 (by decide) (fun c218 => ?_) (fun c218 => ?_)
                                                · replace h := h.1 c218
                                                  refine v_iincN hC (nI 6) 3 dL_law_1299 rfl rfl (by decide) (lo2 := fun x3_219 => [(3, .int x3_219), (0, .ref b), (1, .ref (xad X 0)), (2, .ref (xad X 82))]) (fun _ => rfl) (fun x3_219 e219 => ?_)
                                                  replace h := h x3_219 e219
                                                  refine v_goto hC 18 dL_law_1302 (by decide) ?_
                                                  exact V.sub [1, 2, 3, 0] rfl (ih _ _ h)
                                                · replace h := h.2 c218
                                                  refine v_iconst hC (nI 0) dL_law_921 rfl ?_
                                                  exact h.elim
                                              · by_cases q3_21 : ((xs x3.toNatClampNeg) &&& (nI 63)) = (nI 21)
                                                · replace h := h.2.2.2.2.2.2.2.2.2.2.2.2.2.2.2.2.2.2.2.2.2.1 q3_21
                                                  refine v_tableIn hC (nI 21) 923 dL_law_33 q3_21 (by decide) (by decide) rfl (by decide) ?_
                                                  refine v_aload_n hC 1 dL_law_923 rfl ?_
                                                  refine v_aload_n hC 0 dL_law_924 rfl ?_
                                                  refine v_iload_n hC 3 dL_law_925 rfl ?_
                                                  refine v_iconst hC (nI 1) dL_law_926 rfl ?_
                                                  refine v_iadd hC dL_law_927 ?_
                                                  obtain ⟨hi220, h⟩ := h
                                                  refine v_sldL hC hV hi220 dL_law_928 ?_
                                                  refine v_aload_n hC 0 dL_law_929 rfl ?_
                                                  refine v_iload_n hC 3 dL_law_930 rfl ?_
                                                  refine v_iconst hC (nI 2) dL_law_931 rfl ?_
                                                  refine v_iadd hC dL_law_932 ?_
                                                  obtain ⟨hi221, h⟩ := h
                                                  refine v_sldL hC hV hi221 dL_law_933 ?_
                                                  refine v_callV hC (kH_harvest _ _ _ _ h) cmH_harvest ⟨kw819, kw820⟩ kw818 ⟨Nat.le_of_ble_eq_true rfl, Nat.le_of_ble_eq_true rfl⟩ (Nat.le_of_ble_eq_true rfl) rfl (ci := 6) (T := TX6) (N := 12) rfl (As := fun G => [.int (xs (x3 + (nI 1)).toNatClampNeg), .int (xs (x3 + (nI 2)).toNatClampNeg)]) (fun _ => rfl) (fun _ => rfl) (st := []) (Nat.le_of_ble_eq_true rfl) rfl dL_law_934 (kk_i (fun r223 σ223 h => ?_))
                                                  refine v_aload_n hC 2 dL_law_937 rfl ?_
                                                  refine v_aload_n hC 0 dL_law_938 rfl ?_
                                                  refine v_iload_n hC 3 dL_law_939 rfl ?_
                                                  refine v_iconst hC (nI 1) dL_law_940 rfl ?_
                                                  refine v_iadd hC dL_law_941 ?_
                                                  obtain ⟨hi224, h⟩ := h
                                                  refine v_sldL hC hV hi224 dL_law_942 ?_
                                                  refine v_aload_n hC 0 dL_law_943 rfl ?_
                                                  refine v_iload_n hC 3 dL_law_944 rfl ?_
                                                  refine v_iconst hC (nI 2) dL_law_945 rfl ?_
                                                  refine v_iadd hC dL_law_946 ?_
                                                  obtain ⟨hi225, h⟩ := h
                                                  refine v_sldL hC hV hi225 dL_law_947 ?_
                                                  refine v_callV hC (kM_harvest _ _ _ _ h) cmM_harvest ⟨kw1273, kw1274⟩ kw1272 ⟨Nat.le_of_ble_eq_true rfl, Nat.le_of_ble_eq_true rfl⟩ (Nat.le_of_ble_eq_true rfl) rfl (ci := 7) (T := TX7) (N := 30) rfl (As := fun G => [.int (xs (x3 + (nI 1)).toNatClampNeg), .int (xs (x3 + (nI 2)).toNatClampNeg)]) (fun _ => rfl) (fun _ => rfl) (st := [.int r223]) (Nat.le_of_ble_eq_true rfl) rfl dL_law_948 (kk_i (fun r227 σ227 h => ?_))
                                                  refine v_icmp_eq hC 1299 dL_law_951 (by decide) (fun c228 => ?_) (fun c228 => ?_)
                                                  · replace h := h.1 c228
                                                    refine v_iincN hC (nI 6) 3 dL_law_1299 rfl rfl (by decide) (lo2 := fun x3_229 => [(3, .int x3_229), (0, .ref b), (1, .ref (xad X 0)), (2, .ref (xad X 82))]) (fun _ => rfl) (fun x3_229 e229 => ?_)
                                                    replace h := h x3_229 e229
                                                    refine v_goto hC 18 dL_law_1302 (by decide) ?_
                                                    exact V.sub [1, 2, 3, 0] rfl (ih _ _ h)
                                                  · replace h := h.2 c228
                                                    refine v_iconst hC (nI 0) dL_law_954 rfl ?_
                                                    exact h.elim
                                                · by_cases q3_22 : ((xs x3.toNatClampNeg) &&& (nI 63)) = (nI 22)
                                                  · replace h := h.2.2.2.2.2.2.2.2.2.2.2.2.2.2.2.2.2.2.2.2.2.2.1 q3_22
                                                    refine v_tableIn hC (nI 22) 956 dL_law_33 q3_22 (by decide) (by decide) rfl (by decide) ?_
                                                    refine v_aload_n hC 1 dL_law_956 rfl ?_
                                                    refine v_aload_n hC 0 dL_law_957 rfl ?_
                                                    refine v_iload_n hC 3 dL_law_958 rfl ?_
                                                    refine v_iconst hC (nI 1) dL_law_959 rfl ?_
                                                    refine v_iadd hC dL_law_960 ?_
                                                    obtain ⟨hi230, h⟩ := h
                                                    refine v_sldL hC hV hi230 dL_law_961 ?_
                                                    refine v_aload_n hC 0 dL_law_962 rfl ?_
                                                    refine v_iload_n hC 3 dL_law_963 rfl ?_
                                                    refine v_iconst hC (nI 2) dL_law_964 rfl ?_
                                                    refine v_iadd hC dL_law_965 ?_
                                                    obtain ⟨hi231, h⟩ := h
                                                    refine v_sldL hC hV hi231 dL_law_966 ?_
                                                    refine v_aload_n hC 0 dL_law_967 rfl ?_
                                                    refine v_iload_n hC 3 dL_law_968 rfl ?_
                                                    refine v_iconst hC (nI 3) dL_law_969 rfl ?_
                                                    refine v_iadd hC dL_law_970 ?_
                                                    obtain ⟨hi232, h⟩ := h
                                                    refine v_sldL hC hV hi232 dL_law_971 ?_
                                                    refine v_callV hC (kH_judge _ _ _ _ _ h) cmH_judge ⟨kw828, kw829⟩ kw827 ⟨Nat.le_of_ble_eq_true rfl, Nat.le_of_ble_eq_true rfl⟩ (Nat.le_of_ble_eq_true rfl) rfl (ci := 6) (T := TX6) (N := 12) rfl (As := fun G => [.int (xs (x3 + (nI 1)).toNatClampNeg), .int (xs (x3 + (nI 2)).toNatClampNeg), .int (xs (x3 + (nI 3)).toNatClampNeg)]) (fun _ => rfl) (fun _ => rfl) (st := []) (Nat.le_of_ble_eq_true rfl) rfl dL_law_972 (kk_i (fun r234 σ234 h => ?_))
                                                    refine v_aload_n hC 2 dL_law_975 rfl ?_
                                                    refine v_aload_n hC 0 dL_law_976 rfl ?_
                                                    refine v_iload_n hC 3 dL_law_977 rfl ?_
                                                    refine v_iconst hC (nI 1) dL_law_978 rfl ?_
                                                    refine v_iadd hC dL_law_979 ?_
                                                    obtain ⟨hi235, h⟩ := h
                                                    refine v_sldL hC hV hi235 dL_law_980 ?_
                                                    refine v_aload_n hC 0 dL_law_981 rfl ?_
                                                    refine v_iload_n hC 3 dL_law_982 rfl ?_
                                                    refine v_iconst hC (nI 2) dL_law_983 rfl ?_
                                                    refine v_iadd hC dL_law_984 ?_
                                                    obtain ⟨hi236, h⟩ := h
                                                    refine v_sldL hC hV hi236 dL_law_985 ?_
                                                    refine v_aload_n hC 0 dL_law_986 rfl ?_
                                                    refine v_iload_n hC 3 dL_law_987 rfl ?_
                                                    refine v_iconst hC (nI 3) dL_law_988 rfl ?_
                                                    refine v_iadd hC dL_law_989 ?_
                                                    obtain ⟨hi237, h⟩ := h
                                                    refine v_sldL hC hV hi237 dL_law_990 ?_
                                                    refine v_callV hC (kM_judge _ _ _ _ _ h) cmM_judge ⟨kw1277, kw1278⟩ kw1276 ⟨Nat.le_of_ble_eq_true rfl, Nat.le_of_ble_eq_true rfl⟩ (Nat.le_of_ble_eq_true rfl) rfl (ci := 7) (T := TX7) (N := 30) rfl (As := fun G => [.int (xs (x3 + (nI 1)).toNatClampNeg), .int (xs (x3 + (nI 2)).toNatClampNeg), .int (xs (x3 + (nI 3)).toNatClampNeg)]) (fun _ => rfl) (fun _ => rfl) (st := [.int r234]) (Nat.le_of_ble_eq_true rfl) rfl dL_law_991 (kk_i (fun r239 σ239 h => ?_))
                                                    refine v_icmp_eq hC 1299 dL_law_994 (by decide) (fun c240 => ?_) (fun c240 => ?_)
                                                    · replace h := h.1 c240
                                                      refine v_iincN hC (nI 6) 3 dL_law_1299 rfl rfl (by decide) (lo2 := fun x3_241 => [(3, .int x3_241), (0, .ref b), (1, .ref (xad X 0)), (2, .ref (xad X 82))]) (fun _ => rfl) (fun x3_241 e241 => ?_)
                                                      replace h := h x3_241 e241
                                                      refine v_goto hC 18 dL_law_1302 (by decide) ?_
                                                      exact V.sub [1, 2, 3, 0] rfl (ih _ _ h)
                                                    · replace h := h.2 c240
                                                      refine v_iconst hC (nI 0) dL_law_997 rfl ?_
                                                      exact h.elim
                                                  · by_cases q3_23 : ((xs x3.toNatClampNeg) &&& (nI 63)) = (nI 23)
                                                    · replace h := h.2.2.2.2.2.2.2.2.2.2.2.2.2.2.2.2.2.2.2.2.2.2.2.1 q3_23
                                                      refine v_tableIn hC (nI 23) 999 dL_law_33 q3_23 (by decide) (by decide) rfl (by decide) ?_
                                                      refine v_aload_n hC 1 dL_law_999 rfl ?_
                                                      refine v_aload_n hC 0 dL_law_1000 rfl ?_
                                                      refine v_iload_n hC 3 dL_law_1001 rfl ?_
                                                      refine v_iconst hC (nI 1) dL_law_1002 rfl ?_
                                                      refine v_iadd hC dL_law_1003 ?_
                                                      obtain ⟨hi242, h⟩ := h
                                                      refine v_sldL hC hV hi242 dL_law_1004 ?_
                                                      refine v_aload_n hC 0 dL_law_1005 rfl ?_
                                                      refine v_iload_n hC 3 dL_law_1006 rfl ?_
                                                      refine v_iconst hC (nI 2) dL_law_1007 rfl ?_
                                                      refine v_iadd hC dL_law_1008 ?_
                                                      obtain ⟨hi243, h⟩ := h
                                                      refine v_sldL hC hV hi243 dL_law_1009 ?_
                                                      refine v_aload_n hC 0 dL_law_1010 rfl ?_
                                                      refine v_iload_n hC 3 dL_law_1011 rfl ?_
                                                      refine v_iconst hC (nI 3) dL_law_1012 rfl ?_
                                                      refine v_iadd hC dL_law_1013 ?_
                                                      obtain ⟨hi244, h⟩ := h
                                                      refine v_sldL hC hV hi244 dL_law_1014 ?_
                                                      refine v_aload_n hC 0 dL_law_1015 rfl ?_
                                                      refine v_iload_n hC 3 dL_law_1016 rfl ?_
                                                      refine v_iconst hC (nI 4) dL_law_1017 rfl ?_
                                                      refine v_iadd hC dL_law_1018 ?_
                                                      obtain ⟨hi245, h⟩ := h
                                                      refine v_sldL hC hV hi245 dL_law_1019 ?_
                                                      refine v_aload_n hC 0 dL_law_1020 rfl ?_
                                                      refine v_iload_n hC 3 dL_law_1021 rfl ?_
                                                      refine v_iconst hC (nI 5) dL_law_1022 rfl ?_
                                                      refine v_iadd hC dL_law_1023 ?_
                                                      obtain ⟨hi246, h⟩ := h
                                                      refine v_sldL hC hV hi246 dL_law_1024 ?_
                                                      refine v_callV hC (kH_heard _ _ _ _ _ _ _ h) cmH_heard ⟨kw837, kw838⟩ kw836 ⟨Nat.le_of_ble_eq_true rfl, Nat.le_of_ble_eq_true rfl⟩ (Nat.le_of_ble_eq_true rfl) rfl (ci := 6) (T := TX6) (N := 12) rfl (As := fun G => [.int (xs (x3 + (nI 1)).toNatClampNeg), .int (xs (x3 + (nI 2)).toNatClampNeg), .int (xs (x3 + (nI 3)).toNatClampNeg), .int (xs (x3 + (nI 4)).toNatClampNeg), .int (xs (x3 + (nI 5)).toNatClampNeg)]) (fun _ => rfl) (fun _ => rfl) (st := []) (Nat.le_of_ble_eq_true rfl) rfl dL_law_1025 (kk_i (fun r248 σ248 h => ?_))
                                                      refine v_aload_n hC 2 dL_law_1028 rfl ?_
                                                      refine v_aload_n hC 0 dL_law_1029 rfl ?_
                                                      refine v_iload_n hC 3 dL_law_1030 rfl ?_
                                                      refine v_iconst hC (nI 1) dL_law_1031 rfl ?_
                                                      refine v_iadd hC dL_law_1032 ?_
                                                      obtain ⟨hi249, h⟩ := h
                                                      refine v_sldL hC hV hi249 dL_law_1033 ?_
                                                      refine v_aload_n hC 0 dL_law_1034 rfl ?_
                                                      refine v_iload_n hC 3 dL_law_1035 rfl ?_
                                                      refine v_iconst hC (nI 2) dL_law_1036 rfl ?_
                                                      refine v_iadd hC dL_law_1037 ?_
                                                      obtain ⟨hi250, h⟩ := h
                                                      refine v_sldL hC hV hi250 dL_law_1038 ?_
                                                      refine v_aload_n hC 0 dL_law_1039 rfl ?_
                                                      refine v_iload_n hC 3 dL_law_1040 rfl ?_
                                                      refine v_iconst hC (nI 3) dL_law_1041 rfl ?_
                                                      refine v_iadd hC dL_law_1042 ?_
                                                      obtain ⟨hi251, h⟩ := h
                                                      refine v_sldL hC hV hi251 dL_law_1043 ?_
                                                      refine v_aload_n hC 0 dL_law_1044 rfl ?_
                                                      refine v_iload_n hC 3 dL_law_1045 rfl ?_
                                                      refine v_iconst hC (nI 4) dL_law_1046 rfl ?_
                                                      refine v_iadd hC dL_law_1047 ?_
                                                      obtain ⟨hi252, h⟩ := h
                                                      refine v_sldL hC hV hi252 dL_law_1048 ?_
                                                      refine v_aload_n hC 0 dL_law_1049 rfl ?_
                                                      refine v_iload_n hC 3 dL_law_1050 rfl ?_
                                                      refine v_iconst hC (nI 5) dL_law_1051 rfl ?_
                                                      refine v_iadd hC dL_law_1052 ?_
                                                      obtain ⟨hi253, h⟩ := h
                                                      refine v_sldL hC hV hi253 dL_law_1053 ?_
                                                      refine v_callV hC (kM_heard _ _ _ _ _ _ _ h) cmM_heard ⟨kw1281, kw1282⟩ kw1280 ⟨Nat.le_of_ble_eq_true rfl, Nat.le_of_ble_eq_true rfl⟩ (Nat.le_of_ble_eq_true rfl) rfl (ci := 7) (T := TX7) (N := 30) rfl (As := fun G => [.int (xs (x3 + (nI 1)).toNatClampNeg), .int (xs (x3 + (nI 2)).toNatClampNeg), .int (xs (x3 + (nI 3)).toNatClampNeg), .int (xs (x3 + (nI 4)).toNatClampNeg), .int (xs (x3 + (nI 5)).toNatClampNeg)]) (fun _ => rfl) (fun _ => rfl) (st := [.int r248]) (Nat.le_of_ble_eq_true rfl) rfl dL_law_1054 (kk_i (fun r255 σ255 h => ?_))
                                                      refine v_icmp_eq hC 1299 dL_law_1057 (by decide) (fun c256 => ?_) (fun c256 => ?_)
                                                      · replace h := h.1 c256
                                                        refine v_iincN hC (nI 6) 3 dL_law_1299 rfl rfl (by decide) (lo2 := fun x3_257 => [(3, .int x3_257), (0, .ref b), (1, .ref (xad X 0)), (2, .ref (xad X 82))]) (fun _ => rfl) (fun x3_257 e257 => ?_)
                                                        replace h := h x3_257 e257
                                                        refine v_goto hC 18 dL_law_1302 (by decide) ?_
                                                        exact V.sub [1, 2, 3, 0] rfl (ih _ _ h)
                                                      · replace h := h.2 c256
                                                        refine v_iconst hC (nI 0) dL_law_1060 rfl ?_
                                                        exact h.elim
                                                    · by_cases q3_24 : ((xs x3.toNatClampNeg) &&& (nI 63)) = (nI 24)
                                                      · replace h := h.2.2.2.2.2.2.2.2.2.2.2.2.2.2.2.2.2.2.2.2.2.2.2.2.1 q3_24
                                                        refine v_tableIn hC (nI 24) 1062 dL_law_33 q3_24 (by decide) (by decide) rfl (by decide) ?_
                                                        refine v_aload_n hC 1 dL_law_1062 rfl ?_
                                                        refine v_aload_n hC 0 dL_law_1063 rfl ?_
                                                        refine v_iload_n hC 3 dL_law_1064 rfl ?_
                                                        refine v_iconst hC (nI 1) dL_law_1065 rfl ?_
                                                        refine v_iadd hC dL_law_1066 ?_
                                                        obtain ⟨hi258, h⟩ := h
                                                        refine v_sldL hC hV hi258 dL_law_1067 ?_
                                                        refine v_aload_n hC 0 dL_law_1068 rfl ?_
                                                        refine v_iload_n hC 3 dL_law_1069 rfl ?_
                                                        refine v_iconst hC (nI 2) dL_law_1070 rfl ?_
                                                        refine v_iadd hC dL_law_1071 ?_
                                                        obtain ⟨hi259, h⟩ := h
                                                        refine v_sldL hC hV hi259 dL_law_1072 ?_
                                                        refine v_aload_n hC 0 dL_law_1073 rfl ?_
                                                        refine v_iload_n hC 3 dL_law_1074 rfl ?_
                                                        refine v_iconst hC (nI 3) dL_law_1075 rfl ?_
                                                        refine v_iadd hC dL_law_1076 ?_
                                                        obtain ⟨hi260, h⟩ := h
                                                        refine v_sldL hC hV hi260 dL_law_1077 ?_
                                                        refine v_callV hC (kH_apart _ _ _ _ _ h) cmH_apart ⟨kw865, kw866⟩ kw864 ⟨Nat.le_of_ble_eq_true rfl, Nat.le_of_ble_eq_true rfl⟩ (Nat.le_of_ble_eq_true rfl) rfl (ci := 6) (T := TX6) (N := 12) rfl (As := fun G => [.int (xs (x3 + (nI 1)).toNatClampNeg), .int (xs (x3 + (nI 2)).toNatClampNeg), .int (xs (x3 + (nI 3)).toNatClampNeg)]) (fun _ => rfl) (fun _ => rfl) (st := []) (Nat.le_of_ble_eq_true rfl) rfl dL_law_1078 (kk_i (fun r262 σ262 h => ?_))
                                                        refine v_aload_n hC 2 dL_law_1081 rfl ?_
                                                        refine v_aload_n hC 0 dL_law_1082 rfl ?_
                                                        refine v_iload_n hC 3 dL_law_1083 rfl ?_
                                                        refine v_iconst hC (nI 1) dL_law_1084 rfl ?_
                                                        refine v_iadd hC dL_law_1085 ?_
                                                        obtain ⟨hi263, h⟩ := h
                                                        refine v_sldL hC hV hi263 dL_law_1086 ?_
                                                        refine v_aload_n hC 0 dL_law_1087 rfl ?_
                                                        refine v_iload_n hC 3 dL_law_1088 rfl ?_
                                                        refine v_iconst hC (nI 2) dL_law_1089 rfl ?_
                                                        refine v_iadd hC dL_law_1090 ?_
                                                        obtain ⟨hi264, h⟩ := h
                                                        refine v_sldL hC hV hi264 dL_law_1091 ?_
                                                        refine v_aload_n hC 0 dL_law_1092 rfl ?_
                                                        refine v_iload_n hC 3 dL_law_1093 rfl ?_
                                                        refine v_iconst hC (nI 3) dL_law_1094 rfl ?_
                                                        refine v_iadd hC dL_law_1095 ?_
                                                        obtain ⟨hi265, h⟩ := h
                                                        refine v_sldL hC hV hi265 dL_law_1096 ?_
                                                        refine v_callV hC (kM_apart _ _ _ _ _ h) cmM_apart ⟨kw1285, kw1286⟩ kw1284 ⟨Nat.le_of_ble_eq_true rfl, Nat.le_of_ble_eq_true rfl⟩ (Nat.le_of_ble_eq_true rfl) rfl (ci := 7) (T := TX7) (N := 30) rfl (As := fun G => [.int (xs (x3 + (nI 1)).toNatClampNeg), .int (xs (x3 + (nI 2)).toNatClampNeg), .int (xs (x3 + (nI 3)).toNatClampNeg)]) (fun _ => rfl) (fun _ => rfl) (st := [.int r262]) (Nat.le_of_ble_eq_true rfl) rfl dL_law_1097 (kk_i (fun r267 σ267 h => ?_))
                                                        refine v_icmp_eq hC 1299 dL_law_1100 (by decide) (fun c268 => ?_) (fun c268 => ?_)
                                                        · replace h := h.1 c268
                                                          refine v_iincN hC (nI 6) 3 dL_law_1299 rfl rfl (by decide) (lo2 := fun x3_269 => [(3, .int x3_269), (0, .ref b), (1, .ref (xad X 0)), (2, .ref (xad X 82))]) (fun _ => rfl) (fun x3_269 e269 => ?_)
                                                          replace h := h x3_269 e269
                                                          refine v_goto hC 18 dL_law_1302 (by decide) ?_
                                                          exact V.sub [1, 2, 3, 0] rfl (ih _ _ h)
                                                        · replace h := h.2 c268
                                                          refine v_iconst hC (nI 0) dL_law_1103 rfl ?_
                                                          exact h.elim
                                                      · by_cases q3_25 : ((xs x3.toNatClampNeg) &&& (nI 63)) = (nI 25)
                                                        · replace h := h.2.2.2.2.2.2.2.2.2.2.2.2.2.2.2.2.2.2.2.2.2.2.2.2.2.1 q3_25
                                                          refine v_tableIn hC (nI 25) 1105 dL_law_33 q3_25 (by decide) (by decide) rfl (by decide) ?_
                                                          refine v_aload_n hC 1 dL_law_1105 rfl ?_
                                                          refine v_aload_n hC 0 dL_law_1106 rfl ?_
                                                          refine v_iload_n hC 3 dL_law_1107 rfl ?_
                                                          refine v_iconst hC (nI 1) dL_law_1108 rfl ?_
                                                          refine v_iadd hC dL_law_1109 ?_
                                                          obtain ⟨hi270, h⟩ := h
                                                          refine v_sldL hC hV hi270 dL_law_1110 ?_
                                                          refine v_callV hC (kH_image _ _ _ h) cmH_image ⟨kw881, kw882⟩ kw880 ⟨Nat.le_of_ble_eq_true rfl, Nat.le_of_ble_eq_true rfl⟩ (Nat.le_of_ble_eq_true rfl) rfl (ci := 6) (T := TX6) (N := 12) rfl (As := fun G => [.int (xs (x3 + (nI 1)).toNatClampNeg)]) (fun _ => rfl) (fun _ => rfl) (st := []) (Nat.le_of_ble_eq_true rfl) rfl dL_law_1111 (kk_i (fun r272 σ272 h => ?_))
                                                          refine v_aload_n hC 2 dL_law_1114 rfl ?_
                                                          refine v_aload_n hC 0 dL_law_1115 rfl ?_
                                                          refine v_iload_n hC 3 dL_law_1116 rfl ?_
                                                          refine v_iconst hC (nI 1) dL_law_1117 rfl ?_
                                                          refine v_iadd hC dL_law_1118 ?_
                                                          obtain ⟨hi273, h⟩ := h
                                                          refine v_sldL hC hV hi273 dL_law_1119 ?_
                                                          refine v_callV hC (kM_image _ _ _ h) cmM_image ⟨kw1293, kw1294⟩ kw1292 ⟨Nat.le_of_ble_eq_true rfl, Nat.le_of_ble_eq_true rfl⟩ (Nat.le_of_ble_eq_true rfl) rfl (ci := 7) (T := TX7) (N := 30) rfl (As := fun G => [.int (xs (x3 + (nI 1)).toNatClampNeg)]) (fun _ => rfl) (fun _ => rfl) (st := [.int r272]) (Nat.le_of_ble_eq_true rfl) rfl dL_law_1120 (kk_i (fun r275 σ275 h => ?_))
                                                          refine v_icmp_eq hC 1299 dL_law_1123 (by decide) (fun c276 => ?_) (fun c276 => ?_)
                                                          · replace h := h.1 c276
                                                            refine v_iincN hC (nI 6) 3 dL_law_1299 rfl rfl (by decide) (lo2 := fun x3_277 => [(3, .int x3_277), (0, .ref b), (1, .ref (xad X 0)), (2, .ref (xad X 82))]) (fun _ => rfl) (fun x3_277 e277 => ?_)
                                                            replace h := h x3_277 e277
                                                            refine v_goto hC 18 dL_law_1302 (by decide) ?_
                                                            exact V.sub [1, 2, 3, 0] rfl (ih _ _ h)
                                                          · replace h := h.2 c276
                                                            refine v_iconst hC (nI 0) dL_law_1126 rfl ?_
                                                            exact h.elim
                                                        · by_cases q3_26 : ((xs x3.toNatClampNeg) &&& (nI 63)) = (nI 26)
                                                          · replace h := h.2.2.2.2.2.2.2.2.2.2.2.2.2.2.2.2.2.2.2.2.2.2.2.2.2.2.1 q3_26
                                                            refine v_tableIn hC (nI 26) 1128 dL_law_33 q3_26 (by decide) (by decide) rfl (by decide) ?_
                                                            refine v_aload_n hC 1 dL_law_1128 rfl ?_
                                                            refine v_aload_n hC 0 dL_law_1129 rfl ?_
                                                            refine v_iload_n hC 3 dL_law_1130 rfl ?_
                                                            refine v_iconst hC (nI 1) dL_law_1131 rfl ?_
                                                            refine v_iadd hC dL_law_1132 ?_
                                                            obtain ⟨hi278, h⟩ := h
                                                            refine v_sldL hC hV hi278 dL_law_1133 ?_
                                                            refine v_callV hC (kH_restore _ _ _ h) cmH_restore ⟨kw885, kw886⟩ kw884 ⟨Nat.le_of_ble_eq_true rfl, Nat.le_of_ble_eq_true rfl⟩ (Nat.le_of_ble_eq_true rfl) rfl (ci := 6) (T := TX6) (N := 12) rfl (As := fun G => [.int (xs (x3 + (nI 1)).toNatClampNeg)]) (fun _ => rfl) (fun _ => rfl) (st := []) (Nat.le_of_ble_eq_true rfl) rfl dL_law_1134 (kk_i (fun r280 σ280 h => ?_))
                                                            refine v_aload_n hC 2 dL_law_1137 rfl ?_
                                                            refine v_aload_n hC 0 dL_law_1138 rfl ?_
                                                            refine v_iload_n hC 3 dL_law_1139 rfl ?_
                                                            refine v_iconst hC (nI 1) dL_law_1140 rfl ?_
                                                            refine v_iadd hC dL_law_1141 ?_
                                                            obtain ⟨hi281, h⟩ := h
                                                            refine v_sldL hC hV hi281 dL_law_1142 ?_
                                                            refine v_callV hC (kM_restore _ _ _ h) cmM_restore ⟨kw1297, kw1298⟩ kw1296 ⟨Nat.le_of_ble_eq_true rfl, Nat.le_of_ble_eq_true rfl⟩ (Nat.le_of_ble_eq_true rfl) rfl (ci := 7) (T := TX7) (N := 30) rfl (As := fun G => [.int (xs (x3 + (nI 1)).toNatClampNeg)]) (fun _ => rfl) (fun _ => rfl) (st := [.int r280]) (Nat.le_of_ble_eq_true rfl) rfl dL_law_1143 (kk_i (fun r283 σ283 h => ?_))
                                                            refine v_icmp_eq hC 1299 dL_law_1146 (by decide) (fun c284 => ?_) (fun c284 => ?_)
                                                            · replace h := h.1 c284
                                                              refine v_iincN hC (nI 6) 3 dL_law_1299 rfl rfl (by decide) (lo2 := fun x3_285 => [(3, .int x3_285), (0, .ref b), (1, .ref (xad X 0)), (2, .ref (xad X 82))]) (fun _ => rfl) (fun x3_285 e285 => ?_)
                                                              replace h := h x3_285 e285
                                                              refine v_goto hC 18 dL_law_1302 (by decide) ?_
                                                              exact V.sub [1, 2, 3, 0] rfl (ih _ _ h)
                                                            · replace h := h.2 c284
                                                              refine v_iconst hC (nI 0) dL_law_1149 rfl ?_
                                                              exact h.elim
                                                          · by_cases q3_27 : ((xs x3.toNatClampNeg) &&& (nI 63)) = (nI 27)
                                                            · replace h := h.2.2.2.2.2.2.2.2.2.2.2.2.2.2.2.2.2.2.2.2.2.2.2.2.2.2.2.1 q3_27
                                                              refine v_tableIn hC (nI 27) 1151 dL_law_33 q3_27 (by decide) (by decide) rfl (by decide) ?_
                                                              refine v_aload_n hC 1 dL_law_1151 rfl ?_
                                                              refine v_aload_n hC 0 dL_law_1152 rfl ?_
                                                              refine v_iload_n hC 3 dL_law_1153 rfl ?_
                                                              refine v_iconst hC (nI 1) dL_law_1154 rfl ?_
                                                              refine v_iadd hC dL_law_1155 ?_
                                                              obtain ⟨hi286, h⟩ := h
                                                              refine v_sldL hC hV hi286 dL_law_1156 ?_
                                                              refine v_callV hC (kH_kind _ _ _ h) cmH_kind ⟨kw889, kw890⟩ kw888 ⟨Nat.le_of_ble_eq_true rfl, Nat.le_of_ble_eq_true rfl⟩ (Nat.le_of_ble_eq_true rfl) rfl (ci := 6) (T := TX6) (N := 12) rfl (As := fun G => [.int (xs (x3 + (nI 1)).toNatClampNeg)]) (fun _ => rfl) (fun _ => rfl) (st := []) (Nat.le_of_ble_eq_true rfl) rfl dL_law_1157 (kk_i (fun r288 σ288 h => ?_))
                                                              refine v_aload_n hC 2 dL_law_1160 rfl ?_
                                                              refine v_aload_n hC 0 dL_law_1161 rfl ?_
                                                              refine v_iload_n hC 3 dL_law_1162 rfl ?_
                                                              refine v_iconst hC (nI 1) dL_law_1163 rfl ?_
                                                              refine v_iadd hC dL_law_1164 ?_
                                                              obtain ⟨hi289, h⟩ := h
                                                              refine v_sldL hC hV hi289 dL_law_1165 ?_
                                                              refine v_callV hC (kM_kind _ _ _ h) cmM_kind ⟨kw1301, kw1302⟩ kw1300 ⟨Nat.le_of_ble_eq_true rfl, Nat.le_of_ble_eq_true rfl⟩ (Nat.le_of_ble_eq_true rfl) rfl (ci := 7) (T := TX7) (N := 30) rfl (As := fun G => [.int (xs (x3 + (nI 1)).toNatClampNeg)]) (fun _ => rfl) (fun _ => rfl) (st := [.int r288]) (Nat.le_of_ble_eq_true rfl) rfl dL_law_1166 (kk_i (fun r291 σ291 h => ?_))
                                                              refine v_icmp_eq hC 1299 dL_law_1169 (by decide) (fun c292 => ?_) (fun c292 => ?_)
                                                              · replace h := h.1 c292
                                                                refine v_iincN hC (nI 6) 3 dL_law_1299 rfl rfl (by decide) (lo2 := fun x3_293 => [(3, .int x3_293), (0, .ref b), (1, .ref (xad X 0)), (2, .ref (xad X 82))]) (fun _ => rfl) (fun x3_293 e293 => ?_)
                                                                replace h := h x3_293 e293
                                                                refine v_goto hC 18 dL_law_1302 (by decide) ?_
                                                                exact V.sub [1, 2, 3, 0] rfl (ih _ _ h)
                                                              · replace h := h.2 c292
                                                                refine v_iconst hC (nI 0) dL_law_1172 rfl ?_
                                                                exact h.elim
                                                            · by_cases q3_28 : ((xs x3.toNatClampNeg) &&& (nI 63)) = (nI 28)
                                                              · replace h := h.2.2.2.2.2.2.2.2.2.2.2.2.2.2.2.2.2.2.2.2.2.2.2.2.2.2.2.2.1 q3_28
                                                                refine v_tableIn hC (nI 28) 1174 dL_law_33 q3_28 (by decide) (by decide) rfl (by decide) ?_
                                                                refine v_aload_n hC 1 dL_law_1174 rfl ?_
                                                                refine v_aload_n hC 0 dL_law_1175 rfl ?_
                                                                refine v_iload_n hC 3 dL_law_1176 rfl ?_
                                                                refine v_iconst hC (nI 1) dL_law_1177 rfl ?_
                                                                refine v_iadd hC dL_law_1178 ?_
                                                                obtain ⟨hi294, h⟩ := h
                                                                refine v_sldL hC hV hi294 dL_law_1179 ?_
                                                                refine v_aload_n hC 0 dL_law_1180 rfl ?_
                                                                refine v_iload_n hC 3 dL_law_1181 rfl ?_
                                                                refine v_iconst hC (nI 2) dL_law_1182 rfl ?_
                                                                refine v_iadd hC dL_law_1183 ?_
                                                                obtain ⟨hi295, h⟩ := h
                                                                refine v_sldL hC hV hi295 dL_law_1184 ?_
                                                                refine v_callV hC (kH_as _ _ _ _ h) cmH_as ⟨kw893, kw894⟩ kw892 ⟨Nat.le_of_ble_eq_true rfl, Nat.le_of_ble_eq_true rfl⟩ (Nat.le_of_ble_eq_true rfl) rfl (ci := 6) (T := TX6) (N := 12) rfl (As := fun G => [.int (xs (x3 + (nI 1)).toNatClampNeg), .int (xs (x3 + (nI 2)).toNatClampNeg)]) (fun _ => rfl) (fun _ => rfl) (st := []) (Nat.le_of_ble_eq_true rfl) rfl dL_law_1185 (kk_i (fun r297 σ297 h => ?_))
                                                                refine v_aload_n hC 2 dL_law_1188 rfl ?_
                                                                refine v_aload_n hC 0 dL_law_1189 rfl ?_
                                                                refine v_iload_n hC 3 dL_law_1190 rfl ?_
                                                                refine v_iconst hC (nI 1) dL_law_1191 rfl ?_
                                                                refine v_iadd hC dL_law_1192 ?_
                                                                obtain ⟨hi298, h⟩ := h
                                                                refine v_sldL hC hV hi298 dL_law_1193 ?_
                                                                refine v_aload_n hC 0 dL_law_1194 rfl ?_
                                                                refine v_iload_n hC 3 dL_law_1195 rfl ?_
                                                                refine v_iconst hC (nI 2) dL_law_1196 rfl ?_
                                                                refine v_iadd hC dL_law_1197 ?_
                                                                obtain ⟨hi299, h⟩ := h
                                                                refine v_sldL hC hV hi299 dL_law_1198 ?_
                                                                refine v_callV hC (kM_as _ _ _ _ h) cmM_as ⟨kw1305, kw1306⟩ kw1304 ⟨Nat.le_of_ble_eq_true rfl, Nat.le_of_ble_eq_true rfl⟩ (Nat.le_of_ble_eq_true rfl) rfl (ci := 7) (T := TX7) (N := 30) rfl (As := fun G => [.int (xs (x3 + (nI 1)).toNatClampNeg), .int (xs (x3 + (nI 2)).toNatClampNeg)]) (fun _ => rfl) (fun _ => rfl) (st := [.int r297]) (Nat.le_of_ble_eq_true rfl) rfl dL_law_1199 (kk_i (fun r301 σ301 h => ?_))
                                                                refine v_icmp_eq hC 1299 dL_law_1202 (by decide) (fun c302 => ?_) (fun c302 => ?_)
                                                                · replace h := h.1 c302
                                                                  refine v_iincN hC (nI 6) 3 dL_law_1299 rfl rfl (by decide) (lo2 := fun x3_303 => [(3, .int x3_303), (0, .ref b), (1, .ref (xad X 0)), (2, .ref (xad X 82))]) (fun _ => rfl) (fun x3_303 e303 => ?_)
                                                                  replace h := h x3_303 e303
                                                                  refine v_goto hC 18 dL_law_1302 (by decide) ?_
                                                                  exact V.sub [1, 2, 3, 0] rfl (ih _ _ h)
                                                                · replace h := h.2 c302
                                                                  refine v_iconst hC (nI 0) dL_law_1205 rfl ?_
                                                                  exact h.elim
                                                              · by_cases q3_29 : ((xs x3.toNatClampNeg) &&& (nI 63)) = (nI 29)
                                                                · replace h := h.2.2.2.2.2.2.2.2.2.2.2.2.2.2.2.2.2.2.2.2.2.2.2.2.2.2.2.2.2.1 q3_29
                                                                  refine v_tableIn hC (nI 29) 1207 dL_law_33 q3_29 (by decide) (by decide) rfl (by decide) ?_
                                                                  refine v_aload_n hC 1 dL_law_1207 rfl ?_
                                                                  refine v_aload_n hC 0 dL_law_1208 rfl ?_
                                                                  refine v_iload_n hC 3 dL_law_1209 rfl ?_
                                                                  refine v_iconst hC (nI 1) dL_law_1210 rfl ?_
                                                                  refine v_iadd hC dL_law_1211 ?_
                                                                  obtain ⟨hi304, h⟩ := h
                                                                  refine v_sldL hC hV hi304 dL_law_1212 ?_
                                                                  refine v_aload_n hC 0 dL_law_1213 rfl ?_
                                                                  refine v_iload_n hC 3 dL_law_1214 rfl ?_
                                                                  refine v_iconst hC (nI 2) dL_law_1215 rfl ?_
                                                                  refine v_iadd hC dL_law_1216 ?_
                                                                  obtain ⟨hi305, h⟩ := h
                                                                  refine v_sldL hC hV hi305 dL_law_1217 ?_
                                                                  refine v_callV hC (kH_ask _ _ _ _ h) cmH_ask ⟨kw898, kw899⟩ kw897 ⟨Nat.le_of_ble_eq_true rfl, Nat.le_of_ble_eq_true rfl⟩ (Nat.le_of_ble_eq_true rfl) rfl (ci := 6) (T := TX6) (N := 12) rfl (As := fun G => [.int (xs (x3 + (nI 1)).toNatClampNeg), .int (xs (x3 + (nI 2)).toNatClampNeg)]) (fun _ => rfl) (fun _ => rfl) (st := []) (Nat.le_of_ble_eq_true rfl) rfl dL_law_1218 (kk_i (fun r307 σ307 h => ?_))
                                                                  refine v_aload_n hC 2 dL_law_1221 rfl ?_
                                                                  refine v_aload_n hC 0 dL_law_1222 rfl ?_
                                                                  refine v_iload_n hC 3 dL_law_1223 rfl ?_
                                                                  refine v_iconst hC (nI 1) dL_law_1224 rfl ?_
                                                                  refine v_iadd hC dL_law_1225 ?_
                                                                  obtain ⟨hi308, h⟩ := h
                                                                  refine v_sldL hC hV hi308 dL_law_1226 ?_
                                                                  refine v_aload_n hC 0 dL_law_1227 rfl ?_
                                                                  refine v_iload_n hC 3 dL_law_1228 rfl ?_
                                                                  refine v_iconst hC (nI 2) dL_law_1229 rfl ?_
                                                                  refine v_iadd hC dL_law_1230 ?_
                                                                  obtain ⟨hi309, h⟩ := h
                                                                  refine v_sldL hC hV hi309 dL_law_1231 ?_
                                                                  refine v_callV hC (kM_ask _ _ _ _ h) cmM_ask ⟨kw1309, kw1310⟩ kw1308 ⟨Nat.le_of_ble_eq_true rfl, Nat.le_of_ble_eq_true rfl⟩ (Nat.le_of_ble_eq_true rfl) rfl (ci := 7) (T := TX7) (N := 30) rfl (As := fun G => [.int (xs (x3 + (nI 1)).toNatClampNeg), .int (xs (x3 + (nI 2)).toNatClampNeg)]) (fun _ => rfl) (fun _ => rfl) (st := [.int r307]) (Nat.le_of_ble_eq_true rfl) rfl dL_law_1232 (kk_i (fun r311 σ311 h => ?_))
                                                                  refine v_icmp_eq hC 1299 dL_law_1235 (by decide) (fun c312 => ?_) (fun c312 => ?_)
                                                                  · replace h := h.1 c312
                                                                    refine v_iincN hC (nI 6) 3 dL_law_1299 rfl rfl (by decide) (lo2 := fun x3_313 => [(3, .int x3_313), (0, .ref b), (1, .ref (xad X 0)), (2, .ref (xad X 82))]) (fun _ => rfl) (fun x3_313 e313 => ?_)
                                                                    replace h := h x3_313 e313
                                                                    refine v_goto hC 18 dL_law_1302 (by decide) ?_
                                                                    exact V.sub [1, 2, 3, 0] rfl (ih _ _ h)
                                                                  · replace h := h.2 c312
                                                                    refine v_iconst hC (nI 0) dL_law_1238 rfl ?_
                                                                    exact h.elim
                                                                · by_cases q3_30 : ((xs x3.toNatClampNeg) &&& (nI 63)) = (nI 30)
                                                                  · replace h := h.2.2.2.2.2.2.2.2.2.2.2.2.2.2.2.2.2.2.2.2.2.2.2.2.2.2.2.2.2.2.1 q3_30
                                                                    refine v_tableIn hC (nI 30) 1240 dL_law_33 q3_30 (by decide) (by decide) rfl (by decide) ?_
                                                                    refine v_aload_n hC 1 dL_law_1240 rfl ?_
                                                                    refine v_aload_n hC 0 dL_law_1241 rfl ?_
                                                                    refine v_iload_n hC 3 dL_law_1242 rfl ?_
                                                                    refine v_iconst hC (nI 1) dL_law_1243 rfl ?_
                                                                    refine v_iadd hC dL_law_1244 ?_
                                                                    obtain ⟨hi314, h⟩ := h
                                                                    refine v_sldL hC hV hi314 dL_law_1245 ?_
                                                                    refine v_callV hC (kH_trace _ _ _ h) cmH_trace ⟨kw930, kw931⟩ kw929 ⟨Nat.le_of_ble_eq_true rfl, Nat.le_of_ble_eq_true rfl⟩ (Nat.le_of_ble_eq_true rfl) rfl (ci := 6) (T := TX6) (N := 12) rfl (As := fun G => [.int (xs (x3 + (nI 1)).toNatClampNeg)]) (fun _ => rfl) (fun _ => rfl) (st := []) (Nat.le_of_ble_eq_true rfl) rfl dL_law_1246 (kk_i (fun r316 σ316 h => ?_))
                                                                    refine v_aload_n hC 2 dL_law_1249 rfl ?_
                                                                    refine v_aload_n hC 0 dL_law_1250 rfl ?_
                                                                    refine v_iload_n hC 3 dL_law_1251 rfl ?_
                                                                    refine v_iconst hC (nI 1) dL_law_1252 rfl ?_
                                                                    refine v_iadd hC dL_law_1253 ?_
                                                                    obtain ⟨hi317, h⟩ := h
                                                                    refine v_sldL hC hV hi317 dL_law_1254 ?_
                                                                    refine v_callV hC (kM_trace _ _ _ h) cmM_trace ⟨kw1329, kw1330⟩ kw1328 ⟨Nat.le_of_ble_eq_true rfl, Nat.le_of_ble_eq_true rfl⟩ (Nat.le_of_ble_eq_true rfl) rfl (ci := 7) (T := TX7) (N := 30) rfl (As := fun G => [.int (xs (x3 + (nI 1)).toNatClampNeg)]) (fun _ => rfl) (fun _ => rfl) (st := [.int r316]) (Nat.le_of_ble_eq_true rfl) rfl dL_law_1255 (kk_i (fun r319 σ319 h => ?_))
                                                                    refine v_icmp_eq hC 1299 dL_law_1258 (by decide) (fun c320 => ?_) (fun c320 => ?_)
                                                                    · replace h := h.1 c320
                                                                      refine v_iincN hC (nI 6) 3 dL_law_1299 rfl rfl (by decide) (lo2 := fun x3_321 => [(3, .int x3_321), (0, .ref b), (1, .ref (xad X 0)), (2, .ref (xad X 82))]) (fun _ => rfl) (fun x3_321 e321 => ?_)
                                                                      replace h := h x3_321 e321
                                                                      refine v_goto hC 18 dL_law_1302 (by decide) ?_
                                                                      exact V.sub [1, 2, 3, 0] rfl (ih _ _ h)
                                                                    · replace h := h.2 c320
                                                                      refine v_iconst hC (nI 0) dL_law_1261 rfl ?_
                                                                      exact h.elim
                                                                  · by_cases q3_31 : ((xs x3.toNatClampNeg) &&& (nI 63)) = (nI 31)
                                                                    · replace h := h.2.2.2.2.2.2.2.2.2.2.2.2.2.2.2.2.2.2.2.2.2.2.2.2.2.2.2.2.2.2.2.1 q3_31
                                                                      refine v_tableIn hC (nI 31) 1263 dL_law_33 q3_31 (by decide) (by decide) rfl (by decide) ?_
                                                                      refine v_aload_n hC 1 dL_law_1263 rfl ?_
                                                                      refine v_aload_n hC 0 dL_law_1264 rfl ?_
                                                                      refine v_iload_n hC 3 dL_law_1265 rfl ?_
                                                                      refine v_iconst hC (nI 1) dL_law_1266 rfl ?_
                                                                      refine v_iadd hC dL_law_1267 ?_
                                                                      obtain ⟨hi322, h⟩ := h
                                                                      refine v_sldL hC hV hi322 dL_law_1268 ?_
                                                                      refine v_callV hC (kH_count _ _ _ h) cmH_count ⟨kw934, kw935⟩ kw933 ⟨Nat.le_of_ble_eq_true rfl, Nat.le_of_ble_eq_true rfl⟩ (Nat.le_of_ble_eq_true rfl) rfl (ci := 6) (T := TX6) (N := 12) rfl (As := fun G => [.int (xs (x3 + (nI 1)).toNatClampNeg)]) (fun _ => rfl) (fun _ => rfl) (st := []) (Nat.le_of_ble_eq_true rfl) rfl dL_law_1269 (kk_i (fun r324 σ324 h => ?_))
                                                                      refine v_aload_n hC 2 dL_law_1272 rfl ?_
                                                                      refine v_aload_n hC 0 dL_law_1273 rfl ?_
                                                                      refine v_iload_n hC 3 dL_law_1274 rfl ?_
                                                                      refine v_iconst hC (nI 1) dL_law_1275 rfl ?_
                                                                      refine v_iadd hC dL_law_1276 ?_
                                                                      obtain ⟨hi325, h⟩ := h
                                                                      refine v_sldL hC hV hi325 dL_law_1277 ?_
                                                                      refine v_callV hC (kM_count _ _ _ h) cmM_count ⟨kw1333, kw1334⟩ kw1332 ⟨Nat.le_of_ble_eq_true rfl, Nat.le_of_ble_eq_true rfl⟩ (Nat.le_of_ble_eq_true rfl) rfl (ci := 7) (T := TX7) (N := 30) rfl (As := fun G => [.int (xs (x3 + (nI 1)).toNatClampNeg)]) (fun _ => rfl) (fun _ => rfl) (st := [.int r324]) (Nat.le_of_ble_eq_true rfl) rfl dL_law_1278 (kk_i (fun r327 σ327 h => ?_))
                                                                      refine v_icmp_eq hC 1299 dL_law_1281 (by decide) (fun c328 => ?_) (fun c328 => ?_)
                                                                      · replace h := h.1 c328
                                                                        refine v_iincN hC (nI 6) 3 dL_law_1299 rfl rfl (by decide) (lo2 := fun x3_329 => [(3, .int x3_329), (0, .ref b), (1, .ref (xad X 0)), (2, .ref (xad X 82))]) (fun _ => rfl) (fun x3_329 e329 => ?_)
                                                                        replace h := h x3_329 e329
                                                                        refine v_goto hC 18 dL_law_1302 (by decide) ?_
                                                                        exact V.sub [1, 2, 3, 0] rfl (ih _ _ h)
                                                                      · replace h := h.2 c328
                                                                        refine v_iconst hC (nI 0) dL_law_1284 rfl ?_
                                                                        exact h.elim
                                                                    · by_cases q3_32 : ((xs x3.toNatClampNeg) &&& (nI 63)) = (nI 32)
                                                                      · replace h := h.2.2.2.2.2.2.2.2.2.2.2.2.2.2.2.2.2.2.2.2.2.2.2.2.2.2.2.2.2.2.2.2.1 q3_32
                                                                        refine v_tableIn hC (nI 32) 1286 dL_law_33 q3_32 (by decide) (by decide) rfl (by decide) ?_
                                                                        refine v_aload_n hC 1 dL_law_1286 rfl ?_
                                                                        refine v_callV hC (kH_status  _ _ h) cmH_status ⟨kw942, kw943⟩ kw941 ⟨Nat.le_of_ble_eq_true rfl, Nat.le_of_ble_eq_true rfl⟩ (Nat.le_of_ble_eq_true rfl) rfl (ci := 6) (T := TX6) (N := 12) rfl (As := fun G => []) (fun _ => rfl) (fun _ => rfl) (st := []) (Nat.le_of_ble_eq_true rfl) rfl dL_law_1287 (kk_i (fun r331 σ331 h => ?_))
                                                                        refine v_aload_n hC 2 dL_law_1290 rfl ?_
                                                                        refine v_callV hC (kM_status  _ _ h) cmM_status ⟨kw1337, kw1338⟩ kw1336 ⟨Nat.le_of_ble_eq_true rfl, Nat.le_of_ble_eq_true rfl⟩ (Nat.le_of_ble_eq_true rfl) rfl (ci := 7) (T := TX7) (N := 30) rfl (As := fun G => []) (fun _ => rfl) (fun _ => rfl) (st := [.int r331]) (Nat.le_of_ble_eq_true rfl) rfl dL_law_1291 (kk_i (fun r333 σ333 h => ?_))
                                                                        refine v_icmp_eq hC 1299 dL_law_1294 (by decide) (fun c334 => ?_) (fun c334 => ?_)
                                                                        · replace h := h.1 c334
                                                                          refine v_iincN hC (nI 6) 3 dL_law_1299 rfl rfl (by decide) (lo2 := fun x3_335 => [(3, .int x3_335), (0, .ref b), (1, .ref (xad X 0)), (2, .ref (xad X 82))]) (fun _ => rfl) (fun x3_335 e335 => ?_)
                                                                          replace h := h x3_335 e335
                                                                          refine v_goto hC 18 dL_law_1302 (by decide) ?_
                                                                          exact V.sub [1, 2, 3, 0] rfl (ih _ _ h)
                                                                        · replace h := h.2 c334
                                                                          refine v_iconst hC (nI 0) dL_law_1297 rfl ?_
                                                                          exact h.elim
                                                                      · replace h := h.2.2.2.2.2.2.2.2.2.2.2.2.2.2.2.2.2.2.2.2.2.2.2.2.2.2.2.2.2.2.2.2.2 ⟨q3_0, q3_1, q3_2, q3_3, q3_4, q3_5, q3_6, q3_7, q3_8, q3_9, q3_10, q3_11, q3_12, q3_13, q3_14, q3_15, q3_16, q3_17, q3_18, q3_19, q3_20, q3_21, q3_22, q3_23, q3_24, q3_25, q3_26, q3_27, q3_28, q3_29, q3_30, q3_31, q3_32⟩
                                                                        refine v_tableOut hC 1299 dL_law_33 (sw_out _ _ (fun j hj1 hj2 => by have hj : j = 0 ∨ j = 1 ∨ j = 2 ∨ j = 3 ∨ j = 4 ∨ j = 5 ∨ j = 6 ∨ j = 7 ∨ j = 8 ∨ j = 9 ∨ j = 10 ∨ j = 11 ∨ j = 12 ∨ j = 13 ∨ j = 14 ∨ j = 15 ∨ j = 16 ∨ j = 17 ∨ j = 18 ∨ j = 19 ∨ j = 20 ∨ j = 21 ∨ j = 22 ∨ j = 23 ∨ j = 24 ∨ j = 25 ∨ j = 26 ∨ j = 27 ∨ j = 28 ∨ j = 29 ∨ j = 30 ∨ j = 31 ∨ j = 32 := (by omega); rcases hj with rfl | rfl | rfl | rfl | rfl | rfl | rfl | rfl | rfl | rfl | rfl | rfl | rfl | rfl | rfl | rfl | rfl | rfl | rfl | rfl | rfl | rfl | rfl | rfl | rfl | rfl | rfl | rfl | rfl | rfl | rfl | rfl | rfl <;> first | exact q3_0 | exact q3_1 | exact q3_2 | exact q3_3 | exact q3_4 | exact q3_5 | exact q3_6 | exact q3_7 | exact q3_8 | exact q3_9 | exact q3_10 | exact q3_11 | exact q3_12 | exact q3_13 | exact q3_14 | exact q3_15 | exact q3_16 | exact q3_17 | exact q3_18 | exact q3_19 | exact q3_20 | exact q3_21 | exact q3_22 | exact q3_23 | exact q3_24 | exact q3_25 | exact q3_26 | exact q3_27 | exact q3_28 | exact q3_29 | exact q3_30 | exact q3_31 | exact q3_32)) (by decide) ?_
                                                                        refine v_iincN hC (nI 6) 3 dL_law_1299 rfl rfl (by decide) (lo2 := fun x3_336 => [(3, .int x3_336), (0, .ref b), (1, .ref (xad X 0)), (2, .ref (xad X 82))]) (fun _ => rfl) (fun x3_336 e336 => ?_)
                                                                        replace h := h x3_336 e336
                                                                        refine v_goto hC 18 dL_law_1302 (by decide) ?_
                                                                        exact V.sub [1, 2, 3, 0] rfl (ih _ _ h)
