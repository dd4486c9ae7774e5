section Rows3
variable {X : gX} {cc : ByteArray} {own : String} {nL : Nat} {R0 : Room} {pc : Nat} {lo lo' : List (Nat × Value)} {st : List Value} {σ : gM}
theorem v_iald (hC : VC X cc own nL R0) {o n j : Nat} {i : Int32} (ho : o < 100) (hs : gSh o = gsI n) (hj : i.toNatClampNeg = j) (hin : vp_in i n) (hd : decode cc pc = .ok (.iaload, 1)) (k : V X nL (pc + 1) lo (.int (σ o j) :: st) σ) : V X nL pc lo (.int i :: .ref (xad X o) :: st) σ := by
  obtain ⟨p, l, e, R, s, m, args, below, meth, c, G, A, cells, slots, Q⟩ := X
  obtain ⟨hx, hb, -, -, -, -, -, ⟨hK, -⟩, -⟩ := hC
  subst hj
  exact fun H locs ls hP hS h => va_iald (D := G.1) (tys := gTy G) hx hb hK hP o 0 (gW_at ho hs) rfl hin hd (k H locs ls hP hS h)
theorem v_zald (hC : VC X cc own nL R0) {o n j : Nat} {i : Int32} (ho : o < 100) (hs : gSh o = gsZ n) (hj : i.toNatClampNeg = j) (hin : vp_in i n) (hd : decode cc pc = .ok (.baload, 1)) (k : V X nL (pc + 1) lo (.int (σ o j) :: st) σ) : V X nL pc lo (.int i :: .ref (xad X o) :: st) σ := by
  obtain ⟨p, l, e, R, s, m, args, below, meth, c, G, A, cells, slots, Q⟩ := X
  obtain ⟨hx, hb, -, -, -, -, -, ⟨hK, -⟩, -⟩ := hC
  subst hj
  exact fun H locs ls hP hS h => va_zald (D := G.1) (tys := gTy G) hx hb hK hP o 1 (gW_at ho hs) rfl hin hd (k H locs ls hP hS h)
theorem v_iast (hC : VC X cc own nL R0) {o n j : Nat} {i x : Int32} (ho : o < 100) (hs : gSh o = gsI n) (hj : i.toNatClampNeg = j) (hin : vp_in i n) (hd : decode cc pc = .ok (.iastore, 1)) (k : ∀ σ1 : gM, σ1 = gU σ o j x → V X nL (pc + 1) lo st σ1) : V X nL pc lo (.int x :: .int i :: .ref (xad X o) :: st) σ := by
  obtain ⟨p, l, e, R, s, m, args, below, meth, c, G, A, cells, slots, Q⟩ := X
  obtain ⟨hx, hb, -, -, -, -, hG, ⟨hK, -⟩, hA, -⟩ := hC
  subst hj
  replace k := k _ rfl
  intro H locs ls hP hS h
  refine va_iast (D := G.1) (tys := gTy G) hx hb hK hP (gW_D hG hA) hS o 0 (gW_at ho hs) rfl hin hd (fun H1 locs1 hP1 _ hS1 => ?_)
  rw [gW_set (σ' := gU σ o i.toNatClampNeg x) ho hs (by simp only [gCell, gU_upd]) (fun a ha => gU_ne ha)] at hP1
  exact k H1 locs1 ls hP1 hS1 h
theorem v_zast (hC : VC X cc own nL R0) {o n j : Nat} {i x : Int32} (ho : o < 100) (hs : gSh o = gsZ n) (hj : i.toNatClampNeg = j) (hin : vp_in i n) (hd : decode cc pc = .ok (.bastore, 1)) (k : ∀ σ1 : gM, σ1 = gU σ o j (vp_nar .boolean x) → V X nL (pc + 1) lo st σ1) : V X nL pc lo (.int x :: .int i :: .ref (xad X o) :: st) σ := by
  obtain ⟨p, l, e, R, s, m, args, below, meth, c, G, A, cells, slots, Q⟩ := X
  obtain ⟨hx, hb, -, -, -, -, hG, ⟨hK, -⟩, hA, -⟩ := hC
  subst hj
  replace k := k _ rfl
  intro H locs ls hP hS h
  refine va_zast (D := G.1) (tys := gTy G) hx hb hK hP (gW_D hG hA) hS o 1 (gW_at ho hs) rfl hin hd (fun H1 locs1 hP1 _ hS1 => ?_)
  rw [gW_set (σ' := gU σ o i.toNatClampNeg (vp_nar .boolean x)) ho hs (by simp only [gCell, gU_upd]) (fun a ha => gU_ne ha)] at hP1
  exact k H1 locs1 ls hP1 hS1 h
theorem v_alen (hC : VC X cc own nL R0) {o n : Nat} (v : Int32) (ho : o < 100) (hs : gSh o = gsI n) (hv : Int32.ofNat n = v) (hd : decode cc pc = .ok (.arraylength, 1)) (k : V X nL (pc + 1) lo (.int v :: st) σ) : V X nL pc lo (.ref (xad X o) :: st) σ := by
  obtain ⟨p, l, e, R, s, m, args, below, meth, c, G, A, cells, slots, Q⟩ := X
  obtain ⟨hx, hb, -, -, -, -, -, ⟨hK, -⟩, -⟩ := hC
  exact fun H locs ls hP hS h => va_alen (D := G.1) (tys := gTy G) hx hb hK hP o 0 (gW_at ho hs) rfl (by exact hv) hd (k H locs ls hP hS h)
/-- an array of cells is read: the rows (t 2), the images (t 3) -/
theorem v_aald (hC : VC X cc own nL R0) {o t n : Nat} {g : Nat → Nat} {i : Int32} (ht : t = 2 ∨ t = 3) (ho : o < 100) (hs : gSh o = gsR t n g) (hin : vp_in i n) (hd : decode cc pc = .ok (.aaload, 1)) (k : V X nL (pc + 1) lo (.ref (xad X (g i.toNatClampNeg)) :: st) σ) : V X nL pc lo (.int i :: .ref (xad X o) :: st) σ := by
  obtain ⟨p, l, e, R, s, m, args, below, meth, c, G, A, cells, slots, Q⟩ := X
  obtain ⟨hx, hb, -, -, -, -, -, ⟨hK, -⟩, -⟩ := hC
  rcases ht with rfl | rfl
  · exact fun H locs ls hP hS h => va_aldq (D := G.1) (tys := gTy G) (C := "HeapEnds$Row") hx hb hK hP o 2 (gW_at ho hs) rfl hin hd (k H locs ls hP hS h)
  · exact fun H locs ls hP hS h => va_aldq (D := G.1) (tys := gTy G) (C := "HeapEnds$Market") hx hb hK hP o 3 (gW_at ho hs) rfl hin hd (k H locs ls hP hS h)
theorem v_copy (hC : VC X cc own nL R0) {ix a b n0 n1 : Nat} {sp dp n : Int32} (ha : a < 100) (hb : b < 100) (hsa : gSh a = gsI n0) (hsb : gSh b = gsI n1) (hl : Cond.methodLink own ix arraycopyName ∈ wsA) (w1 : Cond.native arraycopyName ∈ wsA) (w2 : Cond.static arraycopyName ∈ wsA) (w3 : Cond.initialized "java/lang/System" ∈ wsA)
    (h1 : ¬ sp < nI 0) (h2 : ¬ dp < nI 0) (h3 : ¬ n < nI 0) (h4 : sp.toNatClampNeg + n.toNatClampNeg ≤ n0) (h5 : dp.toNatClampNeg + n.toNatClampNeg ≤ n1) (hfr : 1 ≤ R0.frames) (hlo : (st.map fun v => v.category).sum + (nativeFrameWords "java/lang/System" "arraycopy" 5 + 11) ≤ R0.locals) (hd : decode cc pc = .ok (.invokestatic ix, 3))
    (k : ∀ σ1 : gM, σ1 = gCp σ a sp.toNatClampNeg b dp.toNatClampNeg n.toNatClampNeg → V X nL (pc + 3) lo st σ1) : V X nL pc lo (.int n :: .int dp :: .ref (xad X b) :: .int sp :: .ref (xad X a) :: st) σ := by
  obtain ⟨p, l, e, R, s, m, args, below, meth, c, G, A, cells, slots, Q⟩ := X
  obtain ⟨hx, hbb, hml, hw, hts, hR, hG, ⟨hK, -⟩, hA, -⟩ := hC
  replace k := k _ rfl
  intro H locs ls hP hS h
  have hR : R = R0 := hR
  refine va_copyi (D := G.1) (tys := gTy G) (ty := .int) hx hbb (by rw [h.1]; exact hml) hw (hts _ hl) (hts _ w1) (hts _ w2) (hts _ w3) hK hP (gW_D hG hA) hS a b 0 0 (gW_at ha hsa) (gW_at hb hsb) rfl rfl rfl h1 h2 h3 h4 h5 (fun _ _ => rfl) (by rw [hR]; exact hfr) (by rw [hR]; exact hlo) hd (fun H1 locs1 hP1 _ hS1 => ?_)
  rw [gW_set (σ' := gCp σ a sp.toNatClampNeg b dp.toNatClampNeg n.toNatClampNeg) hb hsb (by simp only [gCell]; congr 4; funext j; simp [gCp]) (fun q hq => by funext j; simp [gCp, hq])] at hP1
  exact k H1 locs1 ls hP1 hS1 h
theorem v_mmax (hC : VC X cc own nL R0) {ix : Nat} {x y : Int32} (hl : Cond.methodLink own ix Lib.Math.max.name ∈ wsA) (w1 : Cond.static Lib.Math.max.name ∈ wsA) (w2 : Cond.initialized "java/lang/Math" ∈ wsA) (w3 : Cond.code Lib.Math.max.name Lib.Math.max.code 2 (some .int) ∈ wsA) (hfr : 1 ≤ R0.frames) (hlo : (st.map fun v => v.category).sum + 13 ≤ R0.locals) (hd : decode cc pc = .ok (.invokestatic ix, 3))
    (k : V X nL (pc + 3) lo (.int (if x < y then y else x) :: st) σ) : V X nL pc lo (.int y :: .int x :: st) σ := by
  obtain ⟨p, l, e, R, s, m, args, below, meth, c, G, A, cells, slots, Q⟩ := X
  obtain ⟨hx, hbb, hml, hw, hts, hR, hG, -, hA, hce, hsl⟩ := hC
  have hR : R = R0 := hR
  exact fun H locs ls hP hS h => va_mmax hx hbb (by rw [h.1]; exact hml) hw (hts _ hl) (hts _ w1) (hts _ w2) (hts _ w3) (by rw [hR]; exact hfr) (by rw [hR]; exact hlo) hce hsl hd (k H locs ls hP hS h)
theorem v_mmin (hC : VC X cc own nL R0) {ix : Nat} {x y : Int32} (hl : Cond.methodLink own ix Lib.Math.min.name ∈ wsA) (w1 : Cond.static Lib.Math.min.name ∈ wsA) (w2 : Cond.initialized "java/lang/Math" ∈ wsA) (w3 : Cond.code Lib.Math.min.name Lib.Math.min.code 2 (some .int) ∈ wsA) (hfr : 1 ≤ R0.frames) (hlo : (st.map fun v => v.category).sum + 13 ≤ R0.locals) (hd : decode cc pc = .ok (.invokestatic ix, 3))
    (k : V X nL (pc + 3) lo (.int (if y < x then y else x) :: st) σ) : V X nL pc lo (.int y :: .int x :: st) σ := by
  obtain ⟨p, l, e, R, s, m, args, below, meth, c, G, A, cells, slots, Q⟩ := X
  obtain ⟨hx, hbb, hml, hw, hts, hR, hG, -, hA, hce, hsl⟩ := hC
  have hR : R = R0 := hR
  exact fun H locs ls hP hS h => va_mmin hx hbb (by rw [h.1]; exact hml) hw (hts _ hl) (hts _ w1) (hts _ w2) (hts _ w3) (by rw [hR]; exact hfr) (by rw [hR]; exact hlo) hce hsl hd (k H locs ls hP hS h)
/-! ends -/
def gPi (Q : Int32 → gM → Prop) : gG → Option Value → gM → Prop := fun _ v σ => ∃ r : Int32, v = some (.int r) ∧ Q r σ
def gPv (Q : gM → Prop) : gG → Option Value → gM → Prop := fun _ v σ => v = none ∧ Q σ
def gPs (Q : Nat → gM → Prop) : gG → Option Value → gM → Prop := fun G v σ => ∃ i : Nat, v = some (.ref (gK G i)) ∧ Q i σ
theorem v_iret {Q : Int32 → gM → Prop} {v : Int32} (hC : VC X cc own nL R0) (hR : VR X (some .int) (gPi Q)) (h : Q v σ) (hd : decode cc pc = .ok (.ireturn, 1)) : V X nL pc lo [.int v] σ := by
  obtain ⟨p, l, e, R, s, m, args, below, meth, c, G, A, cells, slots, Q0⟩ := X
  obtain ⟨hr, hlk, rfl⟩ := hR
  exact fun H locs ls hP hS _ => W.iret hC.1 hC.2.1 hr (fun t ht _ => ⟨⟨some (.int v), σ, rfl, ⟨v, rfl, h⟩, by rw [ht]; exact hP⟩, hS.F ht⟩) hS.2.2 hd hlk
theorem v_zret {Q : Int32 → gM → Prop} {v : Int32} {ty : FieldType} (hC : VC X cc own nL R0) (hR : VR X (some ty) (gPi Q)) (hn : narrow ty (.int v) = .int v) (h : Q v σ) (hd : decode cc pc = .ok (.ireturn, 1)) : V X nL pc lo [.int v] σ := by
  obtain ⟨p, l, e, R, s, m, args, below, meth, c, G, A, cells, slots, Q0⟩ := X
  obtain ⟨hr, hlk, rfl⟩ := hR
  exact fun H locs ls hP hS _ => W.zret hC.1 hC.2.1 hr hn (fun t ht _ => ⟨⟨some (.int v), σ, rfl, ⟨v, rfl, h⟩, by rw [ht]; exact hP⟩, hS.F ht⟩) hS.2.2 hd hlk
theorem v_vret {Q : gM → Prop} (hC : VC X cc own nL R0) (hR : VR X none (gPv Q)) (h : Q σ) (hd : decode cc pc = .ok (.return_, 1)) : V X nL pc lo [] σ := by
  obtain ⟨p, l, e, R, s, m, args, below, meth, c, G, A, cells, slots, Q0⟩ := X
  obtain ⟨hr, hlk, rfl⟩ := hR
  exact fun H locs ls hP hS _ => W.vret hC.1 hC.2.1 hr (fun t ht _ => ⟨⟨none, σ, rfl, ⟨rfl, h⟩, by rw [ht]; exact hP⟩, hS.F ht⟩) hS.2.2 hd hlk
theorem v_sret {Q : Nat → gM → Prop} {i : Nat} {C : String} (hC : VC X cc own nL R0) (hR : VR X (some (.object C)) (gPs Q)) (h : Q i σ) (hd : decode cc pc = .ok (.areturn, 1)) : V X nL pc lo [.ref (gK (xG X) i)] σ := by
  obtain ⟨p, l, e, R, s, m, args, below, meth, c, G, A, cells, slots, Q0⟩ := X
  obtain ⟨hr, hlk, rfl⟩ := hR
  exact fun H locs ls hP hS _ => W.aret hC.1 hC.2.1 hr (Or.inl ⟨_, rfl⟩) (Or.inr ⟨_, rfl⟩) (fun t ht _ => ⟨⟨_, σ, rfl, ⟨i, rfl, h⟩, by rw [ht]; exact hP⟩, hS.F ht⟩) hS.2.2 hd hlk
/-! calls -/
/-- what the tables say of a method that is called -/
def CM (y : MethodName) (cc : ByteArray) (maxL : Nat) (ret : Option FieldType) (rm : Room) (n : Nat) : Prop :=
  Cond.initialized y.cls ∈ wsA ∧ Cond.code y cc maxL ret ∈ wsA ∧ rm.cells = 0 ∧ rm.slots = 0 ∧ y.cls ≠ "java/lang/invoke/MethodHandle" ∧ y.cls ≠ "java/lang/invoke/VarHandle" ∧ (parseMethodDescriptor y.desc).map (fun d => d.parameters.length) = some n
theorem good_call {y : MethodName} {cc : ByteArray} {maxL n : Nat} {ret : Option FieldType} {rm : Room} (hm : CM y cc maxL ret rm n) {ex : List Cond} (hex : ∀ w ∈ ex, w ∈ wsA) : GoodIn wsA (ex ++ (.code y cc maxL ret :: wsA)) :=
  wsA_good (fun w hw => (List.mem_append.mp hw).elim (hex w) (fun h => (List.mem_cons.mp h).elim (fun e => by rw [e]; exact hm.2.1) id))
theorem gA_sub {G : gG} {A : Nat → Prop} (hA : ∀ i, i < 100 → A (gad G i)) : ∀ q, gA G q → A q := fun q h => by
  obtain ⟨i, hi, rfl⟩ := h
  exact hA i hi
/-- a call's start: nothing in it looks at the frames -/
theorem gPre {s : State} {H : Heap} {G : gG} {A : Nat → Prop} {locs : List Loc} {av : List Value} (hP : va_P G.1 vwCl (gW G σ) H) (hS : va_S A s.heap H locs) (hF : gF G A s s.heap) (hA : ∀ i, i < 100 → A (gad G i)) :
    FrameBlind (va_Pc av (fun U => va_P G.1 vwCl (gW G σ) U.heap ∧ gF G (gA G) U U.heap)) ∧ ∀ U : State, U.heap = H → s.WarmedH U.vm → va_Pc av (fun U => va_P G.1 vwCl (gW G σ) U.heap ∧ gF G (gA G) U U.heap) av.toArray U := by
  refine ⟨fun a U g mk q => ⟨q.1, q.2.1, q.2.2.blind rfl⟩, fun U hU hW => ⟨rfl, by rw [hU]; exact hP, ?_⟩⟩
  rw [hU]
  exact ((hF.kept hS.2.1).moved hW).narrow (gA_sub hA)
theorem v_run {p : Program} {l : Launch} {e : Env} {R : Room} {s : State} {m : MethodId} {args : Array Value} {below : List Frame} {meth : Method} {c : Code} {H : Heap} {locs : List Loc} {cells slots : Nat} {Q : State → Prop} {ls : Array Slot} {rest st0 : List Value} {a : Array Value} {A : Nat → Prop} {G : gG} {P : gG → Option Value → gM → Prop}
    (hr : va_Run p l e R s m args below meth c H locs cells slots 0 0 (F0 m pc ls st0) rest (gQ G (gA G) P a) (gA G)) (hS : va_S A s.heap H locs) (hA : ∀ i, i < 100 → A (gad G i))
    (kk : ∀ (v : Option Value) (σ' : gM) (H1 : Heap) (locs1 : List Loc), P G v σ' → va_P G.1 vwCl (gW G σ') H1 → va_S A s.heap H1 locs1 → W p l e R s m args below meth c H1 locs1 cells slots Q (F0 m (pc + 3) ls (v.toList ++ rest))) : W p l e R s m args below meth c H locs cells slots Q (F0 m pc ls st0) := by
  intro T hT X
  obtain ⟨v0, st₀, t, T', L, h0, X', hL, e1, e2, ⟨⟨v, σ', hv, hp, hPt⟩, hz, hk⟩, st⟩ := hr T hT X
  cases hv
  rw [h0] at hz hk
  obtain ⟨t2, a1, b1⟩ := kk v0 σ' T'.heap (locs ++ L) hp (by rw [e1]; exact hPt)
    ⟨Nat.le_trans hS.1 (by rw [e1]; exact hz), fun q h1 h2 => by rw [e1, hk q (Nat.lt_of_lt_of_le h1 hS.1) (fun z => h2 (gA_sub hA q z))]; exact hS.2.1 q h1 h2, fun q hq => by
      rcases List.mem_append.mp hq with h | h
      · exact hS.2.2 q h
      · exact gA_sub hA _ (hL q h)⟩ T' rfl X'
  exact ⟨t2, st t2 a1, b1⟩
theorem v_callV (hC : VC X cc own nL R0) {y : MethodName} {cc1 : ByteArray} {maxL n ix ci o N : Nat} {ret : Option FieldType} {rm : Room} {av As : gG → List Value} {P : gG → Option Value → gM → Prop} {fl : List (Nat ⊕ (Nat ⊕ Nat))} {T : u_T} {stk : List Value} (hct : CT y cc1 maxL ret rm av σ P) (hm : CM y cc1 maxL ret rm n) (w1 : Cond.instanceMethod y ∈ wsA ∧ Cond.selects y.cls y y ∈ wsA) (hl : Cond.methodLink own ix y ∈ wsA) (hr : rm.frames + 1 ≤ R0.frames ∧ 8 + (maxL + 11) + rm.locals ≤ R0.locals)
    (ho : o < 100) (hs : gSh o = gsO ci fl) (hc : vwCl[ci]? = some (y.cls, T, N)) (hav : ∀ G, av G = .ref (gad G o) :: As G) (hn : ∀ G, (As G).length = n) (hst : (st.map fun v => v.category).sum ≤ 8) (hstk : stk = (As (xG X)).reverse ++ .ref (xad X o) :: st) (hd : decode cc pc = .ok (.invokevirtual ix, 3))
    (kk : ∀ (v : Option Value) (σ' : gM), P (xG X) v σ' → V X nL (pc + 3) lo (v.toList ++ st) σ') : V X nL pc lo stk σ := by
  obtain ⟨p, l, e, R, s, m, args, below, meth, c, G, A, cells, slots, Q⟩ := X
  obtain ⟨hx, hb, hml, hw, hts, hR, hG, hF, hA, hce, hsl⟩ := hC
  have hR : R = R0 := hR
  subst hR
  intro H locs ls hP hS h
  have hM := hct l G hG
  have hpre := gPre (av := av G) hP hS hF hA
  have hgd : GoodIn wsA (wsV own ix y.cls y (.code y cc1 maxL ret :: wsA)) := good_call hm (fun w hw => by
    simp only [List.mem_cons, List.not_mem_nil, or_false] at hw
    rcases hw with rfl | rfl | rfl | rfl
    · exact hl
    · exact w1.1
    · exact w1.2
    · exact hm.1)
  have hrun := va_runV (e := e) (below := below) (meth := meth) (g := F0 m pc ls stk) (As := As G) (rest := st) (locs := locs) (cells := cells) (slots := slots) ⟨hx, hb, hml, hw, hts⟩ hM (cwV n hts hgd rfl hm.2.2.1 hm.2.2.2.1 ⟨rfl, hm.2.2.2.2.1, hm.2.2.2.2.2.1, hm.2.2.2.2.2.2⟩ hr) ⟨hpre.1, va_recv hF.1 hP hc (gW_at ho hs), fun U hU hW => by rw [← hav G]; exact hpre.2 U hU hW⟩ rfl (hn G) h.1 hstk (lv_room hst) hd ⟨by omega, by omega⟩
  exact v_run hrun hS hA (fun v σ' H1 locs1 hp hP1 hS1 => kk v σ' hp H1 locs1 ls hP1 hS1 h)
/-- a method of a text -/
theorem v_callT (hC : VC X cc own nL R0) {y : MethodName} {cc1 : ByteArray} {maxL n ix i : Nat} {ret : Option FieldType} {rm : Room} {av As : gG → List Value} {P : gG → Option Value → gM → Prop} {stk : List Value} (hct : CT y cc1 maxL ret rm av σ P) (hm : CM y cc1 maxL ret rm n) (w1 : Cond.instanceMethod y ∈ wsA ∧ Cond.selects y.cls y y ∈ wsA) (hl : Cond.methodLink own ix y ∈ wsA) (hr : rm.frames + 1 ≤ R0.frames ∧ 8 + (maxL + 11) + rm.locals ≤ R0.locals)
    (hi : i < 8) (hy : y.cls = "java/lang/String") (hav : ∀ G, av G = .ref (gK G i) :: As G) (hn : ∀ G, (As G).length = n) (hst : (st.map fun v => v.category).sum ≤ 8) (hstk : stk = (As (xG X)).reverse ++ .ref (gK (xG X) i) :: st) (hd : decode cc pc = .ok (.invokevirtual ix, 3))
    (kk : ∀ (v : Option Value) (σ' : gM), P (xG X) v σ' → V X nL (pc + 3) lo (v.toList ++ st) σ') : V X nL pc lo stk σ := by
  obtain ⟨p, l, e, R, s, m, args, below, meth, c, G, A, cells, slots, Q⟩ := X
  obtain ⟨hx, hb, hml, hw, hts, hR, hG, hF, hA, hce, hsl⟩ := hC
  have hR : R = R0 := hR
  subst hR
  intro H locs ls hP hS h
  have hM := hct l G hG
  have hpre := gPre (av := av G) hP hS hF hA
  have hgd : GoodIn wsA (wsV own ix y.cls y (.code y cc1 maxL ret :: wsA)) := good_call hm (fun w hw => by
    simp only [List.mem_cons, List.not_mem_nil, or_false] at hw
    rcases hw with rfl | rfl | rfl | rfl
    · exact hl
    · exact w1.1
    · exact w1.2
    · exact hm.1)
  have hrun := va_runV (e := e) (below := below) (meth := meth) (g := F0 m pc ls stk) (As := As G) (rest := st) (locs := locs) (cells := cells) (slots := slots) ⟨hx, hb, hml, hw, hts⟩ hM (cwV n hts hgd rfl hm.2.2.1 hm.2.2.2.1 ⟨rfl, hm.2.2.2.2.1, hm.2.2.2.2.2.1, hm.2.2.2.2.2.2⟩ hr) ⟨hpre.1, by rw [hy]; exact vk_recv hF.2.2.2.2.2.1 hi hS, fun U hU hW => by rw [← hav G]; exact hpre.2 U hU hW⟩ rfl (hn G) h.1 hstk (lv_room hst) hd ⟨by omega, by omega⟩
  exact v_run hrun hS hA (fun v σ' H1 locs1 hp hP1 hS1 => kk v σ' hp H1 locs1 ls hP1 hS1 h)
theorem v_callS (hC : VC X cc own nL R0) {y : MethodName} {cc1 : ByteArray} {maxL n ix : Nat} {ret : Option FieldType} {rm : Room} {av : gG → List Value} {P : gG → Option Value → gM → Prop} {stk : List Value} (hct : CT y cc1 maxL ret rm av σ P) (hm : CM y cc1 maxL ret rm n) (w1 : Cond.static y ∈ wsA) (hl : Cond.methodLink own ix y ∈ wsA) (hr : rm.frames + 1 ≤ R0.frames ∧ 8 + (maxL + 11) + rm.locals ≤ R0.locals)
    (hn : ∀ G, (av G).length = n) (hst : (st.map fun v => v.category).sum ≤ 8) (hstk : stk = (av (xG X)).reverse ++ st) (hd : decode cc pc = .ok (.invokestatic ix, 3))
    (kk : ∀ (v : Option Value) (σ' : gM), P (xG X) v σ' → V X nL (pc + 3) lo (v.toList ++ st) σ') : V X nL pc lo stk σ := by
  obtain ⟨p, l, e, R, s, m, args, below, meth, c, G, A, cells, slots, Q⟩ := X
  obtain ⟨hx, hb, hml, hw, hts, hR, hG, hF, hA, hce, hsl⟩ := hC
  have hR : R = R0 := hR
  subst hR
  intro H locs ls hP hS h
  have hM := hct l G hG
  have hpre := gPre (av := av G) hP hS hF hA
  have hgd : GoodIn wsA (va_wsS own ix y (.code y cc1 maxL ret :: wsA)) := good_call hm (fun w hw => by
    simp only [List.mem_cons, List.not_mem_nil, or_false] at hw
    rcases hw with rfl | rfl | rfl
    · exact hl
    · exact w1
    · exact hm.1)
  have hrun := va_runS (e := e) (below := below) (meth := meth) (g := F0 m pc ls stk) (As := av G) (rest := st) (locs := locs) (cells := cells) (slots := slots) ⟨hx, hb, hml, hw, hts⟩ hM (va_cwS n hts hgd rfl hm.2.2.1 hm.2.2.2.1 ⟨hm.2.2.2.2.1, hm.2.2.2.2.2.1, hm.2.2.2.2.2.2⟩ hr) hpre rfl (hn G) h.1 hstk (lv_room hst) hd ⟨by omega, by omega⟩
  exact v_run hrun hS hA (fun v σ' H1 locs1 hp hP1 hS1 => kk v σ' hp H1 locs1 ls hP1 hS1 h)
/-- Market's call of HeapEnds.isSuch -/
theorem v_callN (hC : VC X cc RX2 nL R0) {cc1 : ByteArray} {maxL n : Nat} {ret : Option FieldType} {rm : Room} {av : gG → List Value} {P : gG → Option Value → gM → Prop} {stk : List Value} (hct : CT yX6_isSuch cc1 maxL ret rm av σ P) (hm : CM yX6_isSuch cc1 maxL ret rm n) (w1 : Cond.static yX6_isSuch ∈ wsA) (hr : rm.frames + 1 ≤ R0.frames ∧ 8 + (maxL + 11) + rm.locals ≤ R0.locals)
    (hn : ∀ G, (av G).length = n) (hst : (st.map fun v => v.category).sum ≤ 8) (hstk : stk = (av (xG X)).reverse ++ st) (hd : decode cc pc = .ok (.invokestatic 94, 3))
    (kk : ∀ (v : Option Value) (σ' : gM), P (xG X) v σ' → V X nL (pc + 3) lo (v.toList ++ st) σ') : V X nL pc lo stk σ := by
  obtain ⟨p, l, e, R, s, m, args, below, meth, c, G, A, cells, slots, Q⟩ := X
  obtain ⟨hx, hb, hml, hw, hts, hR, hG, hF, hA, hce, hsl⟩ := hC
  have hR : R = R0 := hR
  subst hR
  intro H locs ls hP hS h
  have hM := hct l G hG
  have hpre := gPre (av := av G) hP hS hF hA
  have hgd : GoodIn wsA (.code yX6_isSuch cc1 maxL ret :: wsA) := good_call hm (ex := []) (fun w hw => by cases hw)
  have hN := hF.2.2.2.2.2.2.2
  have hrun := va_runSN (e := e) (below := below) (meth := meth) (g := F0 m pc ls stk) (host := RX6) (As := av G) (rest := st) (locs := locs) (cells := cells) (slots := slots) ⟨hx, hb, hml, hw, hts⟩ hM ⟨va_cnB n hts hgd rfl hm.2.2.1 hm.2.2.2.1 hN (hts _ hm.1) ⟨hm.2.2.2.2.1, hm.2.2.2.2.2.1, hm.2.2.2.2.2.2⟩ hr, hts _ w1, trivial⟩ hpre rfl (hn G) h.1 hstk (lv_room hst) hd ⟨by omega, by omega⟩
  exact v_run hrun hS hA (fun v σ' H1 locs1 hp hP1 hS1 => kk v σ' hp H1 locs1 ls hP1 hS1 h)
/-- the answers' kinds -/
theorem kk_i {Q : Int32 → gM → Prop} (kk : ∀ (r : Int32) (σ' : gM), Q r σ' → V X nL pc lo (.int r :: st) σ') : ∀ (v : Option Value) (σ' : gM), gPi Q (xG X) v σ' → V X nL pc lo (v.toList ++ st) σ' := by
  rintro v σ' ⟨r, rfl, h⟩
  exact kk r σ' h
theorem kk_v {Q : gM → Prop} (kk : ∀ (σ' : gM), Q σ' → V X nL pc lo st σ') : ∀ (v : Option Value) (σ' : gM), gPv Q (xG X) v σ' → V X nL pc lo (v.toList ++ st) σ' := by
  rintro v σ' ⟨rfl, h⟩
  exact kk σ' h
theorem kk_s {Q : Nat → gM → Prop} (kk : ∀ (i : Nat) (σ' : gM), Q i σ' → V X nL pc lo (.ref (gK (xG X) i) :: st) σ') : ∀ (v : Option Value) (σ' : gM), gPs Q (xG X) v σ' → V X nL pc lo (v.toList ++ st) σ' := by
  rintro v σ' ⟨i, rfl, h⟩
  exact kk i σ' h
/-! the static table and String's statics -/
theorem v_getNear (hC : VC X cc RX6 nL R0) (hl : Cond.fieldLink RX6 355 "HeapEnds" "NEAREST" "[I" ∈ wsA) (hd : decode cc pc = .ok (.getstatic 355, 3)) (k : V X nL (pc + 3) lo (.ref (xG X).2.2.2.1 :: st) σ) : V X nL pc lo st σ := by
  obtain ⟨p, l, e, R, s, m, args, below, meth, c, G, A, cells, slots, Q⟩ := X
  obtain ⟨hx, hb, -, hw, hts, -, -, hF, -⟩ := hC
  exact fun H locs ls hP hS h => va_gets hx hb hF.2.1 hS hw (hts _ hl) (fun _ h9 => h9) hd (k H locs ls hP hS h)
theorem v_nearAt (hC : VC X cc own nL R0) {i : Int32} (hin : vp_in i 6) (hd : decode cc pc = .ok (.iaload, 1)) (k : V X nL (pc + 1) lo (.int (gNear i.toNatClampNeg) :: st) σ) : V X nL pc lo (.int i :: .ref (xG X).2.2.2.1 :: st) σ := by
  obtain ⟨p, l, e, R, s, m, args, below, meth, c, G, A, cells, slots, Q⟩ := X
  obtain ⟨hx, hb, -, hw, hts, -, -, hF, -⟩ := hC
  exact fun H locs ls hP hS h => va_ti hx hb hF.2.2.1 hS hin rfl hd (k H locs ls hP hS h)
end Rows3
