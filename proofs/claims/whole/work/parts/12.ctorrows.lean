/-! THE CONSTRUCTORS: worlds as lists -/
abbrev gTc (cy : Nat → ClassId) : List (ClassId × FieldType) := [(cy 0, .int), (cy 1, .boolean), (cy 2, .object "HeapEnds$Row"), (cy 3, .object "HeapEnds$Market")]
def UF (D : va_G) (cy : Nat → ClassId) (U : State) : Prop := va_K D vwCl (gTc cy) U ∧ va_AO "HeapEnds$Row" U ∧ va_AO "HeapEnds$Market" U
abbrev uX : Type := Program × Launch × Env × Room × State × MethodId × Array Value × List Frame × Method × Code × va_G × (Nat → ClassId) × (Nat → Prop) × (State → Prop)
abbrev ucy (X : uX) : Nat → ClassId := X.2.2.2.2.2.2.2.2.2.2.2.1
abbrev uIn (X : uX) : Prop := X.2.2.2.2.2.2.2.2.1.name = "<init>"
def U (X : uX) (nL pc : Nat) (lo : List (Nat × Value)) (st : List Value) (ws : va_W) (cells slots : Nat) : Prop :=
  match X with
  | (p, l, e, R, s, m, args, below, meth, c, D, _, A, Q) => ∀ (H : Heap) (locs : List Loc) (ls : Array Slot), va_P D vwCl ws H → va_D A ws → va_S A s.heap H locs → lv_has ls nL lo → W p l e R s m args below meth c H locs cells slots Q (F0 m pc ls st)
def UC (X : uX) (cc : ByteArray) (own : String) (nL : Nat) (R0 : Room) : Prop :=
  match X with
  | (p, _, _, R, s, m, args, _, _, c, D, cy, A, _) => p.tables.exec = Jvm.exec ∧ c.code = cc ∧ c.maxLocals = nL ∧ s.vm.findClass own = some m.cls ∧ (∀ w ∈ wsA, w.before args s = true) ∧ R = R0 ∧ UF D cy s ∧ ∀ q, s.heap.size ≤ q → A q
section CtorRows
variable {X : uX} {cc : ByteArray} {own : String} {nL : Nat} {R0 : Room} {pc : Nat} {lo lo' : List (Nat × Value)} {st : List Value} {ws ws' : va_W} {cn sn : Nat}

theorem u_aload_n (hC : UC X cc own nL R0) {kk : Fin 4} {x : Nat} (n : Nat) (hd : decode cc pc = .ok (.aload_n kk, 1)) (hn : lo[n]? = some ((kk : Nat), .ref x)) (k : U X nL (pc + 1) lo (.ref x :: st) ws cn sn) : U X nL pc lo st ws cn sn := by
  obtain ⟨p, l, e, R, s, m, args, below, meth, c, D, cy, A, Q⟩ := X
  exact fun H locs ls hP hD hS hl => lv_aload_n hC.1 hC.2.1 hd rfl (lv_at hl n hn) (k H locs ls hP hD hS hl)
theorem u_iload_n (hC : UC X cc own nL R0) {kk : Fin 4} {x : Int32} (n : Nat) (hd : decode cc pc = .ok (.iload_n kk, 1)) (hn : lo[n]? = some ((kk : Nat), .int x)) (k : U X nL (pc + 1) lo (.int x :: st) ws cn sn) : U X nL pc lo st ws cn sn := by
  obtain ⟨p, l, e, R, s, m, args, below, meth, c, D, cy, A, Q⟩ := X
  exact fun H locs ls hP hD hS hl => lv_iload_n hC.1 hC.2.1 hd rfl (lv_at hl n hn) (k H locs ls hP hD hS hl)
theorem u_iconst (hC : UC X cc own nL R0) {n : Int} (v : Int32) (hd : decode cc pc = .ok (.iconst n, 1)) (hv : Int32.ofInt n = v) (k : U X nL (pc + 1) lo (.int v :: st) ws cn sn) : U X nL pc lo st ws cn sn := by
  obtain ⟨p, l, e, R, s, m, args, below, meth, c, D, cy, A, Q⟩ := X
  exact fun H locs ls hP hD hS hl => lv_iconst hC.1 hC.2.1 hd hv (k H locs ls hP hD hS hl)
theorem u_bipush (hC : UC X cc own nL R0) {n : Int} (v : Int32) (hd : decode cc pc = .ok (.bipush n, 2)) (hv : (Int8.ofInt n).toInt32 = v) (k : U X nL (pc + 2) lo (.int v :: st) ws cn sn) : U X nL pc lo st ws cn sn := by
  obtain ⟨p, l, e, R, s, m, args, below, meth, c, D, cy, A, Q⟩ := X
  exact fun H locs ls hP hD hS hl => lv_bipush hC.1 hC.2.1 hd hv (k H locs ls hP hD hS hl)
theorem u_sipush (hC : UC X cc own nL R0) {n : Int} (v : Int32) (hd : decode cc pc = .ok (.sipush n, 3)) (hv : (Int16.ofInt n).toInt32 = v) (k : U X nL (pc + 3) lo (.int v :: st) ws cn sn) : U X nL pc lo st ws cn sn := by
  obtain ⟨p, l, e, R, s, m, args, below, meth, c, D, cy, A, Q⟩ := X
  exact fun H locs ls hP hD hS hl => lv_sipush hC.1 hC.2.1 hd hv (k H locs ls hP hD hS hl)
theorem u_dup (hC : UC X cc own nL R0) {a : Value} (hd : decode cc pc = .ok (.dup, 1)) (ha : a.category = 1) (k : U X nL (pc + 1) lo (a :: a :: st) ws cn sn) : U X nL pc lo (a :: st) ws cn sn := by
  obtain ⟨p, l, e, R, s, m, args, below, meth, c, D, cy, A, Q⟩ := X
  exact fun H locs ls hP hD hS hl => lv_dup hC.1 hC.2.1 hd ha (k H locs ls hP hD hS hl)
theorem u_goto (hC : UC X cc own nL R0) {off : Int} (tgt : Nat) (hd : decode cc pc = .ok (.goto off, 3)) (ht : (pc : Int) + off = (tgt : Int)) (k : U X nL tgt lo st ws cn sn) : U X nL pc lo st ws cn sn := by
  obtain ⟨p, l, e, R, s, m, args, below, meth, c, D, cy, A, Q⟩ := X
  exact fun H locs ls hP hD hS hl => lv_goto hC.1 hC.2.1 hd ht (k H locs ls hP hD hS hl)
theorem u_ge_t (hC : UC X cc own nL R0) {x y : Int32} {off : Int} (tgt : Nat) (hd : decode cc pc = .ok (.if_icmp .ge off, 3)) (ht : (pc : Int) + off = (tgt : Int)) (h : y ≤ x) (k : U X nL tgt lo st ws cn sn) : U X nL pc lo (.int y :: .int x :: st) ws cn sn := by
  obtain ⟨p, l, e, R, s, m, args, below, meth, c, D, cy, A, Q⟩ := X
  exact fun H locs ls hP hD hS hl => lv_icmp_ge hC.1 hC.2.1 hd ht (fun _ => k H locs ls hP hD hS hl) (fun q => absurd h q)
theorem u_ge_f (hC : UC X cc own nL R0) {x y : Int32} {off : Int} (tgt : Nat) (hd : decode cc pc = .ok (.if_icmp .ge off, 3)) (ht : (pc : Int) + off = (tgt : Int)) (h : ¬ y ≤ x) (k : U X nL (pc + 3) lo st ws cn sn) : U X nL pc lo (.int y :: .int x :: st) ws cn sn := by
  obtain ⟨p, l, e, R, s, m, args, below, meth, c, D, cy, A, Q⟩ := X
  exact fun H locs ls hP hD hS hl => lv_icmp_ge hC.1 hC.2.1 hd ht (fun q => absurd q h) (fun _ => k H locs ls hP hD hS hl)
theorem u_istore_n (hC : UC X cc own nL R0) {kk : Fin 4} {x : Int32} (hd : decode cc pc = .ok (.istore_n kk, 1)) (hn : (kk : Nat) < nL) (hl : ((kk : Nat), Value.int x) :: lo.filter (fun q => !(q.1 == (kk : Nat)) && !(q.1 + 1 == (kk : Nat) && q.2.category == 2)) = lo') (k : U X nL (pc + 1) lo' st ws cn sn) : U X nL pc lo (.int x :: st) ws cn sn := by
  obtain ⟨p, l, e, R, s, m, args, below, meth, c, D, cy, A, Q⟩ := X
  exact fun H locs ls hP hD hS h => lv_istore_n hC.1 hC.2.1 hd rfl h hn hl (fun ls' h' => k H locs ls' hP hD hS h')
theorem u_astore_n (hC : UC X cc own nL R0) {kk : Fin 4} {x : Nat} (hd : decode cc pc = .ok (.astore_n kk, 1)) (hn : (kk : Nat) < nL) (hl : ((kk : Nat), Value.ref x) :: lo.filter (fun q => !(q.1 == (kk : Nat)) && !(q.1 + 1 == (kk : Nat) && q.2.category == 2)) = lo') (k : U X nL (pc + 1) lo' st ws cn sn) : U X nL pc lo (.ref x :: st) ws cn sn := by
  obtain ⟨p, l, e, R, s, m, args, below, meth, c, D, cy, A, Q⟩ := X
  exact fun H locs ls hP hD hS h => lv_astore_n hC.1 hC.2.1 hd rfl h hn hl (fun ls' h' => k H locs ls' hP hD hS h')
theorem u_iinc (hC : UC X cc own nL R0) {i : Nat} {n : Int} {x v : Int32} (j : Nat) (hd : decode cc pc = .ok (.iinc i n, 3)) (hj : lo[j]? = some (i, .int x)) (hv : x + Int32.ofInt n = v) (hn : i < nL) (hl : (i, Value.int v) :: lo.filter (fun q => !(q.1 == i) && !(q.1 + 1 == i && q.2.category == 2)) = lo') (k : U X nL (pc + 3) lo' st ws cn sn) : U X nL pc lo st ws cn sn := by
  obtain ⟨p, l, e, R, s, m, args, below, meth, c, D, cy, A, Q⟩ := X
  exact fun H locs ls hP hD hS h => lv_iinc hC.1 hC.2.1 hd h hj hv hn hl (fun ls' h' => k H locs ls' hP hD hS h')
theorem u_objInit (hC : UC X cc own nL R0) {ix a : Nat} (hl : Cond.methodLink own ix Lib.objectInit ∈ wsA) (w1 : Cond.instanceMethod Lib.objectInit ∈ wsA) (w2 : Cond.code Lib.objectInit ⟨#[0xb1]⟩ 1 none ∈ wsA) (hfr : 1 ≤ R0.frames) (hlo : (st.map fun v => v.category).sum + 12 ≤ R0.locals) (hd : decode cc pc = .ok (.invokespecial ix, 3)) (k : U X nL (pc + 3) lo st ws cn sn) : U X nL pc lo (.ref a :: st) ws cn sn := by
  obtain ⟨p, l, e, R, s, m, args, below, meth, c, D, cy, A, Q⟩ := X
  obtain ⟨hx, hb, hml, hw, hts, hR, -⟩ := hC
  have hR : R = R0 := hR
  subst hR
  exact fun H locs ls hP hD hS h => W.objInit hx hb hw (hts _ hl) (hts _ w1) (hts _ w2) rfl (by rw [hml]; exact h.1) rfl hd hfr (by show 2 * 0 + _ + 12 ≤ _; omega) (k H locs ls hP hD hS h)
theorem u_get (hC : UC X cc own nL R0) {C : String} {T : u_T} {N ci ix j a : Nat} (q0 : Nat) {fs : List Value} {v : Value} (hc : vwCl[ci]? = some (C, T, N)) (hin : ∀ w ∈ u_ws C T N, w ∈ wsA) (hj : j < N) (hT : (T j).1 = C) (hl : Cond.fieldLink own ix C (T j).2.1 (T j).2.2.1 ∈ wsA) (he : ws[q0]? = some (a, .inr (ci, fs))) (hv : fs[j]? = some v) (hd : decode cc pc = .ok (.getfield ix, 3)) (k : U X nL (pc + 3) lo (v :: st) ws cn sn) : U X nL pc lo (.ref a :: st) ws cn sn := by
  obtain ⟨p, l, e, R, s, m, args, below, meth, c, D, cy, A, Q⟩ := X
  obtain ⟨hx, hb, hml, hw, hts, hR, hF, -⟩ := hC
  exact fun H locs ls hP hD hS h => va_get (D := D) (tys := gTc cy) hx hb hts hin hw hF.1 hP q0 he hc j hj (hts _ hl) (fun _ h9 => hT ▸ h9) hv hd (k H locs ls hP hD hS h)
theorem u_putF (hC : UC X cc own nL R0) {T : u_T} {N ci ix j a : Nat} (q0 : Nat) {fs : List Value} {ty0 : Nat → FieldType} {v : Value} (hc : vwCl[ci]? = some (own, T, N)) (hin : ∀ w ∈ u_ws own T N, w ∈ wsA) (hty : ∀ k, k < N → parseFieldDescriptor (T k).2.2.1 = some (ty0 k)) (hnm : ∀ a, a < N → ∀ b, b < N → a ≠ b → (T a).2.1 ≠ (T b).2.1) (hj : j < N) (hT : (T j).1 = own) (hfin : (T j).2.2.2 = true) (hI : uIn X) (hl : Cond.fieldLink own ix own (T j).2.1 (T j).2.2.1 ∈ wsA) (he : ws[q0]? = some (a, .inr (ci, fs))) (hn : narrow (ty0 j) v = v) (hfit : fits (ty0 j) v = true) (hjl : j < fs.length) (hd : decode cc pc = .ok (.putfield ix, 3)) (hws : ws.set q0 (a, .inr (ci, fs.set j v)) = ws') (k : U X nL (pc + 3) lo st ws' cn sn) : U X nL pc lo (v :: .ref a :: st) ws cn sn := by
  obtain ⟨p, l, e, R, s, m, args, below, meth, c, D, cy, A, Q⟩ := X
  obtain ⟨hx, hb, hml, hw, hts, hR, hF, -⟩ := hC
  subst hws
  exact fun H locs ls hP hD hS h => va_putF (D := D) (tys := gTc cy) (ty := ty0 j) hx hb hts hin ty0 hty hnm hw hF.1 hP hD hS q0 he hc j hj (hts _ hl) (fun _ h9 => hT ▸ h9) hfin hI hT (hty j hj) hn hfit hjl hd (fun H1 locs1 hP1 hD1 hS1 => k H1 locs1 ls hP1 hD1 hS1 h)
theorem u_newa (hC : UC X cc own nL R0) {n : Int32} {N1 : Nat} {wf : Nat → va_W} {c1 s1 : Nat} (hn : ¬ n < 0) (hN : n.toNatClampNeg = N1) (hby : N1 * 4 ≤ 536870912) (w1 : Cond.arrayClass .int ∈ wsA) (hd : decode cc pc = .ok (.newarray .int, 2)) (hc1 : cn + 1 = c1) (hs1 : sn + N1 = s1) (hr : c1 ≤ R0.cells ∧ s1 ≤ R0.slots) (hwf : ∀ q, ws ++ [(q, .inl (ucy X 0, N1, .inl (fun _ => 0)))] = wf q) (k : ∀ q, U X nL (pc + 2) lo (.ref q :: st) (wf q) c1 s1) : U X nL pc lo (.int n :: st) ws cn sn := by
  obtain ⟨p, l, e, R, s, m, args, below, meth, c, D, cy, A, Q⟩ := X
  obtain ⟨hx, hb, hml, hw, hts, hR, hF, hA⟩ := hC
  have hR : R = R0 := hR
  subst hR; subst hc1; subst hs1
  refine fun H locs ls hP hD hS h => va_newa (atype := .int) (ty := .int) (D := D) (tys := gTc cy) (a0 := (N1, .inl (fun _ => 0))) hx hb (hts _ w1) rfl hF.1 hP hD hS hA (fun cA => rfl) hn hN hby hr.1 hr.2 hd (fun q cA H1 hK1 hP1 hD1 hS1 => ?_)
  have e : cA = cy 0 := by
    have a1 := (hK1.2 4 (cA, .int) rfl).2
    have a2 := (hF.1.2 0 (cy 0, .int) rfl).2
    exact Option.some.inj (a1.symm.trans a2)
  subst e
  have hwq := hwf q
  dsimp only [ucy] at hwq
  rw [hwq] at hP1 hD1
  exact k q H1 locs ls hP1 hD1 hS1 h
theorem u_newz (hC : UC X cc own nL R0) {n : Int32} {N1 : Nat} {wf : Nat → va_W} {c1 s1 : Nat} (hn : ¬ n < 0) (hN : n.toNatClampNeg = N1) (hby : N1 * 1 ≤ 536870912) (w1 : Cond.arrayClass .boolean ∈ wsA) (hd : decode cc pc = .ok (.newarray .boolean, 2)) (hc1 : cn + 1 = c1) (hs1 : sn + N1 = s1) (hr : c1 ≤ R0.cells ∧ s1 ≤ R0.slots) (hwf : ∀ q, ws ++ [(q, .inl (ucy X 1, N1, .inl (fun _ => 0)))] = wf q) (k : ∀ q, U X nL (pc + 2) lo (.ref q :: st) (wf q) c1 s1) : U X nL pc lo (.int n :: st) ws cn sn := by
  obtain ⟨p, l, e, R, s, m, args, below, meth, c, D, cy, A, Q⟩ := X
  obtain ⟨hx, hb, hml, hw, hts, hR, hF, hA⟩ := hC
  have hR : R = R0 := hR
  subst hR; subst hc1; subst hs1
  refine fun H locs ls hP hD hS h => va_newa (atype := .boolean) (ty := .boolean) (D := D) (tys := gTc cy) (a0 := (N1, .inl (fun _ => 0))) hx hb (hts _ w1) rfl hF.1 hP hD hS hA (fun cA => rfl) hn hN hby hr.1 hr.2 hd (fun q cA H1 hK1 hP1 hD1 hS1 => ?_)
  have e : cA = cy 1 := by
    have a1 := (hK1.2 4 (cA, .boolean) rfl).2
    have a2 := (hF.1.2 1 (cy 1, .boolean) rfl).2
    exact Option.some.inj (a1.symm.trans a2)
  subst e
  have hwq := hwf q
  dsimp only [ucy] at hwq
  rw [hwq] at hP1 hD1
  exact k q H1 locs ls hP1 hD1 hS1 h
theorem u_newq2 (hC : UC X cc own nL R0) {n : Int32} {ix N1 : Nat} {wf : Nat → va_W} {c1 s1 : Nat} (hn : ¬ n < 0) (hN : n.toNatClampNeg = N1) (hby : N1 * 4 ≤ 536870912) (w1 : Cond.classLink own ix "HeapEnds$Row" ∈ wsA) (hd : decode cc pc = .ok (.anewarray ix, 3)) (hc1 : cn + 1 = c1) (hs1 : sn + N1 = s1) (hr : c1 ≤ R0.cells ∧ s1 ≤ R0.slots) (hwf : ∀ q, ws ++ [(q, .inl (ucy X 2, N1, .inr (.inr (.inr (.inr (fun _ => none))))))] = wf q) (k : ∀ q, U X nL (pc + 3) lo (.ref q :: st) (wf q) c1 s1) : U X nL pc lo (.int n :: st) ws cn sn := by
  obtain ⟨p, l, e, R, s, m, args, below, meth, c, D, cy, A, Q⟩ := X
  obtain ⟨hx, hb, hml, hw, hts, hR, hF, hA⟩ := hC
  have hR : R = R0 := hR
  subst hR; subst hc1; subst hs1
  refine fun H locs ls hP hD hS h => va_newq (C := "HeapEnds$Row") (D := D) (tys := gTc cy) hx hb hw (hts _ w1) hF.2.1 hF.1 hP hD hS hA hn hN hby hr.1 hr.2 hd (fun q cA H1 hK1 hP1 hD1 hS1 => ?_)
  have e : cA = cy 2 := by
    obtain ⟨_, _, _, _, _, a1⟩ := (hK1.2 4 (cA, .object "HeapEnds$Row") rfl).2
    obtain ⟨_, _, _, _, _, a2⟩ := (hF.1.2 2 (cy 2, .object "HeapEnds$Row") rfl).2
    exact Option.some.inj (a1.symm.trans a2)
  subst e
  have hwq := hwf q
  dsimp only [ucy] at hwq
  rw [hwq] at hP1 hD1
  exact k q H1 locs ls hP1 hD1 hS1 h
theorem u_newq3 (hC : UC X cc own nL R0) {n : Int32} {ix N1 : Nat} {wf : Nat → va_W} {c1 s1 : Nat} (hn : ¬ n < 0) (hN : n.toNatClampNeg = N1) (hby : N1 * 4 ≤ 536870912) (w1 : Cond.classLink own ix "HeapEnds$Market" ∈ wsA) (hd : decode cc pc = .ok (.anewarray ix, 3)) (hc1 : cn + 1 = c1) (hs1 : sn + N1 = s1) (hr : c1 ≤ R0.cells ∧ s1 ≤ R0.slots) (hwf : ∀ q, ws ++ [(q, .inl (ucy X 3, N1, .inr (.inr (.inr (.inr (fun _ => none))))))] = wf q) (k : ∀ q, U X nL (pc + 3) lo (.ref q :: st) (wf q) c1 s1) : U X nL pc lo (.int n :: st) ws cn sn := by
  obtain ⟨p, l, e, R, s, m, args, below, meth, c, D, cy, A, Q⟩ := X
  obtain ⟨hx, hb, hml, hw, hts, hR, hF, hA⟩ := hC
  have hR : R = R0 := hR
  subst hR; subst hc1; subst hs1
  refine fun H locs ls hP hD hS h => va_newq (C := "HeapEnds$Market") (D := D) (tys := gTc cy) hx hb hw (hts _ w1) hF.2.2 hF.1 hP hD hS hA hn hN hby hr.1 hr.2 hd (fun q cA H1 hK1 hP1 hD1 hS1 => ?_)
  have e : cA = cy 3 := by
    obtain ⟨_, _, _, _, _, a1⟩ := (hK1.2 4 (cA, .object "HeapEnds$Market") rfl).2
    obtain ⟨_, _, _, _, _, a2⟩ := (hF.1.2 3 (cy 3, .object "HeapEnds$Market") rfl).2
    exact Option.some.inj (a1.symm.trans a2)
  subst e
  have hwq := hwf q
  dsimp only [ucy] at hwq
  rw [hwq] at hP1 hD1
  exact k q H1 locs ls hP1 hD1 hS1 h
theorem u_new (hC : UC X cc own nL R0) {C : String} {T : u_T} {N ci ix : Nat} {ty0 : Nat → FieldType} {fs : List Value} {wf : Nat → va_W} {c1 s1 : Nat} (hc : vwCl[ci]? = some (C, T, N)) (hin : ∀ w ∈ u_ws C T N, w ∈ wsA) (hty : ∀ k, k < N → parseFieldDescriptor (T k).2.2.1 = some (ty0 k)) (w1 : Cond.classLink own ix C ∈ wsA) (w2 : Cond.instantiable C N ∈ wsA) (w3 : Cond.initialized C ∈ wsA) (hfs : ∀ j, j < N → defaultValue (ty0 j) = vp_V fs j) (hd : decode cc pc = .ok (.new ix, 3)) (hc1 : cn + 1 = c1) (hs1 : sn + N = s1) (hr : c1 ≤ R0.cells ∧ s1 ≤ R0.slots) (hwf : ∀ q, ws ++ [(q, .inr (ci, fs))] = wf q) (k : ∀ q, U X nL (pc + 3) lo (.ref q :: st) (wf q) c1 s1) : U X nL pc lo st ws cn sn := by
  obtain ⟨p, l, e, R, s, m, args, below, meth, c, D, cy, A, Q⟩ := X
  obtain ⟨hx, hb, hml, hw, hts, hR, hF, hA⟩ := hC
  have hR : R = R0 := hR
  subst hR; subst hc1; subst hs1
  refine fun H locs ls hP hD hS h => va_new (ci := ci) (fs := fs) (D := D) (tys := gTc cy) hx hb hts hin ty0 hty hw (hts _ w1) (hts _ w2) (hts _ w3) hF.1 hP hD hS hA hc hfs hr.1 hr.2 hd (fun q H1 hP1 hD1 hS1 => ?_)
  rw [hwf q] at hP1 hD1
  exact k q H1 locs ls hP1 hD1 hS1 h
theorem u_iast (hC : UC X cc own nL R0) {a n : Nat} {f : Nat → Int32} {i x : Int32} {j : Nat} (q0 : Nat) (he : ws[q0]? = some (a, .inl (ucy X 0, n, .inl f))) (hj : i.toNatClampNeg = j) (hin : vp_in i n) (hd : decode cc pc = .ok (.iastore, 1)) (hws : ws.set q0 (a, .inl (ucy X 0, n, .inl (upd f j x))) = ws') (k : U X nL (pc + 1) lo st ws' cn sn) : U X nL pc lo (.int x :: .int i :: .ref a :: st) ws cn sn := by
  obtain ⟨p, l, e, R, s, m, args, below, meth, c, D, cy, A, Q⟩ := X
  obtain ⟨hx, hb, hml, hw, hts, hR, hF, hA⟩ := hC
  subst hws; subst hj
  exact fun H locs ls hP hD hS h => va_iast (D := D) (tys := gTc cy) hx hb hF.1 hP hD hS q0 0 he rfl hin hd (fun H1 locs1 hP1 hD1 hS1 => k H1 locs1 ls hP1 hD1 hS1 h)
theorem u_aast2 (hC : UC X cc own nL R0) {a n v : Nat} {vs : List Value} {f : Nat → Option Nat} {i : Int32} {j : Nat} (q0 qk : Nat) (he : ws[q0]? = some (a, .inl (ucy X 2, n, .inr (.inr (.inr (.inr f)))))) (hv : ws[qk]? = some (v, .inr (3, vs))) (hj : i.toNatClampNeg = j) (hin : vp_in i n) (hd : decode cc pc = .ok (.aastore, 1)) (hws : ws.set q0 (a, .inl (ucy X 2, n, .inr (.inr (.inr (.inr (va_up f j (some v))))))) = ws') (k : U X nL (pc + 1) lo st ws' cn sn) : U X nL pc lo (.ref v :: .int i :: .ref a :: st) ws cn sn := by
  obtain ⟨p, l, e, R, s, m, args, below, meth, c, D, cy, A, Q⟩ := X
  obtain ⟨hx, hb, hml, hw, hts, hR, hF, hA⟩ := hC
  subst hws; subst hj
  exact fun H locs ls hP hD hS h => va_astq (D := D) (tys := gTc cy) (r := (RX3, TX3, 4)) hx hb hF.1 hP hD hS q0 2 qk 3 he rfl hv rfl hin hd (fun H1 locs1 hP1 hD1 hS1 => k H1 locs1 ls hP1 hD1 hS1 h)
theorem u_aast3 (hC : UC X cc own nL R0) {a n v : Nat} {vs : List Value} {f : Nat → Option Nat} {i : Int32} {j : Nat} (q0 qk : Nat) (he : ws[q0]? = some (a, .inl (ucy X 3, n, .inr (.inr (.inr (.inr f)))))) (hv : ws[qk]? = some (v, .inr (2, vs))) (hj : i.toNatClampNeg = j) (hin : vp_in i n) (hd : decode cc pc = .ok (.aastore, 1)) (hws : ws.set q0 (a, .inl (ucy X 3, n, .inr (.inr (.inr (.inr (va_up f j (some v))))))) = ws') (k : U X nL (pc + 1) lo st ws' cn sn) : U X nL pc lo (.ref v :: .int i :: .ref a :: st) ws cn sn := by
  obtain ⟨p, l, e, R, s, m, args, below, meth, c, D, cy, A, Q⟩ := X
  obtain ⟨hx, hb, hml, hw, hts, hR, hF, hA⟩ := hC
  subst hws; subst hj
  exact fun H locs ls hP hD hS h => va_astq (D := D) (tys := gTc cy) (r := (RX2, TX2, 15)) hx hb hF.1 hP hD hS q0 3 qk 2 he rfl hv rfl hin hd (fun H1 locs1 hP1 hD1 hS1 => k H1 locs1 ls hP1 hD1 hS1 h)
/-- a constructor's contract: out of the blank object the object with its cells, at addresses u 0, u 1 .. -/
def CU (y : MethodName) (cc : ByteArray) (maxL : Nat) (rm : Room) (ci : Nat) (fs : List Value) (cf : (Nat → ClassId) → Nat → (Nat → Nat) → va_W) (mc ms : Nat) : Prop :=
  ∀ (l : Launch) (D : va_G) (cy : Nat → ClassId) (h0 sz : Nat), Met l y (.code y cc maxL none :: wsA) rm (va_Pc [.ref h0] (fun U => U.heap.size = sz ∧ va_P D vwCl [(h0, .inr (ci, fs))] U.heap ∧ UF D cy U ∧ va_D (fun _ => True) [(h0, .inr (ci, fs))])) (va_Qv (fun _ : Nat → Nat => True) (fun u t => va_P D vwCl (cf cy h0 u) t.heap ∧ va_D (va_A [(h0, .inr (ci, fs))] sz) (cf cy h0 u)) (va_A [(h0, .inr (ci, fs))] sz)) mc ms (va_A [(h0, .inr (ci, fs))] sz)
/-- the end of a constructor -/
def UR (X : uX) (ci h0 : Nat) (fs : List Value) (cf : (Nat → ClassId) → Nat → (Nat → Nat) → va_W) (mc ms : Nat) : Prop :=
  match X with
  | (_, _, _, _, s, _, args, below, meth, _, D, cy, A, Q) => meth.sig.returnType = none ∧ meth.locks = false ∧ A = va_A [(h0, .inr (ci, fs))] s.heap.size ∧ Q = MQ below (va_Qv (fun _ : Nat → Nat => True) (fun u t => va_P D vwCl (cf cy h0 u) t.heap ∧ va_D (va_A [(h0, .inr (ci, fs))] s.heap.size) (cf cy h0 u)) (va_A [(h0, .inr (ci, fs))] s.heap.size)) args s mc ms (va_A [(h0, .inr (ci, fs))] s.heap.size)
theorem u_ret {ci h0 mc ms : Nat} {fs : List Value} {cf : (Nat → ClassId) → Nat → (Nat → Nat) → va_W} (hC : UC X cc own nL R0) (hR : UR X ci h0 fs cf mc ms) (u : Nat → Nat) (hw : ws = cf (ucy X) h0 u) (hd : decode cc pc = .ok (.return_, 1)) : U X nL pc lo [] ws mc ms := by
  obtain ⟨p, l, e, R, s, m, args, below, meth, c, D, cy, A, Q⟩ := X
  obtain ⟨hr, hlk, rfl, rfl⟩ := hR
  subst hw
  exact fun H locs ls hP hD hS _ => W.vret hC.1 hC.2.1 hr (fun t ht _ => ⟨⟨u, rfl, trivial, by rw [ht]; exact hP, hD⟩, hS.F ht⟩) hS.2.2 hd hlk
theorem u_enter {y : MethodName} {maxL ci mc ms : Nat} {rm : Room} {fs : List Value} {cf : (Nat → ClassId) → Nat → (Nat → Nat) → va_W} (hy : plainName y.cls = true) (hy2 : y.name = "<init>") (hml : 1 ≤ maxL)
    (h : ∀ (X : uX) (h0 : Nat), UC X cc y.cls maxL rm → uIn X → UR X ci h0 fs cf mc ms → U X maxL 0 [(0, .ref h0)] [] [(h0, .inr (ci, fs))] 0 0) : CU y cc maxL rm ci fs cf mc ms := by
  intro l D cy h0 sz
  refine Met.ofW (cc := cc) (maxL := maxL) (ret := none) hy rfl ?_
  intro p e s m args below meth c s₁ B hmx hv
  obtain ⟨rfl, hsz, hP, hF, hD0⟩ := hv
  subst hsz
  have hts := atoms_spec (ws := .code y cc maxL none :: wsA) B.pre
  have hh := h (p, l, e, rm, s, m, _, below, meth, c, D, cy, va_A [(h0, .inr (ci, fs))] s.heap.size, _) h0
    ⟨B.exec, B.bytes, hmx, findClass_of_methodNamed B.named, fun w hw => hts w (List.mem_cons_of_mem _ hw), rfl, hF, fun q hq => Or.inr hq⟩
    ((name_of_methodNamed B.named B.method).1.trans hy2)
    ⟨B.returns, B.notSynchronized, rfl, rfl⟩
  rw [lg_entry_eq]
  exact hh s.heap [] _ hP hD0.self va_S.rf (lv_entry [.ref h0] hml)
theorem u_ctor {y : MethodName} {cc1 : ByteArray} {maxL ix ci mc ms h0 c1 s1 : Nat} {rm : Room} {fs : List Value} {cf : (Nat → ClassId) → Nat → (Nat → Nat) → va_W} {wr : va_W} {wf : (Nat → Nat) → va_W} (hC : UC X cc own nL R0) (hct : CU y cc1 maxL rm ci fs cf mc ms) (hy : y.name = "<init>") (hy2 : y.cls ≠ "java/lang/invoke/MethodHandle" ∧ y.cls ≠ "java/lang/invoke/VarHandle" ∧ (parseMethodDescriptor y.desc).map (fun d => d.parameters.length) = some 0) (w1 : Cond.initialized y.cls ∈ wsA) (w2 : Cond.methodLink own ix y ∈ wsA) (w3 : Cond.instanceMethod y ∈ wsA) (w4 : Cond.code y cc1 maxL none ∈ wsA) (hrm : rm.cells = mc ∧ rm.slots = ms) (hr : rm.frames + 1 ≤ R0.frames ∧ 8 + (maxL + 11) + rm.locals ≤ R0.locals)
    (i : Nat) (hi : ws[i]? = some (h0, .inr (ci, fs))) (isR : List Nat) (hR : isR.map (fun i => ws[i]?) = wr.map some) (hn : va_nd isR = true) (hdis : isR.all (fun j => j != i) = true) (hst : (st.map fun v => v.category).sum ≤ 8) (hc1 : cn + mc = c1) (hs1 : sn + ms = s1) (hroom : c1 ≤ R0.cells ∧ s1 ≤ R0.slots) (hwf : ∀ u, wr ++ cf (ucy X) h0 u = wf u) (hd : decode cc pc = .ok (.invokespecial ix, 3))
    (k : ∀ u : Nat → Nat, U X nL (pc + 3) lo st (wf u) c1 s1) : U X nL pc lo (.ref h0 :: st) ws cn sn := by
  obtain ⟨p, l, e, R, s, m, args, below, meth, c, D, cy, A, Q⟩ := X
  obtain ⟨hx, hb, hml, hw, hts, hR0, hF, hA⟩ := hC
  have hR0 : R = R0 := hR0
  subst hR0; subst hc1; subst hs1
  intro H locs ls hP hD hS h
  have hgd : GoodIn wsA (.code y cc1 maxL none :: wsA) := wsA_good (fun w hw => (List.mem_cons.mp hw).elim (fun e => by rw [e]; exact w4) id)
  have hPc := hP.sub (ws' := [(h0, .inr (ci, fs))]) [i] (by simp [hi])
  have hDc := hD.sub (ws' := [(h0, .inr (ci, fs))]) [i] rfl (by simp [hi])
  have hFc := va_free (wc := [(h0, .inr (ci, fs))]) hD hS hA [i] (by simp [hi])
  refine va_callv (va_runI (As := []) (rest := st) ⟨hx, hb, hml, hw, hts⟩ (hct l D cy h0 H.size) (cwI 0 hts hgd rfl hrm.1 hrm.2 (hts _ w1) (hts _ w2) (hts _ w3) hy hy2 hr) ⟨fun a U g mk q => ⟨q.1, q.2.1, q.2.2.1, ⟨va_K.moved (u := U) (U := U.calling g mk a) (Vm.Alike.refl U.vm) q.2.2.2.1.1, va_AO.moved (u := U) (U := U.calling g mk a) (Vm.Alike.refl U.vm) q.2.2.2.1.2.1, va_AO.moved (u := U) (U := U.calling g mk a) (Vm.Alike.refl U.vm) q.2.2.2.1.2.2⟩, q.2.2.2.2⟩, fun U hU hW => ⟨rfl, by rw [hU], by rw [hU]; exact hPc, ⟨va_K.moved hW.alike hF.1, va_AO.moved hW.alike hF.2.1, va_AO.moved hW.alike hF.2.2⟩, hDc.weaken (fun _ _ _ _ => trivial)⟩⟩ rfl rfl h.1 rfl (lv_room hst) hd hroom) hS (fun q _ h => hFc q h) hFc (fun u t H1 locs1 ht hvm hw1 hB hz1 hk1 hS1 => ?_)
  obtain ⟨hP1, hD1⟩ := hB
  rw [ht] at hP1
  obtain ⟨hP2, hD2⟩ := va_join (wr := wr) (w1 := cf cy h0 u) hP hD [i] isR (by simp [hi]) hR hn (fun j hj hji => by
    have := List.all_eq_true.mp hdis j hj
    simp only [List.mem_singleton] at hji
    subst hji
    simp at this) hk1 hFc hP1 hD1
  have hwq := hwf u
  dsimp only [ucy] at hwq
  rw [hwq] at hP2 hD2
  exact k u H1 locs1 ls hP2 hD2 hS1 h
end CtorRows
theorem vp_dflt (n : Nat) (ty : Nat → FieldType) (fs : List Value) (h : (List.range n).map (fun j => defaultValue (ty j)) = fs) : ∀ j, j < n → defaultValue (ty j) = vp_V fs j := by
  intro j hj
  subst h
  simp [vp_V, List.getD, List.getElem?_map, List.getElem?_range hj]
