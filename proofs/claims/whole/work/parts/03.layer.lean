/-! THE GLOBAL WORLD: all cells that the law makes (100 of them), numbered; a memory says what numbers they hold -/
/-- what the cells hold: a cell's number, an index (an array's, or a field's place) -/
abbrev gM : Type := Nat → Nat → Int32
/-- a cell's shape: an array of numbers (kind, length); an array of cells (kind, length, which); an object (class, fields) -/
abbrev gS : Type := (Nat × Nat) ⊕ ((Nat × Nat × (Nat → Nat)) ⊕ (Nat × List (Nat ⊕ (Nat ⊕ Nat))))
abbrev gsI (n : Nat) : gS := .inl (0, n)
abbrev gsZ (n : Nat) : gS := .inl (1, n)
abbrev gsR (t n : Nat) (g : Nat → Nat) : gS := .inr (.inl (t, n, g))
abbrev gsO (ci : Nat) (fl : List (Nat ⊕ (Nat ⊕ Nat))) : gS := .inr (.inr (ci, fl))
abbrev gfR (i : Nat) : Nat ⊕ (Nat ⊕ Nat) := .inl i
abbrev gfI (j : Nat) : Nat ⊕ (Nat ⊕ Nat) := .inr (.inl j)
abbrev gfL (j : Nat) : Nat ⊕ (Nat ⊕ Nat) := .inr (.inr j)
abbrev gsRow (q : Nat) : gS := gsO 3 [gfR (q + 1), gfI 1, gfI 2, gfI 3]
abbrev gsMkt (q : Nat) : gS := gsO 2 [gfI 0, gfI 1, gfI 2, gfI 3, gfI 4, gfI 5, gfR (q + 1), gfR (q + 2), gfR (q + 3), gfR (q + 4), gfR (q + 5), gfR (q + 6), gfR (q + 7), gfR (q + 8), gfR (q + 9)]
def gShL : List gS :=
  [gsO 6 [gfR 1, gfR 18, gfR 42, gfR 52, gfR 41, gfR 20, gfR 24, gfR 35, gfR 40, gfI 9, gfI 10, gfI 11],
   gsR 2 8 (fun r => 2 + 2 * r),
   gsRow 2, gsI 40, gsRow 4, gsI 40, gsRow 6, gsI 40, gsRow 8, gsI 40, gsRow 10, gsI 40, gsRow 12, gsI 40, gsRow 14, gsI 40, gsRow 16, gsI 40,
   gsO 5 [gfI 0, gfI 1, gfI 2, gfR 19, gfI 4, gfI 5, gfI 6, gfI 7], gsI 400,
   gsO 0 [gfR 21, gfR 22, gfR 23, gfI 3, gfI 4], gsI 24, gsI 24, gsI 24,
   gsO 1 [gfR 25, gfI 1, gfI 2, gfI 3, gfI 4, gfR 26, gfR 27, gfR 28, gfR 29, gfR 30, gfR 31, gfR 32, gfR 33, gfR 34], gsI 6, gsI 16, gsI 16, gsI 16, gsI 16, gsI 16, gsI 17, gsI 17, gsI 17, gsI 17,
   gsO 4 [gfR 36, gfR 37, gfR 38, gfR 39], gsI 17, gsI 17, gsI 11, gsI 17,
   gsI 16,
   gsR 3 2 (fun k => 62 + 10 * k),
   gsMkt 42, gsI 4, gsI 4, gsI 4, gsI 4, gsI 16, gsI 16, gsI 16, gsI 16, gsI 16,
   gsMkt 52, gsI 4, gsI 4, gsI 4, gsI 4, gsI 16, gsI 16, gsI 16, gsI 16, gsI 16,
   gsMkt 62, gsI 4, gsI 4, gsI 4, gsI 4, gsI 16, gsI 16, gsI 16, gsI 16, gsI 16,
   gsMkt 72, gsI 4, gsI 4, gsI 4, gsI 4, gsI 16, gsI 16, gsI 16, gsI 16, gsI 16,
   gsO 7 [gfR 83, gfR 84, gfR 85, gfI 3, gfI 4, gfR 86, gfI 6, gfI 7, gfL 8, gfI 9, gfI 10, gfI 11, gfI 12, gfI 13, gfI 14, gfR 87, gfR 88, gfR 89, gfR 90, gfR 91, gfI 20, gfR 92, gfI 22, gfR 93, gfR 94, gfR 95, gfR 96, gfR 97, gfR 98, gfR 99],
   gsI 8, gsI 8, gsI 320, gsI 400, gsI 8, gsI 30, gsI 102, gsI 204, gsZ 2, gsI 120, gsI 16, gsI 16, gsI 289, gsI 289, gsI 289, gsI 289, gsI 7]
def gSh (i : Nat) : gS := gShL.getD i (.inl (0, 0))
theorem gSh_row : ∀ r : Nat, r < 8 → gSh (2 + 2 * r) = gsRow (2 + 2 * r) ∧ gSh (2 + 2 * r + 1) = gsI 40
  | 0, _ => ⟨rfl, rfl⟩ | 1, _ => ⟨rfl, rfl⟩ | 2, _ => ⟨rfl, rfl⟩ | 3, _ => ⟨rfl, rfl⟩ | 4, _ => ⟨rfl, rfl⟩ | 5, _ => ⟨rfl, rfl⟩ | 6, _ => ⟨rfl, rfl⟩ | 7, _ => ⟨rfl, rfl⟩
  | n + 8, h => absurd h (by omega)
/-- a long out of its two halves -/
def gLg (a b : Int32) : Int64 := Int64.ofBitVec (a.toBitVec ++ b.toBitVec)
def gHi (v : Int64) : Int32 := Int32.ofBitVec (v.toBitVec.extractLsb' 32 32)
def gLo (v : Int64) : Int32 := Int32.ofBitVec (v.toBitVec.extractLsb' 0 32)
theorem gLg_of (v : Int64) : gLg (gHi v) (gLo v) = v := by
  apply Int64.toBitVec_inj.mp
  show v.toBitVec.extractLsb' 32 32 ++ v.toBitVec.extractLsb' 0 32 = v.toBitVec
  apply BitVec.eq_of_getLsbD_eq
  intro i hi
  rw [BitVec.getLsbD_append]
  split
  · rename_i h
    simp [BitVec.getLsbD_extractLsb', h]
  · rename_i h
    simp [BitVec.getLsbD_extractLsb']
    have e : 32 + (i - 32) = i := by omega
    have h2 : i - 32 < 32 := by omega
    simp [e, h2]
/-- a number is written -/
def gU (σ : gM) (o k : Nat) (v : Int32) : gM := fun a j => if a = o ∧ j = k then v else σ a j
/-- a long is written -/
def gUL (σ : gM) (o k : Nat) (v : Int64) : gM := gU (gU σ o k (gHi v)) o (k + 100) (gLo v)
/-- a piece of an array is copied -/
def gCp (σ : gM) (src sp dst dp n : Nat) : gM := fun a j => if a = dst then va_cpy (σ src) (σ dst) sp dp n j else σ a j
theorem gU_ne {σ : gM} {o k a : Nat} {v : Int32} (h : a ≠ o) : gU σ o k v a = σ a := by funext j; simp [gU, h]
theorem gU_at {σ : gM} {o k j : Nat} {v : Int32} : gU σ o k v o j = if j = k then v else σ o j := by simp [gU]
theorem gU_eq {σ : gM} {o k : Nat} {v : Int32} : gU σ o k v o k = v := by simp [gU]
theorem gU_off {σ : gM} {o k j : Nat} {v : Int32} (h : j ≠ k) : gU σ o k v o j = σ o j := by simp [gU, h]
theorem gU_upd {σ : gM} {o k : Nat} {v : Int32} : gU σ o k v o = upd (σ o) k v := by funext j; simp [gU, upd]
/-- what is fixed for a run: the tables' classes, the cells' addresses, the arrays' classes, the static table, the texts -/
abbrev gG : Type := va_G × (Nat → Nat) × (Nat → ClassId) × Nat × (Nat → Nat) × (Nat → Nat)
abbrev gad (G : gG) : Nat → Nat := G.2.1
abbrev gK (G : gG) : Nat → Nat := G.2.2.2.2.1
def gVal (G : gG) (σ : gM) (o : Nat) (f : Nat ⊕ (Nat ⊕ Nat)) : Value := match f with
  | .inl i => .ref (gad G i)
  | .inr (.inl j) => .int (σ o j)
  | .inr (.inr j) => .long (gLg (σ o j) (σ o (j + 100)))
def gCell (G : gG) (σ : gM) (i : Nat) (s : gS) : va_E := match s with
  | .inl (t, n) => .inl (G.2.2.1 t, n, .inl (σ i))
  | .inr (.inl (t, n, g)) => .inl (G.2.2.1 t, n, .inr (.inr (.inr (.inr (fun k => some (gad G (g k)))))))
  | .inr (.inr (ci, fl)) => .inr (ci, fl.map (gVal G σ i))
def gW (G : gG) (σ : gM) : va_W := (List.range 100).map (fun i => (gad G i, gCell G σ i (gSh i)))
abbrev gTy (G : gG) : List (ClassId × FieldType) := [(G.2.2.1 0, .int), (G.2.2.1 1, .boolean), (G.2.2.1 2, .object "HeapEnds$Row"), (G.2.2.1 3, .object "HeapEnds$Market")]
theorem gW_at {G : gG} {σ : gM} {i : Nat} (h : i < 100) {s : gS} (hs : gSh i = s) : (gW G σ)[i]? = some (gad G i, gCell G σ i s) := by
  subst hs
  unfold gW
  rw [List.getElem?_map, List.getElem?_range h]
  rfl
theorem gW_len {G : gG} {σ : gM} : (gW G σ).length = 100 := by simp [gW]
theorem gW_set {G : gG} {σ σ' : gM} {i : Nat} (h : i < 100) {s : gS} (hs : gSh i = s) {e : va_E} (he : e = gCell G σ' i s) (hne : ∀ a, a ≠ i → σ' a = σ a) : (gW G σ).set i (gad G i, e) = gW G σ' := by
  apply List.ext_getElem?
  intro j
  by_cases hj : j = i
  · subst hj
    rw [List.getElem?_set_self (by rw [gW_len]; exact h), gW_at h hs, he]
  · rw [List.getElem?_set_ne (Ne.symm hj)]
    by_cases hl : j < 100
    · rw [gW_at hl rfl, gW_at hl rfl]
      have e1 := hne j hj
      cases hsj : gSh j with
      | inl x => simp only [gCell, e1]
      | inr x => cases x with
        | inl y => rfl
        | inr y =>
          simp only [gCell]
          have : gVal G σ j = gVal G σ' j := by funext f; unfold gVal; rw [e1]
          rw [this]
    · rw [List.getElem?_eq_none (by rw [gW_len]; omega), List.getElem?_eq_none (by rw [gW_len]; omega)]
/-- the addresses are apart -/
def gD (G : gG) : Prop := ∀ i j : Nat, i < 100 → j < 100 → gad G i = gad G j → i = j
def gA (G : gG) : Nat → Prop := fun q => ∃ i : Nat, i < 100 ∧ q = gad G i
theorem gW_D {G : gG} {σ : gM} {A : Nat → Prop} (h : gD G) (hA : ∀ i, i < 100 → A (gad G i)) : va_D A (gW G σ) := by
  have key : ∀ (i : Nat) (p : Nat × va_E), (gW G σ)[i]? = some p → i < 100 ∧ p.1 = gad G i := by
    intro i p hp
    have hl : i < 100 := by rw [← gW_len (G := G) (σ := σ)]; exact (List.getElem?_eq_some_iff.mp hp).1
    rw [gW_at hl rfl] at hp
    exact ⟨hl, by rw [← Option.some.inj hp]⟩
  refine ⟨fun i j p q hp hq hpq => ?_, fun i p hp => ?_⟩
  · obtain ⟨h1, h2⟩ := key i p hp
    obtain ⟨h3, h4⟩ := key j q hq
    exact h i j h1 h3 (by rw [← h2, ← h4]; exact hpq)
  · obtain ⟨h1, h2⟩ := key i p hp
    rw [h2]
    exact hA i h1
/-- the texts: 0 law, 1 buyer, 2 ware, 3 fruit, 4 melon, 5 berry, 6 cloth, 7 silk -/
def gTx : List (Nat × String × List Int32) := [(58, "law", [108, 97, 119]), (37, "buyer", [98, 117, 121, 101, 114]), (46, "ware", [119, 97, 114, 101]), (92, "fruit", [102, 114, 117, 105, 116]), (94, "melon", [109, 101, 108, 111, 110]), (96, "berry", [98, 101, 114, 114, 121]), (98, "cloth", [99, 108, 111, 116, 104]), (100, "silk", [115, 105, 108, 107])]
def gTb : List (List Int32) := gTx.map (fun t => t.2.2)
def gTn : List Nat := gTb.map List.length
def gNear : Nat → Int32 := fun j => [0, 0, 1, 1, 0, 4].getD j 0
/-- what stays for a whole run: the tables, the static table, the texts -/
def gF (G : gG) (A : Nat → Prop) (U : State) (H : Heap) : Prop :=
  va_K G.1 vwCl (gTy G) U ∧ va_Z "HeapEnds" "NEAREST" "[I" (.ref G.2.2.2.1) A U H ∧ va_T .int G.2.2.2.1 6 (fun j => .int (gNear j)) A U H ∧ va_Z "java/lang/String" "COMPACT_STRINGS" "Z" (.int 1) A U H ∧ va_Zq "jdk/internal/util/Preconditions" "SIOOBE_FORMATTER" "Ljava/util/function/BiFunction;" A U H ∧ vk_S 8 gTn gTb (gK G) G.2.2.2.2.2 A U H ∧ (∀ i t, gTx[i]? = some t → vk_R RX5 t.1 t.2.1 (gK G i) U) ∧ va_Nw (.methodLinkNest RX2 94 yX6_isSuch RX6) U
theorem gF.moved {G : gG} {A : Nat → Prop} {s U : State} {H : Heap} (hW : s.WarmedH U.vm) (h : gF G A s H) : gF G A U H := by
  obtain ⟨h1, h2, h3, h4, h5, h6, h7, h8⟩ := h
  exact ⟨va_K.moved hW.alike h1, h2.moved hW.alike, h3.moved hW.alike, h4.moved hW.alike, h5.moved hW.alike, h6.moved hW.alike, fun i t ht => (h7 i t ht).warm hW, va_Nw.warmM hW h8⟩
theorem gF.blind {G : gG} {A : Nat → Prop} {U U2 : State} {H : Heap} (hv : U2.vm = U.vm) (h : gF G A U H) : gF G A U2 H := by
  obtain ⟨h1, h2, h3, h4, h5, h6, h7, h8⟩ := h
  have ha : U.vm.Alike U2.vm := by rw [hv]; exact Vm.Alike.refl _
  exact ⟨va_K.moved ha h1, h2.moved ha, h3.moved ha, h4.moved ha, h5.moved ha, h6.moved ha, fun i t ht => (h7 i t ht).same hv, va_Nw.same rfl hv.symm h8⟩
theorem gF.kept {G : gG} {A : Nat → Prop} {U : State} {H H1 : Heap} (h : gF G A U H) (hq : ∀ a : Nat, a < H.size → ¬ A a → H1[a]? = H[a]?) : gF G A U H1 := by
  obtain ⟨h1, h2, h3, h4, h5, h6, h7, h8⟩ := h
  exact ⟨h1, h2.kept hq, h3.kept hq, h4.kept hq, h5.kept hq, h6.kept hq, h7, h8⟩
theorem gF.narrow {G : gG} {A B : Nat → Prop} {U : State} {H : Heap} (h : gF G A U H) (hAB : ∀ q, B q → A q) : gF G B U H := by
  obtain ⟨h1, h2, h3, h4, h5, h6, h7, h8⟩ := h
  exact ⟨h1, h2.narrow hAB, h3.narrow hAB, h4.narrow hAB, h5.narrow hAB, h6.narrow hAB, h7, h8⟩
/-- all that a walk stands in -/
abbrev gX : Type := Program × Launch × Env × Room × State × MethodId × Array Value × List Frame × Method × Code × gG × (Nat → Prop) × Nat × Nat × (State → Prop)
abbrev xG (X : gX) : gG := X.2.2.2.2.2.2.2.2.2.2.1
abbrev xad (X : gX) : Nat → Nat := gad (xG X)
/-- the walk, at pc, with these locals, this stack, this memory -/
def V (X : gX) (nL pc : Nat) (lo : List (Nat × Value)) (st : List Value) (σ : gM) : Prop :=
  match X with
  | (p, l, e, R, s, m, args, below, meth, c, G, A, cells, slots, Q) =>
    ∀ (H : Heap) (locs : List Loc) (ls : Array Slot), va_P G.1 vwCl (gW G σ) H → va_S A s.heap H locs → lv_has ls nL lo → W p l e R s m args below meth c H locs cells slots Q (F0 m pc ls st)
/-- what holds all along: the machine, the method's code and class, the words, the run's fixed things, room -/
def VC (X : gX) (cc : ByteArray) (own : String) (nL : Nat) (R0 : Room) : Prop :=
  match X with
  | (p, _, _, R, s, m, args, _, _, c, G, A, cells, slots, _) =>
    p.tables.exec = Jvm.exec ∧ c.code = cc ∧ c.maxLocals = nL ∧ s.vm.findClass own = some m.cls ∧ (∀ w ∈ wsA, w.before args s = true) ∧ R = R0 ∧ gD G ∧ gF G A s s.heap ∧ (∀ i, i < 100 → A (gad G i)) ∧ cells ≤ R.cells ∧ slots ≤ R.slots
/-- a method's end: what it answers, the memory behind it; nothing but the world's cells is touched -/
def gQ (G : gG) (A : Nat → Prop) (P : gG → Option Value → gM → Prop) : Array Value → State → Outcome → State → Prop := fun _ st oc t => (∃ (v : Option Value) (σ : gM), oc = .returned v ∧ P G v σ ∧ va_P G.1 vwCl (gW G σ) t.heap) ∧ va_F A st t
def VR (X : gX) (ret : Option FieldType) (P : gG → Option Value → gM → Prop) : Prop :=
  match X with
  | (_, _, _, _, s, _, args, below, meth, _, G, A, cells, slots, Q) => meth.sig.returnType = ret ∧ meth.locks = false ∧ Q = MQ below (gQ G A P) args s cells slots A
/-- a method's contract -/
def CT (y : MethodName) (cc : ByteArray) (maxL : Nat) (ret : Option FieldType) (rm : Room) (av : gG → List Value) (σ : gM) (P : gG → Option Value → gM → Prop) : Prop :=
  ∀ (l : Launch) (G : gG), gD G → Met l y (.code y cc maxL ret :: wsA) rm (va_Pc (av G) (fun U => va_P G.1 vwCl (gW G σ) U.heap ∧ gF G (gA G) U U.heap)) (gQ G (gA G) P) 0 0 (gA G)
theorem c_enter {y : MethodName} {cc : ByteArray} {maxL : Nat} {ret : Option FieldType} {rm : Room} {av : gG → List Value} {σ : gM} {P : gG → Option Value → gM → Prop} (hy : plainName y.cls = true) (hl : ∀ G, (lg_sl (av G)).length ≤ maxL)
    (h : ∀ X : gX, VC X cc y.cls maxL rm → VR X ret P → V X maxL 0 (lv_args 0 (av (xG X))) [] σ) : CT y cc maxL ret rm av σ P := by
  intro l G hG
  refine Met.ofW (cc := cc) (maxL := maxL) (ret := ret) hy rfl ?_
  intro p e s m args below meth c s₁ B hml hv
  obtain ⟨rfl, hP, hF⟩ := hv
  have hts := atoms_spec (ws := .code y cc maxL ret :: wsA) B.pre
  have hh := h (p, l, e, rm, s, m, _, below, meth, c, G, gA G, 0, 0, _)
    ⟨B.exec, B.bytes, hml, findClass_of_methodNamed B.named, fun w hw => hts w (List.mem_cons_of_mem _ hw), rfl, hG, hF, fun i hi => ⟨i, hi, rfl⟩, Nat.zero_le _, Nat.zero_le _⟩
    ⟨B.returns, B.notSynchronized, rfl⟩
  rw [lg_entry_eq]
  exact hh s.heap [] _ hP va_S.rf (lv_entry (av G) (hl G))
section Rows
variable {X : gX} {cc : ByteArray} {own : String} {nL : Nat} {R0 : Room} {pc : Nat} {lo lo' : List (Nat × Value)} {st : List Value} {σ : gM}
theorem V.sub (ks : List Nat) (h : lv_pick lo ks = lo') (k : V X nL pc lo' st σ) : V X nL pc lo st σ := by
  obtain ⟨p, l, e, R, s, m, args, below, meth, c, G, A, cells, slots, Q⟩ := X
  exact fun H locs ls hP hS hl => k H locs ls hP hS (lv_sub hl ks h)
theorem v_iconst (hC : VC X cc own nL R0) {n : Int} (v : Int32) (hd : decode cc pc = .ok (.iconst n, 1)) (hv : Int32.ofInt n = v) (k : V X nL (pc + 1) lo (.int v :: st) σ) : V X nL pc lo st σ := by
  obtain ⟨p, l, e, R, s, m, args, below, meth, c, G, A, cells, slots, Q⟩ := X
  exact fun H locs ls hP hS hl => lv_iconst hC.1 hC.2.1 hd hv (k H locs ls hP hS hl)
theorem v_bipush (hC : VC X cc own nL R0) {n : Int} (v : Int32) (hd : decode cc pc = .ok (.bipush n, 2)) (hv : (Int8.ofInt n).toInt32 = v) (k : V X nL (pc + 2) lo (.int v :: st) σ) : V X nL pc lo st σ := by
  obtain ⟨p, l, e, R, s, m, args, below, meth, c, G, A, cells, slots, Q⟩ := X
  exact fun H locs ls hP hS hl => lv_bipush hC.1 hC.2.1 hd hv (k H locs ls hP hS hl)
theorem v_sipush (hC : VC X cc own nL R0) {n : Int} (v : Int32) (hd : decode cc pc = .ok (.sipush n, 3)) (hv : (Int16.ofInt n).toInt32 = v) (k : V X nL (pc + 3) lo (.int v :: st) σ) : V X nL pc lo st σ := by
  obtain ⟨p, l, e, R, s, m, args, below, meth, c, G, A, cells, slots, Q⟩ := X
  exact fun H locs ls hP hS hl => lv_sipush hC.1 hC.2.1 hd hv (k H locs ls hP hS hl)
theorem v_ldc (hC : VC X cc own nL R0) {ix : Nat} {v : Int32} (hc : Cond.constant own ix v ∈ wsA) (hd : decode cc pc = .ok (.ldc ix, 2)) (k : V X nL (pc + 2) lo (.int v :: st) σ) : V X nL pc lo st σ := by
  obtain ⟨p, l, e, R, s, m, args, below, meth, c, G, A, cells, slots, Q⟩ := X
  exact fun H locs ls hP hS hl => lv_ldc hC.1 hC.2.1 hC.2.2.2.1 (hC.2.2.2.2.1 _ hc) hd (k H locs ls hP hS hl)
theorem v_ldcw (hC : VC X cc own nL R0) {ix : Nat} {v : Int32} (hc : Cond.constant own ix v ∈ wsA) (hd : decode cc pc = .ok (.ldc_w ix, 3)) (k : V X nL (pc + 3) lo (.int v :: st) σ) : V X nL pc lo st σ := by
  obtain ⟨p, l, e, R, s, m, args, below, meth, c, G, A, cells, slots, Q⟩ := X
  exact fun H locs ls hP hS hl => lv_ldcw hC.1 hC.2.1 hC.2.2.2.1 (hC.2.2.2.2.1 _ hc) hd (k H locs ls hP hS hl)
theorem v_ldc2 (hC : VC X cc own nL R0) {ix : Nat} {v : Int64} (hc : Cond.constantLong own ix v ∈ wsA) (hd : decode cc pc = .ok (.ldc2_w ix, 3)) (k : V X nL (pc + 3) lo (.long v :: st) σ) : V X nL pc lo st σ := by
  obtain ⟨p, l, e, R, s, m, args, below, meth, c, G, A, cells, slots, Q⟩ := X
  exact fun H locs ls hP hS hl => lv_ldc2 hC.1 hC.2.1 hC.2.2.2.1 (hC.2.2.2.2.1 _ hc) hd (k H locs ls hP hS hl)
theorem v_ldcS (hC : VC X cc RX5 nL R0) {ix : Nat} {tx : String} {bs : List Int32} (i : Nat) (hi : gTx[i]? = some (ix, tx, bs)) (hd : decode cc pc = .ok (.ldc ix, 2)) (k : V X nL (pc + 2) lo (.ref (gK (xG X) i) :: st) σ) : V X nL pc lo st σ := by
  obtain ⟨p, l, e, R, s, m, args, below, meth, c, G, A, cells, slots, Q⟩ := X
  obtain ⟨hx, hb, -, ho, -, -, -, ⟨-, -, -, -, -, -, h7, -⟩, -⟩ := hC
  exact fun H locs ls hP hS hl => va_ldcS hx hb ho (h7 i _ hi) hd (k H locs ls hP hS hl)
theorem v_iload_n (hC : VC X cc own nL R0) {kk : Fin 4} {x : Int32} (n : Nat) (hd : decode cc pc = .ok (.iload_n kk, 1)) (hn : lo[n]? = some ((kk : Nat), .int x)) (k : V X nL (pc + 1) lo (.int x :: st) σ) : V X nL pc lo st σ := by
  obtain ⟨p, l, e, R, s, m, args, below, meth, c, G, A, cells, slots, Q⟩ := X
  exact fun H locs ls hP hS hl => lv_iload_n hC.1 hC.2.1 hd rfl (lv_at hl n hn) (k H locs ls hP hS hl)
theorem v_iload (hC : VC X cc own nL R0) {i : Nat} {x : Int32} (n : Nat) (hd : decode cc pc = .ok (.iload i, 2)) (hn : lo[n]? = some (i, .int x)) (k : V X nL (pc + 2) lo (.int x :: st) σ) : V X nL pc lo st σ := by
  obtain ⟨p, l, e, R, s, m, args, below, meth, c, G, A, cells, slots, Q⟩ := X
  exact fun H locs ls hP hS hl => lv_iload hC.1 hC.2.1 hd (lv_at hl n hn) (k H locs ls hP hS hl)
theorem v_lload_n (hC : VC X cc own nL R0) {kk : Fin 4} {x : Int64} (n : Nat) (hd : decode cc pc = .ok (.lload_n kk, 1)) (hn : lo[n]? = some ((kk : Nat), .long x)) (k : V X nL (pc + 1) lo (.long x :: st) σ) : V X nL pc lo st σ := by
  obtain ⟨p, l, e, R, s, m, args, below, meth, c, G, A, cells, slots, Q⟩ := X
  exact fun H locs ls hP hS hl => lv_lload_n hC.1 hC.2.1 hd rfl (lv_at hl n hn) (k H locs ls hP hS hl)
theorem v_aload_n (hC : VC X cc own nL R0) {kk : Fin 4} {x : Nat} (n : Nat) (hd : decode cc pc = .ok (.aload_n kk, 1)) (hn : lo[n]? = some ((kk : Nat), .ref x)) (k : V X nL (pc + 1) lo (.ref x :: st) σ) : V X nL pc lo st σ := by
  obtain ⟨p, l, e, R, s, m, args, below, meth, c, G, A, cells, slots, Q⟩ := X
  exact fun H locs ls hP hS hl => lv_aload_n hC.1 hC.2.1 hd rfl (lv_at hl n hn) (k H locs ls hP hS hl)
theorem v_aload (hC : VC X cc own nL R0) {i : Nat} {x : Nat} (n : Nat) (hd : decode cc pc = .ok (.aload i, 2)) (hn : lo[n]? = some (i, .ref x)) (k : V X nL (pc + 2) lo (.ref x :: st) σ) : V X nL pc lo st σ := by
  obtain ⟨p, l, e, R, s, m, args, below, meth, c, G, A, cells, slots, Q⟩ := X
  exact fun H locs ls hP hS hl => lv_aload hC.1 hC.2.1 hd (lv_at hl n hn) (k H locs ls hP hS hl)
theorem v_istore_n (hC : VC X cc own nL R0) {kk : Fin 4} {x : Int32} (hd : decode cc pc = .ok (.istore_n kk, 1)) (hn : (kk : Nat) < nL) (hl : ((kk : Nat), Value.int x) :: lo.filter (fun q => !(q.1 == (kk : Nat)) && !(q.1 + 1 == (kk : Nat) && q.2.category == 2)) = lo') (k : V X nL (pc + 1) lo' st σ) : V X nL pc lo (.int x :: st) σ := by
  obtain ⟨p, l, e, R, s, m, args, below, meth, c, G, A, cells, slots, Q⟩ := X
  exact fun H locs ls hP hS h => lv_istore_n hC.1 hC.2.1 hd rfl h hn hl (fun ls' h' => k H locs ls' hP hS h')
theorem v_istore (hC : VC X cc own nL R0) {i : Nat} {x : Int32} (hd : decode cc pc = .ok (.istore i, 2)) (hn : i < nL) (hl : (i, Value.int x) :: lo.filter (fun q => !(q.1 == i) && !(q.1 + 1 == i && q.2.category == 2)) = lo') (k : V X nL (pc + 2) lo' st σ) : V X nL pc lo (.int x :: st) σ := by
  obtain ⟨p, l, e, R, s, m, args, below, meth, c, G, A, cells, slots, Q⟩ := X
  exact fun H locs ls hP hS h => lv_istore hC.1 hC.2.1 hd h hn hl (fun ls' h' => k H locs ls' hP hS h')
theorem v_astore_n (hC : VC X cc own nL R0) {kk : Fin 4} {x : Nat} (hd : decode cc pc = .ok (.astore_n kk, 1)) (hn : (kk : Nat) < nL) (hl : ((kk : Nat), Value.ref x) :: lo.filter (fun q => !(q.1 == (kk : Nat)) && !(q.1 + 1 == (kk : Nat) && q.2.category == 2)) = lo') (k : V X nL (pc + 1) lo' st σ) : V X nL pc lo (.ref x :: st) σ := by
  obtain ⟨p, l, e, R, s, m, args, below, meth, c, G, A, cells, slots, Q⟩ := X
  exact fun H locs ls hP hS h => lv_astore_n hC.1 hC.2.1 hd rfl h hn hl (fun ls' h' => k H locs ls' hP hS h')
theorem v_astore (hC : VC X cc own nL R0) {i : Nat} {x : Nat} (hd : decode cc pc = .ok (.astore i, 2)) (hn : i < nL) (hl : (i, Value.ref x) :: lo.filter (fun q => !(q.1 == i) && !(q.1 + 1 == i && q.2.category == 2)) = lo') (k : V X nL (pc + 2) lo' st σ) : V X nL pc lo (.ref x :: st) σ := by
  obtain ⟨p, l, e, R, s, m, args, below, meth, c, G, A, cells, slots, Q⟩ := X
  exact fun H locs ls hP hS h => lv_astore hC.1 hC.2.1 hd h hn hl (fun ls' h' => k H locs ls' hP hS h')
theorem v_iinc (hC : VC X cc own nL R0) {i : Nat} {n : Int} {x : Int32} (d : Int32) (j : Nat) (hd : decode cc pc = .ok (.iinc i n, 3)) (hj : lo[j]? = some (i, .int x)) (hv : Int32.ofInt n = d) (hn : i < nL) (hl : (i, Value.int (x + d)) :: lo.filter (fun q => !(q.1 == i) && !(q.1 + 1 == i && q.2.category == 2)) = lo') (k : V X nL (pc + 3) lo' st σ) : V X nL pc lo st σ := by
  obtain ⟨p, l, e, R, s, m, args, below, meth, c, G, A, cells, slots, Q⟩ := X
  exact fun H locs ls hP hS h => lv_iinc hC.1 hC.2.1 hd h hj (by rw [hv]) hn hl (fun ls' h' => k H locs ls' hP hS h')
end Rows
