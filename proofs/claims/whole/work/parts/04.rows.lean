section Rows2
variable {X : gX} {cc : ByteArray} {own : String} {nL : Nat} {R0 : Room} {pc : Nat} {lo lo' : List (Nat × Value)} {st : List Value} {σ : gM}
theorem v_iadd (hC : VC X cc own nL R0) {x y : Int32} (hd : decode cc pc = .ok (.iadd, 1)) (k : V X nL (pc + 1) lo (.int (x + y) :: st) σ) : V X nL pc lo (.int y :: .int x :: st) σ := by
  obtain ⟨p, l, e, R, s, m, args, below, meth, c, G, A, cells, slots, Q⟩ := X
  exact fun H locs ls hP hS hl => lv_iadd hC.1 hC.2.1 hd (k H locs ls hP hS hl)
theorem v_isub (hC : VC X cc own nL R0) {x y : Int32} (hd : decode cc pc = .ok (.isub, 1)) (k : V X nL (pc + 1) lo (.int (x - y) :: st) σ) : V X nL pc lo (.int y :: .int x :: st) σ := by
  obtain ⟨p, l, e, R, s, m, args, below, meth, c, G, A, cells, slots, Q⟩ := X
  exact fun H locs ls hP hS hl => lv_isub hC.1 hC.2.1 hd (k H locs ls hP hS hl)
theorem v_imul (hC : VC X cc own nL R0) {x y : Int32} (hd : decode cc pc = .ok (.imul, 1)) (k : V X nL (pc + 1) lo (.int (x * y) :: st) σ) : V X nL pc lo (.int y :: .int x :: st) σ := by
  obtain ⟨p, l, e, R, s, m, args, below, meth, c, G, A, cells, slots, Q⟩ := X
  exact fun H locs ls hP hS hl => lv_imul hC.1 hC.2.1 hd (k H locs ls hP hS hl)
theorem v_iand (hC : VC X cc own nL R0) {x y : Int32} (hd : decode cc pc = .ok (.iand, 1)) (k : V X nL (pc + 1) lo (.int (x &&& y) :: st) σ) : V X nL pc lo (.int y :: .int x :: st) σ := by
  obtain ⟨p, l, e, R, s, m, args, below, meth, c, G, A, cells, slots, Q⟩ := X
  exact fun H locs ls hP hS hl => lv_iand hC.1 hC.2.1 hd (k H locs ls hP hS hl)
theorem v_ior (hC : VC X cc own nL R0) {x y : Int32} (hd : decode cc pc = .ok (.ior, 1)) (k : V X nL (pc + 1) lo (.int (x ||| y) :: st) σ) : V X nL pc lo (.int y :: .int x :: st) σ := by
  obtain ⟨p, l, e, R, s, m, args, below, meth, c, G, A, cells, slots, Q⟩ := X
  exact fun H locs ls hP hS hl => lv_ior hC.1 hC.2.1 hd (k H locs ls hP hS hl)
theorem v_ixor (hC : VC X cc own nL R0) {x y : Int32} (hd : decode cc pc = .ok (.ixor, 1)) (k : V X nL (pc + 1) lo (.int (x ^^^ y) :: st) σ) : V X nL pc lo (.int y :: .int x :: st) σ := by
  obtain ⟨p, l, e, R, s, m, args, below, meth, c, G, A, cells, slots, Q⟩ := X
  exact fun H locs ls hP hS hl => lv_ixor hC.1 hC.2.1 hd (k H locs ls hP hS hl)
theorem v_ladd (hC : VC X cc own nL R0) {x y : Int64} (hd : decode cc pc = .ok (.ladd, 1)) (k : V X nL (pc + 1) lo (.long (x + y) :: st) σ) : V X nL pc lo (.long y :: .long x :: st) σ := by
  obtain ⟨p, l, e, R, s, m, args, below, meth, c, G, A, cells, slots, Q⟩ := X
  exact fun H locs ls hP hS hl => lv_ladd hC.1 hC.2.1 hd (k H locs ls hP hS hl)
theorem v_lsub (hC : VC X cc own nL R0) {x y : Int64} (hd : decode cc pc = .ok (.lsub, 1)) (k : V X nL (pc + 1) lo (.long (x - y) :: st) σ) : V X nL pc lo (.long y :: .long x :: st) σ := by
  obtain ⟨p, l, e, R, s, m, args, below, meth, c, G, A, cells, slots, Q⟩ := X
  exact fun H locs ls hP hS hl => lv_lsub hC.1 hC.2.1 hd (k H locs ls hP hS hl)
theorem v_lmul (hC : VC X cc own nL R0) {x y : Int64} (hd : decode cc pc = .ok (.lmul, 1)) (k : V X nL (pc + 1) lo (.long (x * y) :: st) σ) : V X nL pc lo (.long y :: .long x :: st) σ := by
  obtain ⟨p, l, e, R, s, m, args, below, meth, c, G, A, cells, slots, Q⟩ := X
  exact fun H locs ls hP hS hl => lv_lmul hC.1 hC.2.1 hd (k H locs ls hP hS hl)
theorem v_land (hC : VC X cc own nL R0) {x y : Int64} (hd : decode cc pc = .ok (.land, 1)) (k : V X nL (pc + 1) lo (.long (x &&& y) :: st) σ) : V X nL pc lo (.long y :: .long x :: st) σ := by
  obtain ⟨p, l, e, R, s, m, args, below, meth, c, G, A, cells, slots, Q⟩ := X
  exact fun H locs ls hP hS hl => lv_land hC.1 hC.2.1 hd (k H locs ls hP hS hl)
theorem v_lor (hC : VC X cc own nL R0) {x y : Int64} (hd : decode cc pc = .ok (.lor, 1)) (k : V X nL (pc + 1) lo (.long (x ||| y) :: st) σ) : V X nL pc lo (.long y :: .long x :: st) σ := by
  obtain ⟨p, l, e, R, s, m, args, below, meth, c, G, A, cells, slots, Q⟩ := X
  exact fun H locs ls hP hS hl => lv_lor hC.1 hC.2.1 hd (k H locs ls hP hS hl)
theorem v_idiv (hC : VC X cc own nL R0) {x y : Int32} (hd : decode cc pc = .ok (.idiv, 1)) (hne : ¬ y = nI 0) (k : V X nL (pc + 1) lo (.int (x / y) :: st) σ) : V X nL pc lo (.int y :: .int x :: st) σ := by
  obtain ⟨p, l, e, R, s, m, args, below, meth, c, G, A, cells, slots, Q⟩ := X
  exact fun H locs ls hP hS hl => lv_idiv hC.1 hC.2.1 hd hne (k H locs ls hP hS hl)
theorem v_irem (hC : VC X cc own nL R0) {x y : Int32} (hd : decode cc pc = .ok (.irem, 1)) (hne : ¬ y = nI 0) (k : V X nL (pc + 1) lo (.int (x - x / y * y) :: st) σ) : V X nL pc lo (.int y :: .int x :: st) σ := by
  obtain ⟨p, l, e, R, s, m, args, below, meth, c, G, A, cells, slots, Q⟩ := X
  exact fun H locs ls hP hS hl => lv_irem hC.1 hC.2.1 hd hne (k H locs ls hP hS hl)
theorem v_ineg (hC : VC X cc own nL R0) {x : Int32} (hd : decode cc pc = .ok (.ineg, 1)) (k : V X nL (pc + 1) lo (.int (-x) :: st) σ) : V X nL pc lo (.int x :: st) σ := by
  obtain ⟨p, l, e, R, s, m, args, below, meth, c, G, A, cells, slots, Q⟩ := X
  exact fun H locs ls hP hS hl => lv_ineg hC.1 hC.2.1 hd (k H locs ls hP hS hl)
theorem v_ishl (hC : VC X cc own nL R0) {x y : Int32} (hd : decode cc pc = .ok (.ishl, 1)) (k : V X nL (pc + 1) lo (.int (x <<< (y &&& 31)) :: st) σ) : V X nL pc lo (.int y :: .int x :: st) σ := by
  obtain ⟨p, l, e, R, s, m, args, below, meth, c, G, A, cells, slots, Q⟩ := X
  exact fun H locs ls hP hS hl => lv_ishl hC.1 hC.2.1 hd (k H locs ls hP hS hl)
theorem v_ishr (hC : VC X cc own nL R0) {x y : Int32} (hd : decode cc pc = .ok (.ishr, 1)) (k : V X nL (pc + 1) lo (.int (x >>> (y &&& 31)) :: st) σ) : V X nL pc lo (.int y :: .int x :: st) σ := by
  obtain ⟨p, l, e, R, s, m, args, below, meth, c, G, A, cells, slots, Q⟩ := X
  exact fun H locs ls hP hS hl => lv_ishr hC.1 hC.2.1 hd (k H locs ls hP hS hl)
theorem v_iushr (hC : VC X cc own nL R0) {x y : Int32} (hd : decode cc pc = .ok (.iushr, 1)) (k : V X nL (pc + 1) lo (.int ((x.toUInt32 >>> (y.toUInt32 &&& Int32.toUInt32 31)).toInt32) :: st) σ) : V X nL pc lo (.int y :: .int x :: st) σ := by
  obtain ⟨p, l, e, R, s, m, args, below, meth, c, G, A, cells, slots, Q⟩ := X
  exact fun H locs ls hP hS hl => lv_iushr hC.1 hC.2.1 hd rfl (k H locs ls hP hS hl)
theorem v_lshl (hC : VC X cc own nL R0) {x : Int64} {y : Int32} (hd : decode cc pc = .ok (.lshl, 1)) (k : V X nL (pc + 1) lo (.long (x <<< (y.toInt64 &&& 63)) :: st) σ) : V X nL pc lo (.int y :: .long x :: st) σ := by
  obtain ⟨p, l, e, R, s, m, args, below, meth, c, G, A, cells, slots, Q⟩ := X
  exact fun H locs ls hP hS hl => lv_lshl hC.1 hC.2.1 hd rfl (k H locs ls hP hS hl)
theorem v_lshr (hC : VC X cc own nL R0) {x : Int64} {y : Int32} (hd : decode cc pc = .ok (.lshr, 1)) (k : V X nL (pc + 1) lo (.long (x >>> (y.toInt64 &&& 63)) :: st) σ) : V X nL pc lo (.int y :: .long x :: st) σ := by
  obtain ⟨p, l, e, R, s, m, args, below, meth, c, G, A, cells, slots, Q⟩ := X
  exact fun H locs ls hP hS hl => lv_lshr hC.1 hC.2.1 hd rfl (k H locs ls hP hS hl)
theorem v_i2l (hC : VC X cc own nL R0) {x : Int32} (hd : decode cc pc = .ok (.i2l, 1)) (k : V X nL (pc + 1) lo (.long x.toInt64 :: st) σ) : V X nL pc lo (.int x :: st) σ := by
  obtain ⟨p, l, e, R, s, m, args, below, meth, c, G, A, cells, slots, Q⟩ := X
  exact fun H locs ls hP hS hl => lv_i2l hC.1 hC.2.1 hd rfl (k H locs ls hP hS hl)
theorem v_l2i (hC : VC X cc own nL R0) {x : Int64} (hd : decode cc pc = .ok (.l2i, 1)) (k : V X nL (pc + 1) lo (.int x.toInt32 :: st) σ) : V X nL pc lo (.long x :: st) σ := by
  obtain ⟨p, l, e, R, s, m, args, below, meth, c, G, A, cells, slots, Q⟩ := X
  exact fun H locs ls hP hS hl => lv_l2i hC.1 hC.2.1 hd rfl (k H locs ls hP hS hl)
theorem v_i2b (hC : VC X cc own nL R0) {x : Int32} (hd : decode cc pc = .ok (.i2b, 1)) (k : V X nL (pc + 1) lo (.int x.toInt8.toInt32 :: st) σ) : V X nL pc lo (.int x :: st) σ := by
  obtain ⟨p, l, e, R, s, m, args, below, meth, c, G, A, cells, slots, Q⟩ := X
  exact fun H locs ls hP hS hl => lv_i2b hC.1 hC.2.1 hd rfl (k H locs ls hP hS hl)
theorem v_i2s (hC : VC X cc own nL R0) {x : Int32} (hd : decode cc pc = .ok (.i2s, 1)) (k : V X nL (pc + 1) lo (.int x.toInt16.toInt32 :: st) σ) : V X nL pc lo (.int x :: st) σ := by
  obtain ⟨p, l, e, R, s, m, args, below, meth, c, G, A, cells, slots, Q⟩ := X
  exact fun H locs ls hP hS hl => lv_i2s hC.1 hC.2.1 hd rfl (k H locs ls hP hS hl)
theorem v_i2c (hC : VC X cc own nL R0) {x : Int32} (hd : decode cc pc = .ok (.i2c, 1)) (k : V X nL (pc + 1) lo (.int ((x.toUInt32 % 65536).toInt32) :: st) σ) : V X nL pc lo (.int x :: st) σ := by
  obtain ⟨p, l, e, R, s, m, args, below, meth, c, G, A, cells, slots, Q⟩ := X
  exact fun H locs ls hP hS hl => lv_i2c hC.1 hC.2.1 hd rfl (k H locs ls hP hS hl)
theorem v_lconst (hC : VC X cc own nL R0) {n : Fin 2} (v : Int64) (hd : decode cc pc = .ok (.lconst n, 1)) (hv : Int64.ofNat (n : Nat) = v) (k : V X nL (pc + 1) lo (.long v :: st) σ) : V X nL pc lo st σ := by
  obtain ⟨p, l, e, R, s, m, args, below, meth, c, G, A, cells, slots, Q⟩ := X
  exact fun H locs ls hP hS hl => lv_lconst hC.1 hC.2.1 hd hv (k H locs ls hP hS hl)
theorem v_lcmp (hC : VC X cc own nL R0) {x y : Int64} (hd : decode cc pc = .ok (.lcmp, 1)) (k : V X nL (pc + 1) lo (.int (lg_cmp x y) :: st) σ) : V X nL pc lo (.long y :: .long x :: st) σ := by
  obtain ⟨p, l, e, R, s, m, args, below, meth, c, G, A, cells, slots, Q⟩ := X
  exact fun H locs ls hP hS hl => W.lcmp hC.1 hC.2.1 hd (k H locs ls hP hS hl)
theorem v_dup (hC : VC X cc own nL R0) {a : Value} (hd : decode cc pc = .ok (.dup, 1)) (ha : a.category = 1) (k : V X nL (pc + 1) lo (a :: a :: st) σ) : V X nL pc lo (a :: st) σ := by
  obtain ⟨p, l, e, R, s, m, args, below, meth, c, G, A, cells, slots, Q⟩ := X
  exact fun H locs ls hP hS hl => lv_dup hC.1 hC.2.1 hd ha (k H locs ls hP hS hl)
theorem v_pop (hC : VC X cc own nL R0) {a : Value} (hd : decode cc pc = .ok (.pop, 1)) (ha : a.category = 1) (k : V X nL (pc + 1) lo st σ) : V X nL pc lo (a :: st) σ := by
  obtain ⟨p, l, e, R, s, m, args, below, meth, c, G, A, cells, slots, Q⟩ := X
  exact fun H locs ls hP hS hl => lv_pop hC.1 hC.2.1 hd ha (k H locs ls hP hS hl)
theorem v_dup2 (hC : VC X cc own nL R0) {a b : Value} (hd : decode cc pc = .ok (.dup2, 1)) (ha : a.category = 1) (hb : b.category = 1) (k : V X nL (pc + 1) lo (a :: b :: a :: b :: st) σ) : V X nL pc lo (a :: b :: st) σ := by
  obtain ⟨p, l, e, R, s, m, args, below, meth, c, G, A, cells, slots, Q⟩ := X
  exact fun H locs ls hP hS hl => lv_dup2_11 hC.1 hC.2.1 hd ha hb (k H locs ls hP hS hl)
theorem v_if_eq (hC : VC X cc own nL R0) {x : Int32} {off : Int} (tgt : Nat) (hd : decode cc pc = .ok (.ifCond .eq off, 3)) (ht : (pc : Int) + off = (tgt : Int)) (kt : x = nI 0 → V X nL tgt lo st σ) (kf : ¬ x = nI 0 → V X nL (pc + 3) lo st σ) : V X nL pc lo (.int x :: st) σ := by
  obtain ⟨p, l, e, R, s, m, args, below, meth, c, G, A, cells, slots, Q⟩ := X
  exact fun H locs ls hP hS hl => lv_if_eq hC.1 hC.2.1 hd ht (fun h => kt h H locs ls hP hS hl) (fun h => kf h H locs ls hP hS hl)
theorem v_icmp_eq (hC : VC X cc own nL R0) {x y : Int32} {off : Int} (tgt : Nat) (hd : decode cc pc = .ok (.if_icmp .eq off, 3)) (ht : (pc : Int) + off = (tgt : Int)) (kt : x = y → V X nL tgt lo st σ) (kf : ¬ x = y → V X nL (pc + 3) lo st σ) : V X nL pc lo (.int y :: .int x :: st) σ := by
  obtain ⟨p, l, e, R, s, m, args, below, meth, c, G, A, cells, slots, Q⟩ := X
  exact fun H locs ls hP hS hl => lv_icmp_eq hC.1 hC.2.1 hd ht (fun h => kt h H locs ls hP hS hl) (fun h => kf h H locs ls hP hS hl)
theorem v_if_ne (hC : VC X cc own nL R0) {x : Int32} {off : Int} (tgt : Nat) (hd : decode cc pc = .ok (.ifCond .ne off, 3)) (ht : (pc : Int) + off = (tgt : Int)) (kt : ¬ x = nI 0 → V X nL tgt lo st σ) (kf : x = nI 0 → V X nL (pc + 3) lo st σ) : V X nL pc lo (.int x :: st) σ := by
  obtain ⟨p, l, e, R, s, m, args, below, meth, c, G, A, cells, slots, Q⟩ := X
  exact fun H locs ls hP hS hl => lv_if_ne hC.1 hC.2.1 hd ht (fun h => kt h H locs ls hP hS hl) (fun h => kf h H locs ls hP hS hl)
theorem v_icmp_ne (hC : VC X cc own nL R0) {x y : Int32} {off : Int} (tgt : Nat) (hd : decode cc pc = .ok (.if_icmp .ne off, 3)) (ht : (pc : Int) + off = (tgt : Int)) (kt : ¬ x = y → V X nL tgt lo st σ) (kf : x = y → V X nL (pc + 3) lo st σ) : V X nL pc lo (.int y :: .int x :: st) σ := by
  obtain ⟨p, l, e, R, s, m, args, below, meth, c, G, A, cells, slots, Q⟩ := X
  exact fun H locs ls hP hS hl => lv_icmp_ne hC.1 hC.2.1 hd ht (fun h => kt h H locs ls hP hS hl) (fun h => kf h H locs ls hP hS hl)
theorem v_if_lt (hC : VC X cc own nL R0) {x : Int32} {off : Int} (tgt : Nat) (hd : decode cc pc = .ok (.ifCond .lt off, 3)) (ht : (pc : Int) + off = (tgt : Int)) (kt : x < nI 0 → V X nL tgt lo st σ) (kf : ¬ x < nI 0 → V X nL (pc + 3) lo st σ) : V X nL pc lo (.int x :: st) σ := by
  obtain ⟨p, l, e, R, s, m, args, below, meth, c, G, A, cells, slots, Q⟩ := X
  exact fun H locs ls hP hS hl => lv_if_lt hC.1 hC.2.1 hd ht (fun h => kt h H locs ls hP hS hl) (fun h => kf h H locs ls hP hS hl)
theorem v_icmp_lt (hC : VC X cc own nL R0) {x y : Int32} {off : Int} (tgt : Nat) (hd : decode cc pc = .ok (.if_icmp .lt off, 3)) (ht : (pc : Int) + off = (tgt : Int)) (kt : x < y → V X nL tgt lo st σ) (kf : ¬ x < y → V X nL (pc + 3) lo st σ) : V X nL pc lo (.int y :: .int x :: st) σ := by
  obtain ⟨p, l, e, R, s, m, args, below, meth, c, G, A, cells, slots, Q⟩ := X
  exact fun H locs ls hP hS hl => lv_icmp_lt hC.1 hC.2.1 hd ht (fun h => kt h H locs ls hP hS hl) (fun h => kf h H locs ls hP hS hl)
theorem v_if_ge (hC : VC X cc own nL R0) {x : Int32} {off : Int} (tgt : Nat) (hd : decode cc pc = .ok (.ifCond .ge off, 3)) (ht : (pc : Int) + off = (tgt : Int)) (kt : nI 0 ≤ x → V X nL tgt lo st σ) (kf : ¬ nI 0 ≤ x → V X nL (pc + 3) lo st σ) : V X nL pc lo (.int x :: st) σ := by
  obtain ⟨p, l, e, R, s, m, args, below, meth, c, G, A, cells, slots, Q⟩ := X
  exact fun H locs ls hP hS hl => lv_if_ge hC.1 hC.2.1 hd ht (fun h => kt h H locs ls hP hS hl) (fun h => kf h H locs ls hP hS hl)
theorem v_icmp_ge (hC : VC X cc own nL R0) {x y : Int32} {off : Int} (tgt : Nat) (hd : decode cc pc = .ok (.if_icmp .ge off, 3)) (ht : (pc : Int) + off = (tgt : Int)) (kt : y ≤ x → V X nL tgt lo st σ) (kf : ¬ y ≤ x → V X nL (pc + 3) lo st σ) : V X nL pc lo (.int y :: .int x :: st) σ := by
  obtain ⟨p, l, e, R, s, m, args, below, meth, c, G, A, cells, slots, Q⟩ := X
  exact fun H locs ls hP hS hl => lv_icmp_ge hC.1 hC.2.1 hd ht (fun h => kt h H locs ls hP hS hl) (fun h => kf h H locs ls hP hS hl)
theorem v_if_gt (hC : VC X cc own nL R0) {x : Int32} {off : Int} (tgt : Nat) (hd : decode cc pc = .ok (.ifCond .gt off, 3)) (ht : (pc : Int) + off = (tgt : Int)) (kt : nI 0 < x → V X nL tgt lo st σ) (kf : ¬ nI 0 < x → V X nL (pc + 3) lo st σ) : V X nL pc lo (.int x :: st) σ := by
  obtain ⟨p, l, e, R, s, m, args, below, meth, c, G, A, cells, slots, Q⟩ := X
  exact fun H locs ls hP hS hl => lv_if_gt hC.1 hC.2.1 hd ht (fun h => kt h H locs ls hP hS hl) (fun h => kf h H locs ls hP hS hl)
theorem v_icmp_gt (hC : VC X cc own nL R0) {x y : Int32} {off : Int} (tgt : Nat) (hd : decode cc pc = .ok (.if_icmp .gt off, 3)) (ht : (pc : Int) + off = (tgt : Int)) (kt : y < x → V X nL tgt lo st σ) (kf : ¬ y < x → V X nL (pc + 3) lo st σ) : V X nL pc lo (.int y :: .int x :: st) σ := by
  obtain ⟨p, l, e, R, s, m, args, below, meth, c, G, A, cells, slots, Q⟩ := X
  exact fun H locs ls hP hS hl => lv_icmp_gt hC.1 hC.2.1 hd ht (fun h => kt h H locs ls hP hS hl) (fun h => kf h H locs ls hP hS hl)
theorem v_if_le (hC : VC X cc own nL R0) {x : Int32} {off : Int} (tgt : Nat) (hd : decode cc pc = .ok (.ifCond .le off, 3)) (ht : (pc : Int) + off = (tgt : Int)) (kt : x ≤ nI 0 → V X nL tgt lo st σ) (kf : ¬ x ≤ nI 0 → V X nL (pc + 3) lo st σ) : V X nL pc lo (.int x :: st) σ := by
  obtain ⟨p, l, e, R, s, m, args, below, meth, c, G, A, cells, slots, Q⟩ := X
  exact fun H locs ls hP hS hl => lv_if_le hC.1 hC.2.1 hd ht (fun h => kt h H locs ls hP hS hl) (fun h => kf h H locs ls hP hS hl)
theorem v_icmp_le (hC : VC X cc own nL R0) {x y : Int32} {off : Int} (tgt : Nat) (hd : decode cc pc = .ok (.if_icmp .le off, 3)) (ht : (pc : Int) + off = (tgt : Int)) (kt : x ≤ y → V X nL tgt lo st σ) (kf : ¬ x ≤ y → V X nL (pc + 3) lo st σ) : V X nL pc lo (.int y :: .int x :: st) σ := by
  obtain ⟨p, l, e, R, s, m, args, below, meth, c, G, A, cells, slots, Q⟩ := X
  exact fun H locs ls hP hS hl => lv_icmp_le hC.1 hC.2.1 hd ht (fun h => kt h H locs ls hP hS hl) (fun h => kf h H locs ls hP hS hl)
theorem v_goto (hC : VC X cc own nL R0) {off : Int} (tgt : Nat) (hd : decode cc pc = .ok (.goto off, 3)) (ht : (pc : Int) + off = (tgt : Int)) (k : V X nL tgt lo st σ) : V X nL pc lo st σ := by
  obtain ⟨p, l, e, R, s, m, args, below, meth, c, G, A, cells, slots, Q⟩ := X
  exact fun H locs ls hP hS hl => lv_goto hC.1 hC.2.1 hd ht (k H locs ls hP hS hl)
theorem v_tableOut (hC : VC X cc own nL R0) {dflt lo1 hi : Int} {offs : Array Int} {len : Nat} {x : Int32} (tgt : Nat) (hd : decode cc pc = .ok (.tableswitch dflt lo1 hi offs, len)) (h : x.toInt < lo1 ∨ hi < x.toInt) (ht : (pc : Int) + dflt = (tgt : Int)) (k : V X nL tgt lo st σ) : V X nL pc lo (.int x :: st) σ := by
  obtain ⟨p, l, e, R, s, m, args, below, meth, c, G, A, cells, slots, Q⟩ := X
  exact fun H locs ls hP hS hl => lv_tableOut hC.1 hC.2.1 hd h ht (k H locs ls hP hS hl)
theorem v_tableIn (hC : VC X cc own nL R0) {dflt lo1 hi : Int} {offs : Array Int} {len : Nat} {x : Int32} (v : Int32) {off : Int} (tgt : Nat) (hd : decode cc pc = .ok (.tableswitch dflt lo1 hi offs, len)) (hx : x = v) (h1 : ¬ v.toInt < lo1) (h2 : ¬ hi < v.toInt) (ho : offs[(v.toInt - lo1).toNat]? = some off) (ht : (pc : Int) + off = (tgt : Int)) (k : V X nL tgt lo st σ) : V X nL pc lo (.int x :: st) σ := by
  obtain ⟨p, l, e, R, s, m, args, below, meth, c, G, A, cells, slots, Q⟩ := X
  subst hx
  exact fun H locs ls hP hS hl => lv_tableIn hC.1 hC.2.1 hd h1 h2 ho ht (k H locs ls hP hS hl)
theorem v_lookup (hC : VC X cc own nL R0) {dflt : Int} {ps : Array (Int × Int)} {len : Nat} {x : Int32} {off : Int} (tgt : Nat) (hd : decode cc pc = .ok (.lookupswitch dflt ps, len)) (hp : (ps.toList.zip (ps.toList.drop 1)).all (fun (a, next) => a.1 < next.1) = true) (ho : Op.lookupswitch.offset ps.toList dflt x.toInt = off) (ht : (pc : Int) + off = (tgt : Int)) (k : V X nL tgt lo st σ) : V X nL pc lo (.int x :: st) σ := by
  obtain ⟨p, l, e, R, s, m, args, below, meth, c, G, A, cells, slots, Q⟩ := X
  exact fun H locs ls hP hS hl => lv_lookup hC.1 hC.2.1 hd hp ho ht (k H locs ls hP hS hl)
/-- getfield: of the class ci, the field j -/
theorem v_get (hC : VC X cc own nL R0) {C : String} {T : u_T} {N ci ix o j : Nat} {fl : List (Nat ⊕ (Nat ⊕ Nat))} {f : Nat ⊕ (Nat ⊕ Nat)} (hc : vwCl[ci]? = some (C, T, N)) (hin : ∀ w ∈ u_ws C T N, w ∈ wsA) (hj : j < N) (hT : (T j).1 = C) (hl : Cond.fieldLink own ix C (T j).2.1 (T j).2.2.1 ∈ wsA) (ho : o < 100) (hs : gSh o = gsO ci fl) (hf : fl[j]? = some f) (hd : decode cc pc = .ok (.getfield ix, 3)) (k : V X nL (pc + 3) lo (gVal (xG X) σ o f :: st) σ) : V X nL pc lo (.ref (xad X o) :: st) σ := by
  obtain ⟨p, l, e, R, s, m, args, below, meth, c, G, A, cells, slots, Q⟩ := X
  obtain ⟨hx, hb, -, hw, hts, -, -, ⟨hK, -⟩, -⟩ := hC
  exact fun H locs ls hP hS h => va_get (D := G.1) (tys := gTy G) hx hb hts hin hw hK hP o (gW_at ho hs) hc j hj (hts _ hl) (fun _ h9 => hT ▸ h9) (v := gVal G σ o f) (by rw [List.getElem?_map, hf]; rfl) hd (k H locs ls hP hS h)
def gApB (j : Nat) : List (Nat ⊕ (Nat ⊕ Nat)) → Nat → Bool
  | [], _ => true
  | .inl _ :: fl, i => gApB j fl (i + 1)
  | .inr (.inl q) :: fl, i => (i == j || q != j) && gApB j fl (i + 1)
  | .inr (.inr q) :: fl, i => (i == j || (q != j && q + 100 != j)) && gApB j fl (i + 1)
theorem gApB_at {j : Nat} : ∀ {fl : List (Nat ⊕ (Nat ⊕ Nat))} {i : Nat}, gApB j fl i = true → ∀ (k : Nat) (f : Nat ⊕ (Nat ⊕ Nat)), fl[k]? = some f → i + k ≠ j → f ≠ gfI j ∧ f ≠ gfL j ∧ (∀ q, f = gfL q → q + 100 ≠ j)
  | [], _, _, k, f, hk, _ => by simp at hk
  | g :: fl, i, h, 0, f, hk, hne => by
    simp at hk
    subst hk
    cases g with
    | inl q => exact ⟨fun h => (by cases h), fun h => (by cases h), fun q h => (by cases h)⟩
    | inr g => cases g with
      | inl q =>
        simp only [gApB, Bool.and_eq_true, Bool.or_eq_true, beq_iff_eq, bne_iff_ne] at h
        have hq : q ≠ j := h.1.resolve_left (by omega)
        exact ⟨fun z => (by cases z; exact hq rfl), fun z => (by cases z), fun q z => (by cases z)⟩
      | inr q =>
        simp only [gApB, Bool.and_eq_true, Bool.or_eq_true, beq_iff_eq, bne_iff_ne] at h
        have hq := h.1.resolve_left (by omega)
        exact ⟨fun z => (by cases z), fun z => (by cases z; exact hq.1 rfl), fun q z => (by cases z; exact hq.2)⟩
  | g :: fl, i, h, k + 1, f, hk, hne => by
    simp only [List.getElem?_cons_succ] at hk
    have h2 : gApB j fl (i + 1) = true := by
      cases g with
      | inl q => exact h
      | inr g => cases g with
        | inl q => simp only [gApB, Bool.and_eq_true] at h; exact h.2
        | inr q => simp only [gApB, Bool.and_eq_true] at h; exact h.2
    exact gApB_at h2 k f hk (by omega)
theorem gApB_of {j : Nat} {fl : List (Nat ⊕ (Nat ⊕ Nat))} (h : gApB j fl 0 = true) : ∀ i f, fl[i]? = some f → i ≠ j → f ≠ gfI j ∧ f ≠ gfL j ∧ (∀ q, f = gfL q → q + 100 ≠ j) := fun i f hf hi => gApB_at h i f hf (by omega)
abbrev va_E_inr (ci : Nat) (l : List Value) : va_E := .inr (ci, l)
/-- putfield of an int, or a boolean that is one -/
theorem v_put (hC : VC X cc own nL R0) {C : String} {T : u_T} {N ci ix o j : Nat} {fl : List (Nat ⊕ (Nat ⊕ Nat))} {ty0 : Nat → FieldType} {x : Int32} (hc : vwCl[ci]? = some (C, T, N)) (hin : ∀ w ∈ u_ws C T N, w ∈ wsA) (hty : ∀ k, k < N → parseFieldDescriptor (T k).2.2.1 = some (ty0 k)) (hnm : ∀ a, a < N → ∀ b, b < N → a ≠ b → (T a).2.1 ≠ (T b).2.1) (hj : j < N) (hT : (T j).1 = C) (hfin : (T j).2.2.2 = false) (hl : Cond.fieldLink own ix C (T j).2.1 (T j).2.2.1 ∈ wsA) (ho : o < 100) (hs : gSh o = gsO ci fl) (hf : fl[j]? = some (gfI j)) (hap0 : gApB j fl 0 = true) (hn : narrow (ty0 j) (.int x) = .int x) (hfit : fits (ty0 j) (.int x) = true) (hd : decode cc pc = .ok (.putfield ix, 3)) (k : V X nL (pc + 3) lo st (gU σ o j x)) : V X nL pc lo (.int x :: .ref (xad X o) :: st) σ := by
  obtain ⟨p, l, e, R, s, m, args, below, meth, c, G, A, cells, slots, Q⟩ := X
  obtain ⟨hx, hb, -, hw, hts, -, hG, ⟨hK, -⟩, hA, -⟩ := hC
  have hap := gApB_of hap0
  intro H locs ls hP hS h
  have hjl : j < fl.length := (List.getElem?_eq_some_iff.mp hf).1
  refine va_put (D := G.1) (tys := gTy G) (v := .int x) (ty := ty0 j) hx hb hts hin ty0 hty hnm hw hK hP (gW_D hG hA) hS o (gW_at ho hs) hc j hj (hts _ hl) (fun _ h9 => hT ▸ h9) hfin (hty j hj) hn hfit (by rw [List.length_map]; exact hjl) hd (fun H1 locs1 hP1 _ hS1 => ?_)
  refine k H1 locs1 ls ?_ hS1 h
  have e : (gW G σ).set o (gad G o, .inr (ci, (fl.map (gVal G σ o)).set j (.int x))) = gW G (gU σ o j x) := by
    refine gW_set ho hs ?_ (fun a ha => gU_ne ha)
    show _ = va_E_inr ci (fl.map (gVal G (gU σ o j x) o))
    unfold va_E_inr
    congr 2
    apply List.ext_getElem?
    intro i
    by_cases hi : i = j
    · subst hi
      rw [List.getElem?_set_self (by rw [List.length_map]; exact hjl), List.getElem?_map, hf]
      simp [gVal, gU_eq]
    · rw [List.getElem?_set_ne (Ne.symm hi), List.getElem?_map, List.getElem?_map]
      cases hfi : fl[i]? with
      | none => rfl
      | some f =>
        obtain ⟨a1, a2, a3⟩ := hap i f hfi hi
        cases f with
        | inl q => rfl
        | inr f => cases f with
          | inl q =>
            have hq : q ≠ j := fun z => a1 (by rw [z])
            simp [gVal, gU_off hq]
          | inr q =>
            have hq : q ≠ j := fun z => a2 (by rw [z])
            have hq2 : q + 100 ≠ j := a3 q rfl
            simp [gVal, gU_off hq, gU_off hq2]
  rw [e] at hP1
  exact hP1
end Rows2
