section Rows4
variable {X : gX} {cc : ByteArray} {own : String} {nL : Nat} {R0 : Room} {pc : Nat} {lo lo' : List (Nat × Value)} {st : List Value} {σ : gM}
theorem v_istore_nN (hC : VC X cc own nL R0) {kk : Fin 4} {x : Int32} {lo2 : Int32 → List (Nat × Value)} (hd : decode cc pc = .ok (.istore_n kk, 1)) (hn : (kk : Nat) < nL) (hl : ∀ z : Int32, ((kk : Nat), Value.int z) :: lo.filter (fun q => !(q.1 == (kk : Nat)) && !(q.1 + 1 == (kk : Nat) && q.2.category == 2)) = lo2 z) (k : ∀ z : Int32, z = x → V X nL (pc + 1) (lo2 z) st σ) : V X nL pc lo (.int x :: st) σ := v_istore_n hC hd hn (hl x) (k x rfl)
theorem v_istoreN (hC : VC X cc own nL R0) {i : Nat} {x : Int32} {lo2 : Int32 → List (Nat × Value)} (hd : decode cc pc = .ok (.istore i, 2)) (hn : i < nL) (hl : ∀ z : Int32, (i, Value.int z) :: lo.filter (fun q => !(q.1 == i) && !(q.1 + 1 == i && q.2.category == 2)) = lo2 z) (k : ∀ z : Int32, z = x → V X nL (pc + 2) (lo2 z) st σ) : V X nL pc lo (.int x :: st) σ := v_istore hC hd hn (hl x) (k x rfl)
theorem v_iincN (hC : VC X cc own nL R0) {i : Nat} {n : Int} {x : Int32} {lo2 : Int32 → List (Nat × Value)} (d : Int32) (j : Nat) (hd : decode cc pc = .ok (.iinc i n, 3)) (hj : lo[j]? = some (i, .int x)) (hv : Int32.ofInt n = d) (hn : i < nL) (hl : ∀ z : Int32, (i, Value.int z) :: lo.filter (fun q => !(q.1 == i) && !(q.1 + 1 == i && q.2.category == 2)) = lo2 z) (k : ∀ z : Int32, z = x + d → V X nL (pc + 3) (lo2 z) st σ) : V X nL pc lo st σ := v_iinc hC d j hd hj hv hn (hl _) (k _ rfl)
theorem v_img0 (hC : VC X cc own nL R0) {i : Int32} (hi : i = nI 0) (hd : decode cc pc = .ok (.aaload, 1)) (k : V X nL (pc + 1) lo (.ref (xad X 62) :: st) σ) : V X nL pc lo (.int i :: .ref (xad X 41) :: st) σ := by
  subst hi
  exact v_aald hC (Or.inr rfl) (o := 41) (Nat.le_of_ble_eq_true rfl) rfl (by unfold vp_in; decide) hd k
theorem v_img1 (hC : VC X cc own nL R0) {i : Int32} (hi : i = nI 1) (hd : decode cc pc = .ok (.aaload, 1)) (k : V X nL (pc + 1) lo (.ref (xad X 72) :: st) σ) : V X nL pc lo (.int i :: .ref (xad X 41) :: st) σ := by
  subst hi
  exact v_aald hC (Or.inr rfl) (o := 41) (Nat.le_of_ble_eq_true rfl) rfl (by unfold vp_in; decide) hd k
end Rows4
theorem nar_bool {x : Int32} (h : x = nI 0 ∨ x = nI 1) : narrow .boolean (.int x) = .int x := by rcases h with rfl | rfl <;> rfl
theorem fit_bool {x : Int32} (h : x = nI 0 ∨ x = nI 1) : fits .boolean (.int x) = true := by rcases h with rfl | rfl <;> rfl
theorem row_lt {r : Nat} (h : r < 8) : 2 + 2 * r < 100 := by omega
theorem rowi_lt {r : Nat} (h : r < 8) : 2 + 2 * r + 1 < 100 := by omega
theorem vin_lt {i : Int32} {n : Nat} (h : vp_in i n) : i.toNatClampNeg < n := Nat.not_le.mp (fun q => h (Or.inr q))
theorem sw_out {x : Int32} (lo hi : Int) (h : ∀ j : Int, lo ≤ j → j ≤ hi → ¬ x = Int32.ofInt j) : x.toInt < lo ∨ hi < x.toInt := by
  rcases Int.lt_or_le x.toInt lo with a | a
  · exact Or.inl a
  · rcases Int.lt_or_le hi x.toInt with b | b
    · exact Or.inr b
    · exact absurd (Int32.ofInt_toInt x).symm (h x.toInt a b)
theorem i32_ne {x : Int32} {k : Int} {v : Int32} (hv : v.toInt = k) (h : ¬ x = v) : ¬ x.toInt = k := fun q => h (Int32.toInt_inj.mp (q.trans hv.symm))
theorem lk_out2 {x v1 v2 : Int32} {k1 k2 o1 o2 d : Int} (h1 : ¬ x = v1) (h2 : ¬ x = v2) (e1 : v1.toInt = k1 := by decide) (e2 : v2.toInt = k2 := by decide) : Op.lookupswitch.offset (#[(k1, o1), (k2, o2)] : Array (Int × Int)).toList d x.toInt = d := by
  have a1 := i32_ne e1 h1
  have a2 := i32_ne e2 h2
  simp [Op.lookupswitch.offset, a1, a2, Ne.symm a1, Ne.symm a2]
theorem gSh_82 : gSh 82 = gsO 7 [gfR 83, gfR 84, gfR 85, gfI 3, gfI 4, gfR 86, gfI 6, gfI 7, gfL 8, gfI 9, gfI 10, gfI 11, gfI 12, gfI 13, gfI 14, gfR 87, gfR 88, gfR 89, gfR 90, gfR 91, gfI 20, gfR 92, gfI 22, gfR 93, gfR 94, gfR 95, gfR 96, gfR 97, gfR 98, gfR 99] := rfl
theorem v_putL {X : gX} {cc : ByteArray} {nL : Nat} {R0 : Room} {pc ix : Nat} {lo : List (Nat × Value)} {st : List Value} {σ : gM} {x : Int64} (hC : VC X cc RX7 nL R0) (hl : Cond.fieldLink RX7 ix RX7 (TX7 8).2.1 (TX7 8).2.2.1 ∈ wsA) (hd : decode cc pc = .ok (.putfield ix, 3)) (k : V X nL (pc + 3) lo st (gUL σ 82 8 x)) : V X nL pc lo (.long x :: .ref (xad X 82) :: st) σ := by
  obtain ⟨p, l, e, R, s, m, args, below, meth, c, G, A, cells, slots, Q⟩ := X
  obtain ⟨hx, hb, -, hw, hts, -, hG, ⟨hK, -⟩, hA, -⟩ := hC
  intro H locs ls hP hS h
  refine va_put (D := G.1) (tys := gTy G) (v := .long x) (ty := .long) (C := RX7) (T := TX7) (N := 30) (ci := 7) hx hb hts inA7 tyX7 tyX7_ok nmX7 hw hK hP (gW_D hG hA) hS 82 (gW_at (Nat.le_of_ble_eq_true rfl) gSh_82) rfl 8 (by decide) (hts _ hl) (fun _ h9 => h9) rfl (tyX7_ok 8 (by decide)) rfl rfl (Nat.le_of_ble_eq_true rfl) hd (fun H1 locs1 hP1 _ hS1 => ?_)
  refine k H1 locs1 ls ?_ hS1 h
  rw [gW_set (σ' := gUL σ 82 8 x) (i := 82) (Nat.le_of_ble_eq_true rfl) gSh_82 (by simp [gCell, gVal, gUL, gU, gLg_of]) (fun a ha => by rw [gUL, gU_ne ha, gU_ne ha])] at hP1
  exact hP1
