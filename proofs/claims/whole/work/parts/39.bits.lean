/-! BITS -/
theorem sh_k : ∀ k : Fin 32, ((nI k.val &&& 31).toBitVec.smod 32).toNat = k.val := by decide +kernel
theorem sh_l {x k : Nat} (hk : k < 32) (h : x * 2 ^ k < 4294967296) : nI x <<< (nI k &&& 31) = nI (x * 2 ^ k) := pk_shlN _ k (sh_k ⟨k, hk⟩) h
theorem sh_r {x k : Nat} (hk : k < 32) (h : x < 2147483648) : nI x >>> (nI k &&& 31) = nI (x / 2 ^ k) := pk_shrN h _ k (sh_k ⟨k, hk⟩)
theorem and_1 {x : Nat} (h : x < 4294967296) : nI x &&& nI 1 = nI (x % 2) := pk_andN h 1 (by decide)
theorem nI_or (a b : Nat) : nI a ||| nI b = nI (a ||| b) := by
  apply Int32.toBitVec_inj.mp
  exact (BitVec.ofNat_or).symm
theorem nI_and (a b : Nat) : nI a &&& nI b = nI (a &&& b) := by
  apply Int32.toBitVec_inj.mp
  exact (BitVec.ofNat_and).symm
theorem or_1 (x : Nat) : x * 2 ||| 1 = x * 2 + 1 := by
  have h := Nat.two_pow_add_eq_or_of_lt (i := 1) (b := 1) (by omega) x
  rw [show 2 ^ 1 * x = x * 2 by omega] at h
  exact h.symm
theorem or_0 (x : Int32) : x ||| nI 0 = x := by
  apply Int32.toBitVec_inj.mp
  exact BitVec.or_zero
theorem or_lt {a b : Nat} (n : Nat) (ha : a < 2 ^ n) (hb : b < 2 ^ n) : a ||| b < 2 ^ n := Nat.or_lt_two_pow ha hb
/-- the bits of a number below 2^16, counted -/
def bcN (v : Nat) : Nat :=
  let a := v - ((v >>> 1) &&& 1431655765)
  let b := (a &&& 858993459) + ((a >>> 2) &&& 858993459)
  let c := (b + (b >>> 4)) &&& 252645135
  let d := c + (c >>> 8)
  let e := d + (d >>> 16)
  e &&& 63
def pop (v : Nat) : Nat → Nat → Nat → Nat
  | 0, _, a => a
  | m + 1, t, a => pop v m (t + 1) (a + v / 2 ^ t % 2)
def fo (n : Nat) (f : Nat → Bool) : Bool := Nat.casesOn n (f 0) (fun m => f (Nat.succ m))
theorem fo_eq (n : Nat) (f : Nat → Bool) : fo n f = f n := by cases n <;> rfl
def popB (v : Nat) : Nat → Nat → Nat → Bool
  | 0, a, r => Nat.beq a r
  | m + 1, a, r => fo (Nat.add a (Nat.land v 1)) (fun a => fo (Nat.shiftRight v 1) (fun v => popB v m a r))
def okB (v : Nat) : Bool := fo v (fun v => fo (Nat.sub v (Nat.land (Nat.shiftRight v 1) 1431655765)) (fun a => fo (Nat.add (Nat.land a 858993459) (Nat.land (Nat.shiftRight a 2) 858993459)) (fun b => fo (Nat.land (Nat.add b (Nat.shiftRight b 4)) 252645135) (fun c => fo (Nat.add c (Nat.shiftRight c 8)) (fun d => fo (Nat.land (Nat.add d (Nat.shiftRight d 16)) 63) (fun e => popB v 16 0 e))))))
def allB : Nat → Nat → Bool
  | 0, lo => okB lo
  | k + 1, lo => fo lo (fun lo => allB k lo && allB k (Nat.add lo (Nat.pow 2 k)))
theorem allB_0 : allB 12 0 = true := by decide +kernel
theorem allB_1 : allB 12 4096 = true := by decide +kernel
theorem allB_2 : allB 12 8192 = true := by decide +kernel
theorem allB_3 : allB 12 12288 = true := by decide +kernel
theorem allB_4 : allB 12 16384 = true := by decide +kernel
theorem allB_5 : allB 12 20480 = true := by decide +kernel
theorem allB_6 : allB 12 24576 = true := by decide +kernel
theorem allB_7 : allB 12 28672 = true := by decide +kernel
theorem allB_8 : allB 12 32768 = true := by decide +kernel
theorem allB_9 : allB 12 36864 = true := by decide +kernel
theorem allB_10 : allB 12 40960 = true := by decide +kernel
theorem allB_11 : allB 12 45056 = true := by decide +kernel
theorem allB_12 : allB 12 49152 = true := by decide +kernel
theorem allB_13 : allB 12 53248 = true := by decide +kernel
theorem allB_14 : allB 12 57344 = true := by decide +kernel
theorem allB_15 : allB 12 61440 = true := by decide +kernel
