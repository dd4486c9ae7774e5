/-! numbers: every written int is nI of a natural -/
theorem li0 : (0 : Int32) = nI 0 := rfl
theorem li1 : (1 : Int32) = nI 1 := rfl
theorem li2 : (2 : Int32) = nI 2 := rfl
theorem li3 : (3 : Int32) = nI 3 := rfl
theorem li4 : (4 : Int32) = nI 4 := rfl
theorem li5 : (5 : Int32) = nI 5 := rfl
theorem li6 : (6 : Int32) = nI 6 := rfl
theorem li7 : (7 : Int32) = nI 7 := rfl
theorem li8 : (8 : Int32) = nI 8 := rfl
theorem li9 : (9 : Int32) = nI 9 := rfl
theorem li10 : (10 : Int32) = nI 10 := rfl
theorem li11 : (11 : Int32) = nI 11 := rfl
theorem li12 : (12 : Int32) = nI 12 := rfl
theorem li13 : (13 : Int32) = nI 13 := rfl
theorem li14 : (14 : Int32) = nI 14 := rfl
theorem li16 : (16 : Int32) = nI 16 := rfl
theorem li17 : (17 : Int32) = nI 17 := rfl
theorem li20 : (20 : Int32) = nI 20 := rfl
theorem li21 : (21 : Int32) = nI 21 := rfl
theorem li22 : (22 : Int32) = nI 22 := rfl
theorem li23 : (23 : Int32) = nI 23 := rfl
theorem li24 : (24 : Int32) = nI 24 := rfl
theorem li30 : (30 : Int32) = nI 30 := rfl
theorem li32 : (32 : Int32) = nI 32 := rfl
theorem li40 : (40 : Int32) = nI 40 := rfl
theorem li48 : (48 : Int32) = nI 48 := rfl
theorem li57 : (57 : Int32) = nI 57 := rfl
theorem li59 : (59 : Int32) = nI 59 := rfl
theorem li63 : (63 : Int32) = nI 63 := rfl
theorem li86 : (86 : Int32) = nI 86 := rfl
theorem li97 : (97 : Int32) = nI 97 := rfl
theorem li99 : (99 : Int32) = nI 99 := rfl
theorem li100 : (100 : Int32) = nI 100 := rfl
theorem li102 : (102 : Int32) = nI 102 := rfl
theorem li115 : (115 : Int32) = nI 115 := rfl
theorem li122 : (122 : Int32) = nI 122 := rfl
theorem li200 : (200 : Int32) = nI 200 := rfl
theorem li255 : (255 : Int32) = nI 255 := rfl
theorem li289 : (289 : Int32) = nI 289 := rfl
theorem li320 : (320 : Int32) = nI 320 := rfl
theorem li400 : (400 : Int32) = nI 400 := rfl
theorem li720 : (720 : Int32) = nI 720 := rfl
theorem li999 : (999 : Int32) = nI 999 := rfl
theorem li1000 : (1000 : Int32) = nI 1000 := rfl
theorem nI_sub {a b : Nat} (h : b ≤ a) : nI a - nI b = nI (a - b) := pk_sub h
theorem nI_eqI {a b : Nat} (ha : a < 2147483648) (hb : b < 2147483648) : (nI a = nI b) = (a = b) := propext (nI_eq ha hb)
theorem nI_leI2 {a b : Nat} (ha : a < 2147483648) (hb : b < 2147483648) : (nI a ≤ nI b) = (a ≤ b) := propext (nI_leI ha hb)
theorem nI_ltI2 {a b : Nat} (ha : a < 2147483648) (hb : b < 2147483648) : (nI a < nI b) = (a < b) := propext (nI_ltI ha hb)
theorem vinT {n N : Nat} (h : n < N) (hN : N < 2147483648) : vp_in (nI n) N = True := by
  exact eq_true (vp_in_nI h hN)
theorem i_lt {x y : Int32} : x < y ↔ x.toInt < y.toInt := Int32.lt_iff_toInt_lt
theorem i_le {x y : Int32} : x ≤ y ↔ x.toInt ≤ y.toInt := Int32.le_iff_toInt_le
theorem i_eq {x y : Int32} : x = y ↔ x.toInt = y.toInt := Int32.toInt_inj.symm
/-- what is below, above, in a range -/
theorem i_range (x : Int32) {n : Nat} (hn : n < 2147483648) : (x < nI 0 ∨ nI n ≤ x) ∨ ∃ j : Nat, j < n ∧ x = nI j := by
  rcases pk_ix x (n := n) hn with h | h | h
  · exact Or.inl (Or.inl h)
  · exact Or.inl (Or.inr h)
  · exact Or.inr h
theorem nI_inj {a b : Nat} (ha : a < 2147483648) (hb : b < 2147483648) (h : nI a = nI b) : a = b := (nI_eq ha hb).mp h
theorem gU_up {σ : gM} {o k : Nat} {v : Int32} {a j : Nat} : gU σ o k v a j = if a = o ∧ j = k then v else σ a j := rfl
/-- the value of a ware of a kind -/
def pRip (k wo ag : Int32) : Int32 := if k = nI 1 then wo - ag else if k = nI 2 then (if nI 6 ≤ ag then wo + nI 5 - nI 2 * (ag - nI 5) else wo + ag) else if k = nI 3 then wo - nI 2 * ag else if k = nI 4 then wo else wo + ag / nI 3
def pVal (k wo ag : Int32) : Int32 := if nI 0 ≤ pRip k wo ag then pRip k wo ag else nI 0
/-- a kind is of a wanted kind too -/
def pSuch (k t : Int32) : Bool := decide (t = nI 0) || decide (t = k) || (decide (t = nI 1) && (decide (k = nI 2) || decide (k = nI 3))) || (decide (t = nI 4) && decide (k = nI 5))
/-- of a market as the reference lays it: a ware's value in d days, and to a buyer -/
def pV (N : Nat → Int32) (w : Nat) (d : Int32) : Int32 := pVal (N (22 + 4 * w)) (N (22 + 4 * w + 1)) (N (22 + 4 * w + 2) + d)
def pVT (N : Nat → Int32) (b w : Nat) (d : Int32) : Int32 := if pSuch (N (22 + 4 * w)) (N (6 + 4 * b)) = true then nI 2 * pV N w d else pV N w d

theorem i_nat (x : Int32) : x < nI 0 ∨ ∃ n : Nat, n < 2147483648 ∧ x = nI n := by
  by_cases h : x < nI 0
  · exact Or.inl h
  · obtain ⟨j, hj, e⟩ := nI_of (x := x) h
    exact Or.inr ⟨j, hj, e⟩
theorem nI_I {n : Nat} (h : n < 2147483648) : (nI n).toInt = (n : Int) := nI_toInt h
theorem ng_lt {x : Int32} {k : Nat} (h : x < nI 0) (hk : k < 2147483648) : (x < nI k) = True := eq_true (by rw [i_lt, nI_I hk]; rw [i_lt, nI_I (by omega)] at h; omega)
theorem ng_le {x : Int32} {k : Nat} (h : x < nI 0) (hk : k < 2147483648) : (x ≤ nI k) = True := eq_true (by rw [i_le, nI_I hk]; rw [i_lt, nI_I (by omega)] at h; omega)
theorem ng_gt {x : Int32} {k : Nat} (h : x < nI 0) (hk : k < 2147483648) : (nI k < x) = False := eq_false (by rw [i_lt, nI_I hk]; rw [i_lt, nI_I (by omega)] at h; omega)
theorem ng_ge {x : Int32} {k : Nat} (h : x < nI 0) (hk : k < 2147483648) : (nI k ≤ x) = False := eq_false (by rw [i_le, nI_I hk]; rw [i_lt, nI_I (by omega)] at h; omega)
theorem ng_eq {x : Int32} {k : Nat} (h : x < nI 0) (hk : k < 2147483648) : (x = nI k) = False := eq_false (fun e => by rw [e, i_lt, nI_I hk, nI_I (by omega)] at h; omega)
theorem ng_qe {x : Int32} {k : Nat} (h : x < nI 0) (hk : k < 2147483648) : (nI k = x) = False := eq_false (fun e => by rw [← e, i_lt, nI_I hk, nI_I (by omega)] at h; omega)
/-- a piece of an array is written: from lo on, k places, by f -/
def gFn (σ : gM) (o lo k : Nat) (f : Nat → Int32) : gM := fun a j => if a = o ∧ lo ≤ j ∧ j < lo + k then f (j - lo) else σ a j
theorem gFn_0 (σ : gM) (o lo : Nat) (f : Nat → Int32) : gFn σ o lo 0 f = σ := by
  funext a j
  simp only [gFn]
  rw [if_neg (by omega)]
theorem gFn_succ (σ : gM) (o lo k : Nat) (f : Nat → Int32) : gU (gFn σ o lo k f) o (lo + k) (f k) = gFn σ o lo (k + 1) f := by
  funext a j
  simp only [gFn, gU]
  by_cases ha : a = o
  · by_cases hj : j = lo + k
    · subst hj
      rw [if_pos ⟨ha, rfl⟩, if_pos ⟨ha, by omega, by omega⟩]
      congr 1
      omega
    · rw [if_neg (fun h => hj h.2)]
      by_cases h2 : lo ≤ j ∧ j < lo + k
      · rw [if_pos ⟨ha, h2⟩, if_pos ⟨ha, h2.1, by omega⟩]
      · rw [if_neg (fun h => h2 h.2), if_neg (fun h => h2 ⟨h.2.1, by omega⟩)]
  · rw [if_neg (fun h => ha h.1), if_neg (fun h => ha h.1), if_neg (fun h => ha h.1)]
theorem gFn_ne {σ : gM} {o lo k a : Nat} {f : Nat → Int32} (h : a ≠ o) : gFn σ o lo k f a = σ a := by funext j; simp [gFn, h]
theorem gFn_in {σ : gM} {o lo k j : Nat} {f : Nat → Int32} (h1 : lo ≤ j) (h2 : j < lo + k) : gFn σ o lo k f o j = f (j - lo) := by simp [gFn, h1, h2]
theorem gFn_out {σ : gM} {o lo k j : Nat} {f : Nat → Int32} (h : j < lo ∨ lo + k ≤ j) : gFn σ o lo k f o j = σ o j := by
  simp only [gFn]
  rw [if_neg (by omega)]
/-- the small functions -/
theorem eM_in {x a b : Int32} {σ : gM} {Q : Int32 → gM → Prop} : wM_in x a b σ Q = Q (if x < a then nI 0 else if b < x then nI 0 else nI 1) σ := by
  unfold wM_in
  simp only [forall_eq, li0, li1, li2, li3, li4, li5, li6, li7, li8, li9, li10, li11, li12, li13, li14, li16, li17, li20, li21, li22, li23, li24, li30, li32, li40, li48, li57, li59, li63, li86, li97, li99, li100, li102, li115, li122, li200, li255, li289, li320, li400, li720, li999, li1000]
  by_cases h1 : x < a <;> by_cases h2 : b < x <;> simp [h1, h2]
theorem eM_isRow {x : Int32} {σ : gM} {Q : Int32 → gM → Prop} : wM_isRow x σ Q = Q (if x < nI 0 then nI 0 else if nI 7 < x then nI 0 else nI 1) σ := by
  unfold wM_isRow
  simp only [eM_in, li0, li1, li2, li3, li4, li5, li6, li7, li8, li9, li10, li11, li12, li13, li14, li16, li17, li20, li21, li22, li23, li24, li30, li32, li40, li48, li57, li59, li63, li86, li97, li99, li100, li102, li115, li122, li200, li255, li289, li320, li400, li720, li999, li1000]
  by_cases h1 : x < nI 0 <;> by_cases h2 : nI 7 < x <;> simp [h1, h2]
theorem eH_isNoRow {x : Int32} {σ : gM} {Q : Int32 → gM → Prop} : wH_isNoRow x σ Q = Q (if x < nI 0 then nI 1 else if x < nI 8 then nI 0 else nI 1) σ := by
  unfold wH_isNoRow
  simp only [forall_eq, li0, li1, li2, li3, li4, li5, li6, li7, li8, li9, li10, li11, li12, li13, li14, li16, li17, li20, li21, li22, li23, li24, li30, li32, li40, li48, li57, li59, li63, li86, li97, li99, li100, li102, li115, li122, li200, li255, li289, li320, li400, li720, li999, li1000]
  by_cases h1 : x < nI 0 <;> by_cases h2 : x < nI 8 <;> simp [h1, h2]
