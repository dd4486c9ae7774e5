/-! ORDERS: all rows of n, by codes and by the next one after another -/
def foN {β : Type} (n : Nat) (f : Nat → β) : β := Nat.casesOn (motive := fun _ => β) n (f 0) (fun m => f (Nat.succ m))
theorem foN_eq {β : Type} (n : Nat) (f : Nat → β) : foN n f = f n := by cases n <;> rfl
def foL {β : Type} : List Nat → (List Nat → β) → β
  | [], f => f []
  | x :: xs, f => foN x (fun x => foL xs (fun xs => f (x :: xs)))
theorem foL_eq {β : Type} : ∀ (l : List Nat) (f : List Nat → β), foL l f = f l
  | [], _ => rfl
  | x :: xs, f => by rw [foL, foN_eq, foL_eq xs]
def beqL : List Nat → List Nat → Bool
  | [], [] => true
  | x :: xs, y :: ys => Nat.beq x y && beqL xs ys
  | [], _ :: _ => false
  | _ :: _, [] => false
theorem beqL_iff : ∀ (a b : List Nat), beqL a b = true ↔ a = b
  | [], [] => by simp [beqL]
  | x :: xs, y :: ys => by
    rw [beqL, Bool.and_eq_true, beqL_iff xs ys, List.cons.injEq]
    constructor
    · intro ⟨h1, h2⟩; exact ⟨Nat.eq_of_beq_eq_true h1, h2⟩
    · intro ⟨h1, h2⟩; exact ⟨by rw [h1]; exact Nat.beq_refl y, h2⟩
  | [], _ :: _ => by simp [beqL]
  | _ :: _, [] => by simp [beqL]
def swp (l : List Nat) (a b : Nat) : List Nat := (l.set a (l.getD b 0)).set b (l.getD a 0)
/-- one more than the last place that is less than the next; 0: none -/
def nxI (l : List Nat) : Nat → Nat
  | 0 => 0
  | k + 1 => bif Nat.ble (l.getD k 0) (l.getD (k + 1) 0) then k + 1 else nxI l k
def nxJ (l : List Nat) (i : Nat) : Nat → Nat
  | 0 => 0
  | j + 1 => bif Nat.ble (j + 1) i then j + 1 else bif Nat.ble (l.getD i 0) (l.getD (j + 1) 0) then j + 1 else nxJ l i j
def rvs : Nat → List Nat → Nat → Nat → List Nat
  | 0, l, _, _ => l
  | m + 1, l, a, b => bif Nat.ble b a then l else foL (swp l a b) (fun l => rvs m l (a + 1) (b - 1))
def nxt (n : Nat) (l : List Nat) : List Nat := foN (nxI l (n - 1)) (fun q => bif Nat.beq q 0 then [9] else foN (nxJ l (q - 1) (n - 1)) (fun j => foL (swp l (q - 1) j) (fun l => rvs n l q (n - 1))))
/-- a code's digits, and the set of them -/
def dgL (n : Nat) : Nat → Nat → Nat → List Nat → List Nat × Nat
  | 0, _, met, l => (l, met)
  | m + 1, left, met, l => dgL n m (left / n) (met ||| 1 * 2 ^ (left % n)) (left % n :: l)
def stp (n : Nat) (e x : List Nat) : List Nat := bif beqL x e.tail then (e.headD 0 + 1) :: nxt n e.tail else [0, 8]
def lfW (n c : Nat) (e : List Nat) : List Nat := if (dgL n n c 0 []).2 = 2 ^ n - 1 then stp n e (dgL n n c 0 []).1 else e
/-- the codes in their order, digit by digit from the highest on -/
noncomputable def itK (f : Nat → List Nat → (List Nat → Bool) → Bool) (m : Nat) : Nat → List Nat → (List Nat → Bool) → Bool := Nat.rec (motive := fun _ => Nat → List Nat → (List Nat → Bool) → Bool) (fun _ e κ => κ e) (fun _ ih d e κ => f d e (fun e => ih (Nat.succ d) e κ)) m
noncomputable def trK (n fl k : Nat) : List Nat → Nat → List Nat → (List Nat → Bool) → Bool := Nat.rec (motive := fun _ => List Nat → Nat → List Nat → (List Nat → Bool) → Bool) (fun l met e κ => bif Nat.beq met fl then foL (stp n e l.reverse) κ else κ e) (fun _ ih l met e κ => itK (fun d e κ => foN (Nat.lor met (Nat.pow 2 d)) (fun mt => ih (d :: l) mt e κ)) n 0 e κ) k
def itS (f : Nat → List Nat → List Nat) : Nat → Nat → List Nat → List Nat
  | 0, _, e => e
  | m + 1, d, e => itS f m (d + 1) (f d e)
def trS (n fl : Nat) : Nat → List Nat → Nat → List Nat → List Nat
  | 0, l, met, e => if met = fl then stp n e l.reverse else e
  | k + 1, l, met, e => itS (fun d e => trS n fl k (d :: l) (met ||| 2 ^ d) e) n 0 e
theorem itK_S {f : Nat → List Nat → (List Nat → Bool) → Bool} {g : Nat → List Nat → List Nat} (h : ∀ d e κ, f d e κ = κ (g d e)) : ∀ (m d : Nat) (e : List Nat) (κ : List Nat → Bool), itK f m d e κ = κ (itS g m d e)
  | 0, _, _, _ => rfl
  | m + 1, d, e, κ => by
    show f d e (fun e => itK f m (Nat.succ d) e κ) = _
    rw [h, itK_S h m]
    rfl
theorem trK_S {n fl : Nat} : ∀ (k : Nat) (l : List Nat) (met : Nat) (e : List Nat) (κ : List Nat → Bool), trK n fl k l met e κ = κ (trS n fl k l met e)
  | 0, l, met, e, κ => by
    show (bif Nat.beq met fl then foL (stp n e l.reverse) κ else κ e) = _
    rw [trS]
    by_cases q : met = fl
    · rw [if_pos q, q, Nat.beq_refl, cond_true, foL_eq]
    · have : Nat.beq met fl = false := by
        cases z : Nat.beq met fl with
        | false => rfl
        | true => exact absurd (Nat.eq_of_beq_eq_true z) q
      rw [if_neg q, this, cond_false]
  | k + 1, l, met, e, κ => by
    show itK (fun d e κ => foN (Nat.lor met (Nat.pow 2 d)) (fun mt => trK n fl k (d :: l) mt e κ)) n 0 e κ = _
    rw [itK_S (g := fun d e => trS n fl k (d :: l) (met ||| 2 ^ d) e) (fun d e κ => by rw [foN_eq, trK_S k]; rfl)]
    rfl
theorem wk_0 : trK 0 0 0 [] 0 [0] (fun r => beqL r [1, 9]) = true := by decide +kernel
theorem wk_1 : trK 1 1 1 [] 0 [0, 0] (fun r => beqL r [1, 9]) = true := by decide +kernel
theorem wk_2 : trK 2 3 2 [] 0 [0, 0, 1] (fun r => beqL r [2, 9]) = true := by decide +kernel
theorem wk_3 : trK 3 7 3 [] 0 [0, 0, 1, 2] (fun r => beqL r [6, 9]) = true := by decide +kernel
theorem wk_4 : trK 4 15 4 [] 0 [0, 0, 1, 2, 3] (fun r => beqL r [24, 9]) = true := by decide +kernel
theorem wk_5 : trK 5 31 5 [] 0 [0, 0, 1, 2, 3, 4] (fun r => beqL r [120, 9]) = true := by decide +kernel
theorem wk_6 : trK 6 63 6 [] 0 [0, 0, 1, 2, 3, 4, 5] (fun r => beqL r [720, 9]) = true := by decide +kernel
/-- the rows among the codes from c on -/
def pmM (n : Nat) : Nat → Nat → List (List Nat)
  | 0, _ => []
  | m + 1, c => if (dgL n n c 0 []).2 = 2 ^ n - 1 then (dgL n n c 0 []).1 :: pmM n m (c + 1) else pmM n m (c + 1)
/-- row by row, from e on -/
def prC (n : Nat) : Nat → List Nat → List (List Nat)
  | 0, _ => []
  | m + 1, e => if e = [9] then [] else e :: prC n m (nxt n e)
def fd (n : Nat) : Nat → Nat → List Nat → List Nat
  | 0, _, e => e
  | m + 1, c, e => fd n m (c + 1) (lfW n c e)
theorem fd_add {n : Nat} : ∀ (a b c : Nat) (e : List Nat), fd n (a + b) c e = fd n b (c + a) (fd n a c e)
  | 0, b, c, e => by rw [Nat.zero_add]; rfl
  | a + 1, b, c, e => by
    rw [show a + 1 + b = (a + b) + 1 by omega, fd, fd_add a b, fd, show c + 1 + a = c + (a + 1) by omega]
theorem dgL_acc {n : Nat} : ∀ (m left met : Nat) (l : List Nat), dgL n m left met l = ((dgL n m left 0 []).1 ++ l, (dgL n m left 0 []).2 ||| met)
  | 0, _, met, l => by rw [dgL, dgL, List.nil_append, Nat.zero_or]
  | m + 1, left, met, l => by
    rw [dgL, dgL, dgL_acc m (left / n) (met ||| 1 * 2 ^ (left % n)) (left % n :: l), dgL_acc m (left / n) (0 ||| 1 * 2 ^ (left % n)) [left % n]]
    rw [Nat.zero_or, Nat.or_assoc, Nat.or_comm met, List.append_assoc]
    rfl
theorem itS_fd {n s c : Nat} {f : Nat → List Nat → List Nat} : ∀ (m d : Nat) (e : List Nat), (∀ j e, d ≤ j → j < d + m → f j e = fd n s ((c * n + j) * s) e) → itS f m d e = fd n (m * s) ((c * n + d) * s) e
  | 0, d, e, _ => by rw [Nat.zero_mul]; rfl
  | m + 1, d, e, h => by
    rw [itS, h d e (Nat.le_refl _) (by omega), itS_fd m (d + 1) _ (fun j e h1 h2 => h j e (by omega) (by omega)), Nat.succ_mul, Nat.add_comm (m * s) s, fd_add, show (c * n + (d + 1)) * s = (c * n + d) * s + s by rw [← Nat.add_assoc, Nat.succ_mul]]
theorem trS_fd {n fl : Nat} (hfl : fl = 2 ^ n - 1) : ∀ (k j c : Nat) (l : List Nat) (met : Nat) (e : List Nat), j + k = n → dgL n j c 0 [] = (l.reverse, met) → trS n fl k l met e = fd n (n ^ k) (c * n ^ k) e
  | 0, j, c, l, met, e, hj, h => by
    have : j = n := by omega
    subst this
    rw [trS, Nat.pow_zero, Nat.mul_one, fd, fd, lfW, h, hfl]
  | k + 1, j, c, l, met, e, hj, h => by
    have hn : 0 < n := by omega
    rw [trS, itS_fd (s := n ^ k) (c := c) n 0 e (fun d e h1 h2 => ?_), Nat.add_zero, Nat.pow_succ, Nat.mul_comm n, Nat.mul_assoc, Nat.mul_comm n]
    refine trS_fd hfl k (j + 1) (c * n + d) (d :: l) (met ||| 2 ^ d) e (by omega) ?_
    have e1 : (c * n + d) / n = c := by
      rw [Nat.mul_comm, Nat.mul_add_div hn, Nat.div_eq_of_lt (by omega), Nat.add_zero]
    have e2 : (c * n + d) % n = d := by
      rw [Nat.mul_comm, Nat.mul_add_mod, Nat.mod_eq_of_lt (by omega)]
    rw [dgL, e1, e2, dgL_acc, h, List.reverse_cons, Nat.zero_or, Nat.one_mul]
theorem fd_pm {n : Nat} : ∀ (m c : Nat) (e : List Nat), fd n m c e = (pmM n m c).foldl (stp n) e
  | 0, _, _ => rfl
  | m + 1, c, e => by
    rw [fd, fd_pm m, lfW, pmM]
    by_cases h : (dgL n n c 0 []).2 = 2 ^ n - 1
    · rw [if_pos h, if_pos h, List.foldl_cons]
    · rw [if_neg h, if_neg h]
theorem dgL_ok {n : Nat} (hn : 0 < n) : ∀ (m left met : Nat) (l : List Nat), (∀ x ∈ l, x < n) → (dgL n m left met l).1.length = l.length + m ∧ ∀ x ∈ (dgL n m left met l).1, x < n
  | 0, _, _, l, h => ⟨rfl, h⟩
  | m + 1, left, met, l, h => by
    rw [dgL]
    obtain ⟨h1, h2⟩ := dgL_ok hn m (left / n) (met ||| 1 * 2 ^ (left % n)) (left % n :: l) (fun x hx => by
      rcases List.mem_cons.mp hx with e | e
      · rw [e]; exact Nat.mod_lt _ hn
      · exact h x e)
    exact ⟨by rw [h1, List.length_cons]; omega, h2⟩
theorem pmM_ok {n : Nat} (hn : 0 < n) : ∀ (m c : Nat), ∀ x ∈ pmM n m c, x.length = n ∧ ∀ y ∈ x, y < n
  | 0, _, x, h => absurd h (by simp [pmM])
  | m + 1, c, x, h => by
    rw [pmM] at h
    have hd := dgL_ok hn n c 0 [] (fun x hx => absurd hx (by simp))
    split at h
    · rcases List.mem_cons.mp h with e | e
      · rw [e]
        exact ⟨by rw [hd.1]; simp, hd.2⟩
      · exact pmM_ok hn m (c + 1) x e
    · exact pmM_ok hn m (c + 1) x h
theorem stp_bad {n : Nat} : ∀ (l : List (List Nat)), (∀ x ∈ l, x ≠ [8]) → l.foldl (stp n) [0, 8] = [0, 8]
  | [], _ => rfl
  | x :: r, h => by
    rw [List.foldl_cons]
    have : beqL x [8] = false := by
      cases q : beqL x [8] with
      | false => rfl
      | true => exact absurd ((beqL_iff _ _).mp q) (h x List.mem_cons_self)
    have e : stp n [0, 8] x = [0, 8] := by
      unfold stp
      rw [show ([0, 8] : List Nat).tail = [8] from rfl, this, cond_false]
    rw [e]
    exact stp_bad r (fun y hy => h y (List.mem_cons_of_mem _ hy))
theorem walk_ok {n b : Nat} : ∀ (l : List (List Nat)) (a : Nat) (e : List Nat), (∀ x ∈ l, x ≠ [8] ∧ x ≠ [9]) → l.foldl (stp n) (a :: e) = [b, 9] → l.length + a = b ∧ ∀ z, l = prC n (l.length + z) e
  | [], a, e, _, h => by
    have h1 : a :: e = [b, 9] := h
    rw [List.cons.injEq] at h1
    refine ⟨by rw [h1.1]; simp, fun z => ?_⟩
    rw [h1.2]
    cases z with
    | zero => rfl
    | succ z => rw [List.length_nil, Nat.zero_add, prC, if_pos rfl]
  | x :: r, a, e, hx, h => by
    rw [List.foldl_cons] at h
    by_cases q : x = e
    · have e1 : stp n (a :: e) x = (a + 1) :: nxt n e := by
        unfold stp
        rw [show (a :: e).tail = e from rfl, (beqL_iff x e).mpr q, cond_true]
        rfl
      rw [e1] at h
      obtain ⟨h1, h2⟩ := walk_ok r (a + 1) (nxt n e) (fun y hy => hx y (List.mem_cons_of_mem _ hy)) h
      refine ⟨by rw [List.length_cons]; omega, fun z => ?_⟩
      have e9 : e ≠ [9] := by rw [← q]; exact (hx x List.mem_cons_self).2
      rw [List.length_cons, show r.length + 1 + z = (r.length + z) + 1 by omega, prC, if_neg e9, ← h2 z, q]
    · have e1 : stp n (a :: e) x = [0, 8] := by
        unfold stp
        have : beqL x e = false := by
          cases q2 : beqL x e with
          | false => rfl
          | true => exact absurd ((beqL_iff _ _).mp q2) q
        rw [show (a :: e).tail = e from rfl, this, cond_false]
      rw [e1, stp_bad r (fun y hy => (hx y (List.mem_cons_of_mem _ hy)).1)] at h
      exact absurd h (by simp)
theorem orders_n {n b : Nat} {e : List Nat} (hn : n ≤ 6) (hb : b ≤ 720) (h : trK n (2 ^ n - 1) n [] 0 (0 :: e) (fun r => beqL r [b, 9]) = true) : pmM n (n ^ n) 0 = prC n 720 e := by
  rw [trK_S] at h
  have h1 := (beqL_iff _ _).mp h
  rw [trS_fd rfl n 0 0 [] 0 (0 :: e) (by omega) rfl, Nat.zero_mul, fd_pm] at h1
  have hx : ∀ x ∈ pmM n (n ^ n) 0, x ≠ [8] ∧ x ≠ [9] := by
    intro x hx
    by_cases hz : n = 0
    · subst hz
      have : x = [] := by simpa [pmM, dgL] using hx
      rw [this]; simp
    · obtain ⟨g1, g2⟩ := pmM_ok (by omega) _ _ x hx
      constructor
      · intro e; rw [e] at g2; have := g2 8 (by simp); omega
      · intro e; rw [e] at g2; have := g2 9 (by simp); omega
  obtain ⟨h2, h3⟩ := walk_ok _ 0 e hx h1
  have := h3 (720 - (pmM n (n ^ n) 0).length)
  rw [show (pmM n (n ^ n) 0).length + (720 - (pmM n (n ^ n) 0).length) = 720 by omega] at this
  exact this
theorem orders {n : Nat} (hn : n ≤ 6) : pmM n (n ^ n) 0 = prC n 720 (List.range n) := by
  have : n = 0 ∨ n = 1 ∨ n = 2 ∨ n = 3 ∨ n = 4 ∨ n = 5 ∨ n = 6 := by omega
  rcases this with rfl | rfl | rfl | rfl | rfl | rfl | rfl
  · exact orders_n hn (by omega) wk_0
  · exact orders_n hn (by omega) wk_1
  · exact orders_n hn (by omega) wk_2
  · exact orders_n hn (by omega) wk_3
  · exact orders_n hn (by omega) wk_4
  · exact orders_n hn (by omega) wk_5
  · exact orders_n hn (by omega) wk_6
