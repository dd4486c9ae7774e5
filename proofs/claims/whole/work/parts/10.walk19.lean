def rmM_heard : Room := { frames := 3, cells := 0, slots := 0, locals := 69 }
def wM_heard_l315 (Q : Int32 → gM → Prop) (K284 : Int32 → Int32 → Int32 → Int32 → Int32 → Int32 → gM → Prop) : Nat → Int32 → Int32 → Int32 → Int32 → Int32 → Int32 → Int32 → Int32 → Int32 → gM → Prop
  | 0, _, _, _, _, _, _, _, _, _, _ => False
  | n + 1, x4, x5, x7, x8, x9, x10, x11, x12, x13, σ =>
    (x7 ≤ x13 → (∀ x8_31 : Int32, x8_31 = (x8 + x11) → (∀ v33 : Int32, v33 = (if x11 ≤ nI 0 then x9 else (x9 &&& x12)) → (∀ x10_34 : Int32, x10_34 = x10 + (nI 1) → (K284 x4 x5 x7 x8_31 v33 x10_34 σ))))) ∧ (¬ (x7 ≤ x13) → ((x13 < x10 → (wM_heap x13 σ (fun (r37 : Int32) (σ37 : gM) => ∀ x12_38 : Int32, x12_38 = (x12 ||| ((nI 1) <<< (r37 &&& 31))) → (∀ x13_39 : Int32, x13_39 = x13 + (nI 1) → (wM_heard_l315 Q K284 n x4 x5 x7 x8 x9 x10 x11 x12_38 x13_39 σ37))))) ∧ (¬ (x13 < x10) → ((x13 < ((x7 - x4) + x10) → (∀ x12_41 : Int32, x12_41 = (x12 ||| (nI 0)) → (∀ x13_42 : Int32, x13_42 = x13 + (nI 1) → (wM_heard_l315 Q K284 n x4 x5 x7 x8 x9 x10 x11 x12_41 x13_42 σ)))) ∧ (¬ (x13 < ((x7 - x4) + x10)) → (wM_heap x13 σ (fun (r44 : Int32) (σ44 : gM) => ∀ x12_45 : Int32, x12_45 = (x12 ||| ((nI 1) <<< (r44 &&& 31))) → (∀ x13_46 : Int32, x13_46 = x13 + (nI 1) → (wM_heard_l315 Q K284 n x4 x5 x7 x8 x9 x10 x11 x12_45 x13_46 σ44)))))))))
def wM_heard_l284 (Q : Int32 → gM → Prop)  : Nat → Int32 → Int32 → Int32 → Int32 → Int32 → Int32 → gM → Prop
  | 0, _, _, _, _, _, _, _ => False
  | n + 1, x4, x5, x7, x8, x9, x10, σ =>
    (x4 < x10 → (∀ v24 : Int32, v24 = (if x5 = nI 0 then x8 else (if x8 = nI 0 then (-1000000 : Int32) else x9)) → (wM_did v24 σ (fun (r26 : Int32) (σ26 : gM) => Q r26 σ26)))) ∧ (¬ (x4 < x10) → (vp_in ((((nI 17) * x10) + x4) - x10) 289 ∧ (∀ x11_29 : Int32, x11_29 = (σ 95 ((((nI 17) * x10) + x4) - x10).toNatClampNeg) → (∃ n47 : Nat, wM_heard_l315 Q (wM_heard_l284 Q n) n47 x4 x5 x7 x8 x9 x10 x11_29 (nI 0) (nI 0) σ))))
def wM_heard_b210 (Q : Int32 → gM → Prop) (K127 : Int32 → Int32 → Int32 → Int32 → Int32 → Int32 → Int32 → gM → Prop) (K137 : Int32 → Int32 → Int32 → Int32 → Int32 → Int32 → Int32 → Int32 → gM → Prop) (x1 : Int32) (x2 : Int32) (x3 : Int32) (x4 : Int32) (x5 : Int32) (x7 : Int32) (x8 : Int32) (x9 : Int32) (x10 : Int32) (x11 : Int32) (σ : gM) : Prop :=
    ((x7 - (nI 1)) ≤ x8 → (∀ x9_63 : Int32, x9_63 = x9 + (nI 1) → (K137 x1 x2 x3 x4 x5 x7 x8 x9_63 σ))) ∧ (¬ ((x7 - (nI 1)) ≤ x8) → (wM_heap (((x7 - (nI 1)) - x8) + x9) σ (fun (r65 : Int32) (σ65 : gM) => wM_worthOf r65 x1 (nI 0) σ65 (fun (r67 : Int32) (σ67 : gM) => (r67 = x11 → (vp_in (x10 + (nI 1)) 289 ∧ (vp_in x10 289 ∧ (vp_in (x10 + (nI 1)) 289 ∧ (∀ σ71 : gM, σ71 = gU σ67 95 (x10 + (nI 1)).toNatClampNeg ((σ67 95 (x10 + (nI 1)).toNatClampNeg) + (σ67 95 x10.toNatClampNeg)) → (∀ x9_72 : Int32, x9_72 = x9 + (nI 1) → (K137 x1 x2 x3 x4 x5 x7 x8 x9_72 σ71))))))) ∧ (¬ (r67 = x11) → (∀ x9_73 : Int32, x9_73 = x9 + (nI 1) → (K137 x1 x2 x3 x4 x5 x7 x8 x9_73 σ67)))))))
def wM_heard_l137 (Q : Int32 → gM → Prop) (K127 : Int32 → Int32 → Int32 → Int32 → Int32 → Int32 → Int32 → gM → Prop) : Nat → Int32 → Int32 → Int32 → Int32 → Int32 → Int32 → Int32 → Int32 → gM → Prop
  | 0, _, _, _, _, _, _, _, _, _ => False
  | n + 1, x1, x2, x3, x4, x5, x7, x8, x9, σ =>
    (x8 < x9 → (∀ x8_50 : Int32, x8_50 = x8 + (nI 1) → (K127 x1 x2 x3 x4 x5 x7 x8_50 σ))) ∧ (¬ (x8 < x9) → (∀ x10_51 : Int32, x10_51 = ((((nI 17) * x9) + x8) - x9) → (vp_in ((((nI 40) * x2) + x3) + x8) 320 ∧ (∀ x11_53 : Int32, x11_53 = (σ 85 ((((nI 40) * x2) + x3) + x8).toNatClampNeg) → (wM_heap x9 σ (fun (r55 : Int32) (σ55 : gM) => wM_worthOf r55 x1 (nI 0) σ55 (fun (r57 : Int32) (σ57 : gM) => (r57 = x11_53 → (vp_in (x10_51 + (nI 17)) 289 ∧ (vp_in x10_51 289 ∧ (vp_in (x10_51 + (nI 17)) 289 ∧ (∀ σ61 : gM, σ61 = gU σ57 95 (x10_51 + (nI 17)).toNatClampNeg ((σ57 95 (x10_51 + (nI 17)).toNatClampNeg) + (σ57 95 x10_51.toNatClampNeg)) → (wM_heard_b210 Q K127 (wM_heard_l137 Q K127 n) x1 x2 x3 x4 x5 x7 x8 x9 x10_51 x11_53 σ61)))))) ∧ (¬ (r57 = x11_53) → (wM_heard_b210 Q K127 (wM_heard_l137 Q K127 n) x1 x2 x3 x4 x5 x7 x8 x9 x10_51 x11_53 σ57)))))))))
def wM_heard_l127 (Q : Int32 → gM → Prop)  : Nat → Int32 → Int32 → Int32 → Int32 → Int32 → Int32 → Int32 → gM → Prop
  | 0, _, _, _, _, _, _, _, _ => False
  | n + 1, x1, x2, x3, x4, x5, x7, x8, σ =>
    (x4 ≤ x8 → (∃ n48 : Nat, wM_heard_l284 Q n48 x4 x5 x7 (nI 0) (-1 : Int32) (nI 0) σ)) ∧ (¬ (x4 ≤ x8) → (∃ n74 : Nat, wM_heard_l137 Q (wM_heard_l127 Q n) n74 x1 x2 x3 x4 x5 x7 x8 (nI 0) σ))
def wM_heard_l95 (Q : Int32 → gM → Prop)  : Nat → Int32 → Int32 → Int32 → Int32 → Int32 → Int32 → Int32 → gM → Prop
  | 0, _, _, _, _, _, _, _, _ => False
  | n + 1, x1, x2, x3, x4, x5, x7, x8, σ =>
    ((nI 289) ≤ x8 → (∀ σ20 : gM, σ20 = gU σ 95 0 (nI 1) → (∃ n75 : Nat, wM_heard_l127 Q n75 x1 x2 x3 x4 x5 x7 (nI 0) σ20))) ∧ (¬ ((nI 289) ≤ x8) → (vp_in x8 289 ∧ (∀ σ76 : gM, σ76 = gU σ 95 x8.toNatClampNeg (nI 0) → (∀ x8_77 : Int32, x8_77 = x8 + (nI 1) → (wM_heard_l95 Q n x1 x2 x3 x4 x5 x7 x8_77 σ76)))))
def wM_heard (x1 : Int32) (x2 : Int32) (x3 : Int32) (x4 : Int32) (x5 : Int32) (σ : gM) (Q : Int32 → gM → Prop) : Prop :=
    wM_isBuyerAt x1 σ (fun (r2 : Int32) (σ2 : gM) => (r2 = nI 0 → (Q (-1000001 : Int32) σ2)) ∧ (¬ (r2 = nI 0) → (wM_isRow x2 σ2 (fun (r5 : Int32) (σ5 : gM) => (r5 = nI 0 → (Q (-1000001 : Int32) σ5)) ∧ (¬ (r5 = nI 0) → (wM_in x4 (nI 1) (nI 10) σ5 (fun (r8 : Int32) (σ8 : gM) => (r8 = nI 0 → (Q (-1000001 : Int32) σ8)) ∧ (¬ (r8 = nI 0) → (wM_in x5 (nI 0) (nI 1) σ8 (fun (r11 : Int32) (σ11 : gM) => (r11 = nI 0 → (Q (-1000001 : Int32) σ11)) ∧ (¬ (r11 = nI 0) → (wM_whyNot x2 x3 x4 σ11 (fun (r14 : Int32) (σ14 : gM) => (r14 = nI 0 → (∀ x7_17 : Int32, x7_17 = (σ14 89 5) → ((x4 ≤ x7_17 → (∃ n78 : Nat, wM_heard_l95 Q n78 x1 x2 x3 x4 x5 x7_17 (nI 0) σ14)) ∧ (¬ (x4 ≤ x7_17) → (∀ v80 : Int32, v80 = (if x5 = nI 0 then (nI 0) else (-1000000 : Int32)) → (wM_did v80 σ14 (fun (r82 : Int32) (σ82 : gM) => Q r82 σ82))))))) ∧ (¬ (r14 = nI 0) → (wM_finds r14 σ14 (fun (r84 : Int32) (σ84 : gM) => Q r84 σ84))))))))))))))))
set_option maxHeartbeats 4000000 in
set_option maxRecDepth 100000 in
theorem tM_heard_l315 {X : gX} {Q : Int32 → gM → Prop} (hC : VC X cX7_heard RX7 14 rmM_heard) (hR : VR X (some .int) (gPi Q)) {K284 : Int32 → Int32 → Int32 → Int32 → Int32 → Int32 → gM → Prop} (hK284 : ∀ (x4 : Int32) (x5 : Int32) (x7 : Int32) (x8 : Int32) (x9 : Int32) (x10 : Int32) (σ : gM), K284 x4 x5 x7 x8 x9 x10 σ → V X 14 284 [(0, .ref (xad X 82)), (4, .int x4), (5, .int x5), (7, .int x7), (8, .int x8), (9, .int x9), (10, .int x10)] [] σ) : ∀ (n : Nat) (x4 : Int32) (x5 : Int32) (x7 : Int32) (x8 : Int32) (x9 : Int32) (x10 : Int32) (x11 : Int32) (x12 : Int32) (x13 : Int32) (σ : gM), wM_heard_l315 Q K284 n x4 x5 x7 x8 x9 x10 x11 x12 x13 σ → V X 14 315 [(0, .ref (xad X 82)), (4, .int x4), (5, .int x5), (7, .int x7), (8, .int x8), (9, .int x9), (10, .int x10), (11, .int x11), (12, .int x12), (13, .int x13)] [] σ := by
  intro n
  induction n with
  | zero => intro x4 x5 x7 x8 x9 x10 x11 x12 x13 σ h; exact h.elim
  | succ n ih =>
    intro x4 x5 x7 x8 x9 x10 x11 x12 x13 σ h
    replace h : (x7 ≤ x13 → (∀ x8_31 : Int32, x8_31 = (x8 + x11) → (∀ v33 : Int32, v33 = (if x11 ≤ nI 0 then x9 else (x9 &&& x12)) → (∀ x10_34 : Int32, x10_34 = x10 + (nI 1) → (K284 x4 x5 x7 x8_31 v33 x10_34 σ))))) ∧ (¬ (x7 ≤ x13) → ((x13 < x10 → (wM_heap x13 σ (fun (r37 : Int32) (σ37 : gM) => ∀ x12_38 : Int32, x12_38 = (x12 ||| ((nI 1) <<< (r37 &&& 31))) → (∀ x13_39 : Int32, x13_39 = x13 + (nI 1) → (wM_heard_l315 Q K284 n x4 x5 x7 x8 x9 x10 x11 x12_38 x13_39 σ37))))) ∧ (¬ (x13 < x10) → ((x13 < ((x7 - x4) + x10) → (∀ x12_41 : Int32, x12_41 = (x12 ||| (nI 0)) → (∀ x13_42 : Int32, x13_42 = x13 + (nI 1) → (wM_heard_l315 Q K284 n x4 x5 x7 x8 x9 x10 x11 x12_41 x13_42 σ)))) ∧ (¬ (x13 < ((x7 - x4) + x10)) → (wM_heap x13 σ (fun (r44 : Int32) (σ44 : gM) => ∀ x12_45 : Int32, x12_45 = (x12 ||| ((nI 1) <<< (r44 &&& 31))) → (∀ x13_46 : Int32, x13_46 = x13 + (nI 1) → (wM_heard_l315 Q K284 n x4 x5 x7 x8 x9 x10 x11 x12_45 x13_46 σ44))))))))) := h
    refine v_iload hC 9 dX7_heard_315 rfl ?_
    refine v_iload hC 3 dX7_heard_317 rfl ?_
    refine v_icmp_ge hC 365 dX7_heard_319 (by decide) (fun c30 => ?_) (fun c30 => ?_)
    · replace h := h.1 c30
      refine v_iload hC 4 dX7_heard_365 rfl ?_
      refine v_iload hC 7 dX7_heard_367 rfl ?_
      refine v_iadd hC dX7_heard_369 ?_
      refine v_istoreN hC dX7_heard_370 (by decide) (lo2 := fun x8_31 => [(8, .int x8_31), (0, .ref (xad X 82)), (4, .int x4), (5, .int x5), (7, .int x7), (9, .int x9), (10, .int x10), (11, .int x11), (12, .int x12), (13, .int x13)]) (fun _ => rfl) (fun x8_31 e31 => ?_)
      replace h := h x8_31 e31
      refine v_iload hC 7 dX7_heard_372 rfl ?_
      have J32 : ∀ (v33 : Int32) (ev33 : v33 = (if x11 ≤ nI 0 then x9 else (x9 &&& x12))), V X 14 387 [(0, .ref (xad X 82)), (4, .int x4), (5, .int x5), (7, .int x7), (8, .int x8_31), (10, .int x10)] [.int v33] σ := by
        intro v33 ev33
        replace h := h v33 ev33
        refine v_istore hC dX7_heard_387 (by decide) rfl ?_
        refine v_iincN hC (nI 1) 6 dX7_heard_389 rfl rfl (by decide) (lo2 := fun x10_34 => [(10, .int x10_34), (9, .int v33), (0, .ref (xad X 82)), (4, .int x4), (5, .int x5), (7, .int x7), (8, .int x8_31)]) (fun _ => rfl) (fun x10_34 e34 => ?_)
        replace h := h x10_34 e34
        refine v_goto hC 284 dX7_heard_392 (by decide) ?_
        exact V.sub [2, 3, 4, 5, 6, 1, 0] rfl (hK284 _ _ _ _ _ _ _ h)
      refine v_if_le hC 385 dX7_heard_374 (by decide) (fun c32 => ?_) (fun c32 => ?_)
      · refine v_iload hC 5 dX7_heard_385 rfl ?_
        exact V.sub [1, 2, 3, 4, 0, 6] rfl (J32 _ (by rw [if_pos c32]))
      · refine v_iload hC 5 dX7_heard_377 rfl ?_
        refine v_iload hC 8 dX7_heard_379 rfl ?_
        refine v_iand hC dX7_heard_381 ?_
        refine v_goto hC 387 dX7_heard_382 (by decide) ?_
        exact V.sub [1, 2, 3, 4, 0, 6] rfl (J32 _ (by rw [if_neg c32]))
    · replace h := h.2 c30
      refine v_iload hC 8 dX7_heard_322 rfl ?_
      refine v_iload hC 9 dX7_heard_324 rfl ?_
      refine v_iload hC 6 dX7_heard_326 rfl ?_
      refine v_icmp_lt hC 344 dX7_heard_328 (by decide) (fun c35 => ?_) (fun c35 => ?_)
      · replace h := h.1 c35
        refine v_iconst hC (nI 1) dX7_heard_344 rfl ?_
        refine v_aload_n hC 0 dX7_heard_345 rfl ?_
        refine v_iload hC 9 dX7_heard_346 rfl ?_
        refine v_callV hC (kM_heap _ _ _ h) cmM_heap ⟨kw1148, kw52⟩ kw1146 ⟨Nat.le_of_ble_eq_true rfl, Nat.le_of_ble_eq_true rfl⟩ (Nat.le_of_ble_eq_true rfl) rfl (ci := 7) (T := TX7) (N := 30) rfl (As := fun G => [.int x13]) (fun _ => rfl) (fun _ => rfl) (st := [.int (nI 1), .int x12]) (Nat.le_of_ble_eq_true rfl) rfl dX7_heard_348 (kk_i (fun r37 σ37 h => ?_))
        refine v_ishl hC dX7_heard_351 ?_
        refine v_goto hC 356 dX7_heard_352 (by decide) ?_
        refine v_ior hC dX7_heard_356 ?_
        refine v_istoreN hC dX7_heard_357 (by decide) (lo2 := fun x12_38 => [(12, .int x12_38), (0, .ref (xad X 82)), (4, .int x4), (5, .int x5), (7, .int x7), (8, .int x8), (9, .int x9), (10, .int x10), (11, .int x11), (13, .int x13)]) (fun _ => rfl) (fun x12_38 e38 => ?_)
        replace h := h x12_38 e38
        refine v_iincN hC (nI 1) 9 dX7_heard_359 rfl rfl (by decide) (lo2 := fun x13_39 => [(13, .int x13_39), (12, .int x12_38), (0, .ref (xad X 82)), (4, .int x4), (5, .int x5), (7, .int x7), (8, .int x8), (9, .int x9), (10, .int x10), (11, .int x11)]) (fun _ => rfl) (fun x13_39 e39 => ?_)
        replace h := h x13_39 e39
        refine v_goto hC 315 dX7_heard_362 (by decide) ?_
        exact V.sub [2, 3, 4, 5, 6, 7, 8, 9, 1, 0] rfl (ih _ _ _ _ _ _ _ _ _ _ h)
      · replace h := h.2 c35
        refine v_iload hC 9 dX7_heard_331 rfl ?_
        refine v_iload hC 3 dX7_heard_333 rfl ?_
        refine v_iload hC 1 dX7_heard_335 rfl ?_
        refine v_isub hC dX7_heard_337 ?_
        refine v_iload hC 6 dX7_heard_338 rfl ?_
        refine v_iadd hC dX7_heard_340 ?_
        refine v_icmp_lt hC 355 dX7_heard_341 (by decide) (fun c40 => ?_) (fun c40 => ?_)
        · replace h := h.1 c40
          refine v_iconst hC (nI 0) dX7_heard_355 rfl ?_
          refine v_ior hC dX7_heard_356 ?_
          refine v_istoreN hC dX7_heard_357 (by decide) (lo2 := fun x12_41 => [(12, .int x12_41), (0, .ref (xad X 82)), (4, .int x4), (5, .int x5), (7, .int x7), (8, .int x8), (9, .int x9), (10, .int x10), (11, .int x11), (13, .int x13)]) (fun _ => rfl) (fun x12_41 e41 => ?_)
          replace h := h x12_41 e41
          refine v_iincN hC (nI 1) 9 dX7_heard_359 rfl rfl (by decide) (lo2 := fun x13_42 => [(13, .int x13_42), (12, .int x12_41), (0, .ref (xad X 82)), (4, .int x4), (5, .int x5), (7, .int x7), (8, .int x8), (9, .int x9), (10, .int x10), (11, .int x11)]) (fun _ => rfl) (fun x13_42 e42 => ?_)
          replace h := h x13_42 e42
          refine v_goto hC 315 dX7_heard_362 (by decide) ?_
          exact V.sub [2, 3, 4, 5, 6, 7, 8, 9, 1, 0] rfl (ih _ _ _ _ _ _ _ _ _ _ h)
        · replace h := h.2 c40
          refine v_iconst hC (nI 1) dX7_heard_344 rfl ?_
          refine v_aload_n hC 0 dX7_heard_345 rfl ?_
          refine v_iload hC 9 dX7_heard_346 rfl ?_
          refine v_callV hC (kM_heap _ _ _ h) cmM_heap ⟨kw1148, kw52⟩ kw1146 ⟨Nat.le_of_ble_eq_true rfl, Nat.le_of_ble_eq_true rfl⟩ (Nat.le_of_ble_eq_true rfl) rfl (ci := 7) (T := TX7) (N := 30) rfl (As := fun G => [.int x13]) (fun _ => rfl) (fun _ => rfl) (st := [.int (nI 1), .int x12]) (Nat.le_of_ble_eq_true rfl) rfl dX7_heard_348 (kk_i (fun r44 σ44 h => ?_))
          refine v_ishl hC dX7_heard_351 ?_
          refine v_goto hC 356 dX7_heard_352 (by decide) ?_
          refine v_ior hC dX7_heard_356 ?_
          refine v_istoreN hC dX7_heard_357 (by decide) (lo2 := fun x12_45 => [(12, .int x12_45), (0, .ref (xad X 82)), (4, .int x4), (5, .int x5), (7, .int x7), (8, .int x8), (9, .int x9), (10, .int x10), (11, .int x11), (13, .int x13)]) (fun _ => rfl) (fun x12_45 e45 => ?_)
          replace h := h x12_45 e45
          refine v_iincN hC (nI 1) 9 dX7_heard_359 rfl rfl (by decide) (lo2 := fun x13_46 => [(13, .int x13_46), (12, .int x12_45), (0, .ref (xad X 82)), (4, .int x4), (5, .int x5), (7, .int x7), (8, .int x8), (9, .int x9), (10, .int x10), (11, .int x11)]) (fun _ => rfl) (fun x13_46 e46 => ?_)
          replace h := h x13_46 e46
          refine v_goto hC 315 dX7_heard_362 (by decide) ?_
          exact V.sub [2, 3, 4, 5, 6, 7, 8, 9, 1, 0] rfl (ih _ _ _ _ _ _ _ _ _ _ h)
set_option maxHeartbeats 4000000 in
set_option maxRecDepth 100000 in
theorem tM_heard_l284 {X : gX} {Q : Int32 → gM → Prop} (hC : VC X cX7_heard RX7 14 rmM_heard) (hR : VR X (some .int) (gPi Q))  : ∀ (n : Nat) (x4 : Int32) (x5 : Int32) (x7 : Int32) (x8 : Int32) (x9 : Int32) (x10 : Int32) (σ : gM), wM_heard_l284 Q  n x4 x5 x7 x8 x9 x10 σ → V X 14 284 [(0, .ref (xad X 82)), (4, .int x4), (5, .int x5), (7, .int x7), (8, .int x8), (9, .int x9), (10, .int x10)] [] σ := by
  intro n
  induction n with
  | zero => intro x4 x5 x7 x8 x9 x10 σ h; exact h.elim
  | succ n ih =>
    intro x4 x5 x7 x8 x9 x10 σ h
    replace h : (x4 < x10 → (∀ v24 : Int32, v24 = (if x5 = nI 0 then x8 else (if x8 = nI 0 then (-1000000 : Int32) else x9)) → (wM_did v24 σ (fun (r26 : Int32) (σ26 : gM) => Q r26 σ26)))) ∧ (¬ (x4 < x10) → (vp_in ((((nI 17) * x10) + x4) - x10) 289 ∧ (∀ x11_29 : Int32, x11_29 = (σ 95 ((((nI 17) * x10) + x4) - x10).toNatClampNeg) → (∃ n47 : Nat, wM_heard_l315 Q (wM_heard_l284 Q n) n47 x4 x5 x7 x8 x9 x10 x11_29 (nI 0) (nI 0) σ)))) := h
    refine v_iload hC 6 dX7_heard_284 rfl ?_
    refine v_iload hC 1 dX7_heard_286 rfl ?_
    refine v_icmp_gt hC 395 dX7_heard_288 (by decide) (fun c22 => ?_) (fun c22 => ?_)
    · replace h := h.1 c22
      refine v_aload_n hC 0 dX7_heard_395 rfl ?_
      refine v_iload hC 2 dX7_heard_396 rfl ?_
      have J23 : ∀ (v24 : Int32) (ev24 : v24 = (if x5 = nI 0 then x8 else (if x8 = nI 0 then (-1000000 : Int32) else x9))), V X 14 418 [] [.int v24, .ref (xad X 82)] σ := by
        intro v24 ev24
        replace h := h v24 ev24
        refine v_callV hC (kM_did _ _ _ h) cmM_did ⟨kw1061, kw42⟩ kw1059 ⟨Nat.le_of_ble_eq_true rfl, Nat.le_of_ble_eq_true rfl⟩ (Nat.le_of_ble_eq_true rfl) rfl (ci := 7) (T := TX7) (N := 30) rfl (As := fun G => [.int v24]) (fun _ => rfl) (fun _ => rfl) (st := []) (Nat.le_of_ble_eq_true rfl) rfl dX7_heard_418 (kk_i (fun r26 σ26 h => ?_))
        exact v_iret hC hR h dX7_heard_421
      refine v_if_ne hC 406 dX7_heard_398 (by decide) (fun c23 => ?_) (fun c23 => ?_)
      · refine v_iload hC 4 dX7_heard_406 rfl ?_
        have J27 : V X 14 418 [] [.int (if x8 = nI 0 then (-1000000 : Int32) else x9), .ref (xad X 82)] σ := by
          exact V.sub [] rfl (J23 _ (by rw [if_neg c23]))
        refine v_if_ne hC 416 dX7_heard_408 (by decide) (fun c27 => ?_) (fun c27 => ?_)
        · refine v_iload hC 5 dX7_heard_416 rfl ?_
          rw [if_neg c27] at J27
          exact V.sub [] rfl J27
        · refine v_ldc hC kw1132 dX7_heard_411 ?_
          refine v_goto hC 418 dX7_heard_413 (by decide) ?_
          rw [if_pos c27] at J27
          exact V.sub [] rfl J27
      · refine v_iload hC 4 dX7_heard_401 rfl ?_
        refine v_goto hC 418 dX7_heard_403 (by decide) ?_
        exact V.sub [] rfl (J23 _ (by rw [if_pos c23]))
    · replace h := h.2 c22
      refine v_aload_n hC 0 dX7_heard_291 rfl ?_
      refine gf_X7_47 hC dX7_heard_292 ?_
      refine v_bipush hC (nI 17) dX7_heard_295 rfl ?_
      refine v_iload hC 6 dX7_heard_297 rfl ?_
      refine v_imul hC dX7_heard_299 ?_
      refine v_iload hC 1 dX7_heard_300 rfl ?_
      refine v_iadd hC dX7_heard_302 ?_
      refine v_iload hC 6 dX7_heard_303 rfl ?_
      refine v_isub hC dX7_heard_305 ?_
      obtain ⟨hi28, h⟩ := h
      refine v_iald hC (Nat.le_of_ble_eq_true rfl) rfl rfl hi28 dX7_heard_306 ?_
      refine v_istoreN hC dX7_heard_307 (by decide) (lo2 := fun x11_29 => [(11, .int x11_29), (0, .ref (xad X 82)), (4, .int x4), (5, .int x5), (7, .int x7), (8, .int x8), (9, .int x9), (10, .int x10)]) (fun _ => rfl) (fun x11_29 e29 => ?_)
      replace h := h x11_29 e29
      refine v_iconst hC (nI 0) dX7_heard_309 rfl ?_
      refine v_istore hC dX7_heard_310 (by decide) rfl ?_
      refine v_iconst hC (nI 0) dX7_heard_312 rfl ?_
      refine v_istore hC dX7_heard_313 (by decide) rfl ?_
      obtain ⟨n47, h⟩ := h
      exact V.sub [3, 4, 5, 6, 7, 8, 9, 2, 1, 0] rfl (tM_heard_l315 hC hR ih n47 _ _ _ _ _ _ _ _ _ _ h)
set_option maxHeartbeats 4000000 in
set_option maxRecDepth 100000 in
theorem tM_heard_b210 {X : gX} {Q : Int32 → gM → Prop} (hC : VC X cX7_heard RX7 14 rmM_heard) (hR : VR X (some .int) (gPi Q)) {K127 : Int32 → Int32 → Int32 → Int32 → Int32 → Int32 → Int32 → gM → Prop} (hK127 : ∀ (x1 : Int32) (x2 : Int32) (x3 : Int32) (x4 : Int32) (x5 : Int32) (x7 : Int32) (x8 : Int32) (σ : gM), K127 x1 x2 x3 x4 x5 x7 x8 σ → V X 14 127 [(0, .ref (xad X 82)), (1, .int x1), (2, .int x2), (3, .int x3), (4, .int x4), (5, .int x5), (7, .int x7), (8, .int x8)] [] σ) {K137 : Int32 → Int32 → Int32 → Int32 → Int32 → Int32 → Int32 → Int32 → gM → Prop} (hK137 : ∀ (x1 : Int32) (x2 : Int32) (x3 : Int32) (x4 : Int32) (x5 : Int32) (x7 : Int32) (x8 : Int32) (x9 : Int32) (σ : gM), K137 x1 x2 x3 x4 x5 x7 x8 x9 σ → V X 14 137 [(0, .ref (xad X 82)), (1, .int x1), (2, .int x2), (3, .int x3), (4, .int x4), (5, .int x5), (7, .int x7), (8, .int x8), (9, .int x9)] [] σ) (x1 : Int32) (x2 : Int32) (x3 : Int32) (x4 : Int32) (x5 : Int32) (x7 : Int32) (x8 : Int32) (x9 : Int32) (x10 : Int32) (x11 : Int32) (σ : gM) (h : wM_heard_b210 Q K127 K137 x1 x2 x3 x4 x5 x7 x8 x9 x10 x11 σ) : V X 14 210 [(0, .ref (xad X 82)), (1, .int x1), (2, .int x2), (3, .int x3), (4, .int x4), (5, .int x5), (7, .int x7), (8, .int x8), (9, .int x9), (10, .int x10), (11, .int x11)] [] σ := by
  replace h : ((x7 - (nI 1)) ≤ x8 → (∀ x9_63 : Int32, x9_63 = x9 + (nI 1) → (K137 x1 x2 x3 x4 x5 x7 x8 x9_63 σ))) ∧ (¬ ((x7 - (nI 1)) ≤ x8) → (wM_heap (((x7 - (nI 1)) - x8) + x9) σ (fun (r65 : Int32) (σ65 : gM) => wM_worthOf r65 x1 (nI 0) σ65 (fun (r67 : Int32) (σ67 : gM) => (r67 = x11 → (vp_in (x10 + (nI 1)) 289 ∧ (vp_in x10 289 ∧ (vp_in (x10 + (nI 1)) 289 ∧ (∀ σ71 : gM, σ71 = gU σ67 95 (x10 + (nI 1)).toNatClampNeg ((σ67 95 (x10 + (nI 1)).toNatClampNeg) + (σ67 95 x10.toNatClampNeg)) → (∀ x9_72 : Int32, x9_72 = x9 + (nI 1) → (K137 x1 x2 x3 x4 x5 x7 x8 x9_72 σ71))))))) ∧ (¬ (r67 = x11) → (∀ x9_73 : Int32, x9_73 = x9 + (nI 1) → (K137 x1 x2 x3 x4 x5 x7 x8 x9_73 σ67))))))) := h
  refine v_iload hC 7 dX7_heard_210 rfl ?_
  refine v_iload hC 6 dX7_heard_212 rfl ?_
  refine v_iconst hC (nI 1) dX7_heard_214 rfl ?_
  refine v_isub hC dX7_heard_215 ?_
  refine v_icmp_ge hC 263 dX7_heard_216 (by decide) (fun c62 => ?_) (fun c62 => ?_)
  · replace h := h.1 c62
    refine v_iincN hC (nI 1) 8 dX7_heard_263 rfl rfl (by decide) (lo2 := fun x9_63 => [(9, .int x9_63), (0, .ref (xad X 82)), (1, .int x1), (2, .int x2), (3, .int x3), (4, .int x4), (5, .int x5), (7, .int x7), (8, .int x8), (10, .int x10), (11, .int x11)]) (fun _ => rfl) (fun x9_63 e63 => ?_)
    replace h := h x9_63 e63
    refine v_goto hC 137 dX7_heard_266 (by decide) ?_
    exact V.sub [1, 2, 3, 4, 5, 6, 7, 8, 0] rfl (hK137 _ _ _ _ _ _ _ _ _ h)
  · replace h := h.2 c62
    refine v_aload_n hC 0 dX7_heard_219 rfl ?_
    refine v_aload_n hC 0 dX7_heard_220 rfl ?_
    refine v_iload hC 6 dX7_heard_221 rfl ?_
    refine v_iconst hC (nI 1) dX7_heard_223 rfl ?_
    refine v_isub hC dX7_heard_224 ?_
    refine v_iload hC 7 dX7_heard_225 rfl ?_
    refine v_isub hC dX7_heard_227 ?_
    refine v_iload hC 8 dX7_heard_228 rfl ?_
    refine v_iadd hC dX7_heard_230 ?_
    refine v_callV hC (kM_heap _ _ _ h) cmM_heap ⟨kw1148, kw52⟩ kw1146 ⟨Nat.le_of_ble_eq_true rfl, Nat.le_of_ble_eq_true rfl⟩ (Nat.le_of_ble_eq_true rfl) rfl (ci := 7) (T := TX7) (N := 30) rfl (As := fun G => [.int (((x7 - (nI 1)) - x8) + x9)]) (fun _ => rfl) (fun _ => rfl) (st := [.ref (xad X 82)]) (Nat.le_of_ble_eq_true rfl) rfl dX7_heard_231 (kk_i (fun r65 σ65 h => ?_))
    refine v_iload_n hC 1 dX7_heard_234 rfl ?_
    refine v_iconst hC (nI 0) dX7_heard_235 rfl ?_
    refine v_callV hC (kM_worthOf _ _ _ _ _ h) cmM_worthOf ⟨kw1160, kw55⟩ kw1158 ⟨Nat.le_of_ble_eq_true rfl, Nat.le_of_ble_eq_true rfl⟩ (Nat.le_of_ble_eq_true rfl) rfl (ci := 7) (T := TX7) (N := 30) rfl (As := fun G => [.int r65, .int x1, .int (nI 0)]) (fun _ => rfl) (fun _ => rfl) (st := []) (Nat.le_of_ble_eq_true rfl) rfl dX7_heard_236 (kk_i (fun r67 σ67 h => ?_))
    refine v_iload hC 10 dX7_heard_239 rfl ?_
    refine v_icmp_ne hC 263 dX7_heard_241 (by decide) (fun c68 => ?_) (fun c68 => ?_)
    · replace h := h.2 c68
      refine v_iincN hC (nI 1) 8 dX7_heard_263 rfl rfl (by decide) (lo2 := fun x9_73 => [(9, .int x9_73), (0, .ref (xad X 82)), (1, .int x1), (2, .int x2), (3, .int x3), (4, .int x4), (5, .int x5), (7, .int x7), (8, .int x8), (10, .int x10), (11, .int x11)]) (fun _ => rfl) (fun x9_73 e73 => ?_)
      replace h := h x9_73 e73
      refine v_goto hC 137 dX7_heard_266 (by decide) ?_
      exact V.sub [1, 2, 3, 4, 5, 6, 7, 8, 0] rfl (hK137 _ _ _ _ _ _ _ _ _ h)
    · replace h := h.1 c68
      refine v_aload_n hC 0 dX7_heard_244 rfl ?_
      refine gf_X7_47 hC dX7_heard_245 ?_
      refine v_iload hC 9 dX7_heard_248 rfl ?_
      refine v_iconst hC (nI 1) dX7_heard_250 rfl ?_
      refine v_iadd hC dX7_heard_251 ?_
      refine v_dup2 hC dX7_heard_252 rfl rfl ?_
      obtain ⟨hi69, h⟩ := h
      refine v_iald hC (Nat.le_of_ble_eq_true rfl) rfl rfl hi69 dX7_heard_253 ?_
      refine v_aload_n hC 0 dX7_heard_254 rfl ?_
      refine gf_X7_47 hC dX7_heard_255 ?_
      refine v_iload hC 9 dX7_heard_258 rfl ?_
      obtain ⟨hi70, h⟩ := h
      refine v_iald hC (Nat.le_of_ble_eq_true rfl) rfl rfl hi70 dX7_heard_260 ?_
      refine v_iadd hC dX7_heard_261 ?_
      obtain ⟨hi71, h⟩ := h
      refine v_iast hC (Nat.le_of_ble_eq_true rfl) rfl rfl hi71 dX7_heard_262 (fun σ71 e71 => ?_)
      replace h := h σ71 e71
      refine v_iincN hC (nI 1) 8 dX7_heard_263 rfl rfl (by decide) (lo2 := fun x9_72 => [(9, .int x9_72), (0, .ref (xad X 82)), (1, .int x1), (2, .int x2), (3, .int x3), (4, .int x4), (5, .int x5), (7, .int x7), (8, .int x8), (10, .int x10), (11, .int x11)]) (fun _ => rfl) (fun x9_72 e72 => ?_)
      replace h := h x9_72 e72
      refine v_goto hC 137 dX7_heard_266 (by decide) ?_
      exact V.sub [1, 2, 3, 4, 5, 6, 7, 8, 0] rfl (hK137 _ _ _ _ _ _ _ _ _ h)
set_option maxHeartbeats 4000000 in
set_option maxRecDepth 100000 in
theorem tM_heard_l137 {X : gX} {Q : Int32 → gM → Prop} (hC : VC X cX7_heard RX7 14 rmM_heard) (hR : VR X (some .int) (gPi Q)) {K127 : Int32 → Int32 → Int32 → Int32 → Int32 → Int32 → Int32 → gM → Prop} (hK127 : ∀ (x1 : Int32) (x2 : Int32) (x3 : Int32) (x4 : Int32) (x5 : Int32) (x7 : Int32) (x8 : Int32) (σ : gM), K127 x1 x2 x3 x4 x5 x7 x8 σ → V X 14 127 [(0, .ref (xad X 82)), (1, .int x1), (2, .int x2), (3, .int x3), (4, .int x4), (5, .int x5), (7, .int x7), (8, .int x8)] [] σ) : ∀ (n : Nat) (x1 : Int32) (x2 : Int32) (x3 : Int32) (x4 : Int32) (x5 : Int32) (x7 : Int32) (x8 : Int32) (x9 : Int32) (σ : gM), wM_heard_l137 Q K127 n x1 x2 x3 x4 x5 x7 x8 x9 σ → V X 14 137 [(0, .ref (xad X 82)), (1, .int x1), (2, .int x2), (3, .int x3), (4, .int x4), (5, .int x5), (7, .int x7), (8, .int x8), (9, .int x9)] [] σ := by
  intro n
  induction n with
  | zero => intro x1 x2 x3 x4 x5 x7 x8 x9 σ h; exact h.elim
  | succ n ih =>
    intro x1 x2 x3 x4 x5 x7 x8 x9 σ h
    replace h : (x8 < x9 → (∀ x8_50 : Int32, x8_50 = x8 + (nI 1) → (K127 x1 x2 x3 x4 x5 x7 x8_50 σ))) ∧ (¬ (x8 < x9) → (∀ x10_51 : Int32, x10_51 = ((((nI 17) * x9) + x8) - x9) → (vp_in ((((nI 40) * x2) + x3) + x8) 320 ∧ (∀ x11_53 : Int32, x11_53 = (σ 85 ((((nI 40) * x2) + x3) + x8).toNatClampNeg) → (wM_heap x9 σ (fun (r55 : Int32) (σ55 : gM) => wM_worthOf r55 x1 (nI 0) σ55 (fun (r57 : Int32) (σ57 : gM) => (r57 = x11_53 → (vp_in (x10_51 + (nI 17)) 289 ∧ (vp_in x10_51 289 ∧ (vp_in (x10_51 + (nI 17)) 289 ∧ (∀ σ61 : gM, σ61 = gU σ57 95 (x10_51 + (nI 17)).toNatClampNeg ((σ57 95 (x10_51 + (nI 17)).toNatClampNeg) + (σ57 95 x10_51.toNatClampNeg)) → (wM_heard_b210 Q K127 (wM_heard_l137 Q K127 n) x1 x2 x3 x4 x5 x7 x8 x9 x10_51 x11_53 σ61)))))) ∧ (¬ (r57 = x11_53) → (wM_heard_b210 Q K127 (wM_heard_l137 Q K127 n) x1 x2 x3 x4 x5 x7 x8 x9 x10_51 x11_53 σ57))))))))) := h
    refine v_iload hC 8 dX7_heard_137 rfl ?_
    refine v_iload hC 7 dX7_heard_139 rfl ?_
    refine v_icmp_gt hC 269 dX7_heard_141 (by decide) (fun c49 => ?_) (fun c49 => ?_)
    · replace h := h.1 c49
      refine v_iincN hC (nI 1) 7 dX7_heard_269 rfl rfl (by decide) (lo2 := fun x8_50 => [(8, .int x8_50), (0, .ref (xad X 82)), (1, .int x1), (2, .int x2), (3, .int x3), (4, .int x4), (5, .int x5), (7, .int x7), (9, .int x9)]) (fun _ => rfl) (fun x8_50 e50 => ?_)
      replace h := h x8_50 e50
      refine v_goto hC 127 dX7_heard_272 (by decide) ?_
      exact V.sub [1, 2, 3, 4, 5, 6, 7, 0] rfl (hK127 _ _ _ _ _ _ _ _ h)
    · replace h := h.2 c49
      refine v_bipush hC (nI 17) dX7_heard_144 rfl ?_
      refine v_iload hC 8 dX7_heard_146 rfl ?_
      refine v_imul hC dX7_heard_148 ?_
      refine v_iload hC 7 dX7_heard_149 rfl ?_
      refine v_iadd hC dX7_heard_151 ?_
      refine v_iload hC 8 dX7_heard_152 rfl ?_
      refine v_isub hC dX7_heard_154 ?_
      refine v_istoreN hC dX7_heard_155 (by decide) (lo2 := fun x10_51 => [(10, .int x10_51), (0, .ref (xad X 82)), (1, .int x1), (2, .int x2), (3, .int x3), (4, .int x4), (5, .int x5), (7, .int x7), (8, .int x8), (9, .int x9)]) (fun _ => rfl) (fun x10_51 e51 => ?_)
      replace h := h x10_51 e51
      refine v_aload_n hC 1 dX7_heard_157 rfl ?_
      refine gf_X7_16 hC dX7_heard_158 ?_
      refine v_bipush hC (nI 40) dX7_heard_161 rfl ?_
      refine v_iload_n hC 3 dX7_heard_163 rfl ?_
      refine v_imul hC dX7_heard_164 ?_
      refine v_iload_n hC 4 dX7_heard_165 rfl ?_
      refine v_iadd hC dX7_heard_166 ?_
      refine v_iload hC 8 dX7_heard_167 rfl ?_
      refine v_iadd hC dX7_heard_169 ?_
      obtain ⟨hi52, h⟩ := h
      refine v_iald hC (Nat.le_of_ble_eq_true rfl) rfl rfl hi52 dX7_heard_170 ?_
      refine v_istoreN hC dX7_heard_171 (by decide) (lo2 := fun x11_53 => [(11, .int x11_53), (10, .int x10_51), (0, .ref (xad X 82)), (1, .int x1), (2, .int x2), (3, .int x3), (4, .int x4), (5, .int x5), (7, .int x7), (8, .int x8), (9, .int x9)]) (fun _ => rfl) (fun x11_53 e53 => ?_)
      replace h := h x11_53 e53
      refine v_aload_n hC 2 dX7_heard_173 rfl ?_
      refine v_aload_n hC 2 dX7_heard_174 rfl ?_
      refine v_iload hC 10 dX7_heard_175 rfl ?_
      refine v_callV hC (kM_heap _ _ _ h) cmM_heap ⟨kw1148, kw52⟩ kw1146 ⟨Nat.le_of_ble_eq_true rfl, Nat.le_of_ble_eq_true rfl⟩ (Nat.le_of_ble_eq_true rfl) rfl (ci := 7) (T := TX7) (N := 30) rfl (As := fun G => [.int x9]) (fun _ => rfl) (fun _ => rfl) (st := [.ref (xad X 82)]) (Nat.le_of_ble_eq_true rfl) rfl dX7_heard_177 (kk_i (fun r55 σ55 h => ?_))
      refine v_iload_n hC 3 dX7_heard_180 rfl ?_
      refine v_iconst hC (nI 0) dX7_heard_181 rfl ?_
      refine v_callV hC (kM_worthOf _ _ _ _ _ h) cmM_worthOf ⟨kw1160, kw55⟩ kw1158 ⟨Nat.le_of_ble_eq_true rfl, Nat.le_of_ble_eq_true rfl⟩ (Nat.le_of_ble_eq_true rfl) rfl (ci := 7) (T := TX7) (N := 30) rfl (As := fun G => [.int r55, .int x1, .int (nI 0)]) (fun _ => rfl) (fun _ => rfl) (st := []) (Nat.le_of_ble_eq_true rfl) rfl dX7_heard_182 (kk_i (fun r57 σ57 h => ?_))
      refine v_iload hC 0 dX7_heard_185 rfl ?_
      refine v_icmp_ne hC 210 dX7_heard_187 (by decide) (fun c58 => ?_) (fun c58 => ?_)
      · replace h := h.2 c58
        exact V.sub [2, 3, 4, 5, 6, 7, 8, 9, 10, 1, 0] rfl (tM_heard_b210 hC hR hK127 ih _ _ _ _ _ _ _ _ _ _ _ h)
      · replace h := h.1 c58
        refine v_aload_n hC 2 dX7_heard_190 rfl ?_
        refine gf_X7_47 hC dX7_heard_191 ?_
        refine v_iload hC 1 dX7_heard_194 rfl ?_
        refine v_bipush hC (nI 17) dX7_heard_196 rfl ?_
        refine v_iadd hC dX7_heard_198 ?_
        refine v_dup2 hC dX7_heard_199 rfl rfl ?_
        obtain ⟨hi59, h⟩ := h
        refine v_iald hC (Nat.le_of_ble_eq_true rfl) rfl rfl hi59 dX7_heard_200 ?_
        refine v_aload_n hC 2 dX7_heard_201 rfl ?_
        refine gf_X7_47 hC dX7_heard_202 ?_
        refine v_iload hC 1 dX7_heard_205 rfl ?_
        obtain ⟨hi60, h⟩ := h
        refine v_iald hC (Nat.le_of_ble_eq_true rfl) rfl rfl hi60 dX7_heard_207 ?_
        refine v_iadd hC dX7_heard_208 ?_
        obtain ⟨hi61, h⟩ := h
        refine v_iast hC (Nat.le_of_ble_eq_true rfl) rfl rfl hi61 dX7_heard_209 (fun σ61 e61 => ?_)
        replace h := h σ61 e61
        exact V.sub [2, 3, 4, 5, 6, 7, 8, 9, 10, 1, 0] rfl (tM_heard_b210 hC hR hK127 ih _ _ _ _ _ _ _ _ _ _ _ h)
set_option maxHeartbeats 4000000 in
set_option maxRecDepth 100000 in
theorem tM_heard_l127 {X : gX} {Q : Int32 → gM → Prop} (hC : VC X cX7_heard RX7 14 rmM_heard) (hR : VR X (some .int) (gPi Q))  : ∀ (n : Nat) (x1 : Int32) (x2 : Int32) (x3 : Int32) (x4 : Int32) (x5 : Int32) (x7 : Int32) (x8 : Int32) (σ : gM), wM_heard_l127 Q  n x1 x2 x3 x4 x5 x7 x8 σ → V X 14 127 [(0, .ref (xad X 82)), (1, .int x1), (2, .int x2), (3, .int x3), (4, .int x4), (5, .int x5), (7, .int x7), (8, .int x8)] [] σ := by
  intro n
  induction n with
  | zero => intro x1 x2 x3 x4 x5 x7 x8 σ h; exact h.elim
  | succ n ih =>
    intro x1 x2 x3 x4 x5 x7 x8 σ h
    replace h : (x4 ≤ x8 → (∃ n48 : Nat, wM_heard_l284 Q n48 x4 x5 x7 (nI 0) (-1 : Int32) (nI 0) σ)) ∧ (¬ (x4 ≤ x8) → (∃ n74 : Nat, wM_heard_l137 Q (wM_heard_l127 Q n) n74 x1 x2 x3 x4 x5 x7 x8 (nI 0) σ)) := h
    refine v_iload hC 7 dX7_heard_127 rfl ?_
    refine v_iload hC 4 dX7_heard_129 rfl ?_
    refine v_icmp_ge hC 275 dX7_heard_131 (by decide) (fun c21 => ?_) (fun c21 => ?_)
    · replace h := h.1 c21
      refine v_iconst hC (nI 0) dX7_heard_275 rfl ?_
      refine v_istore hC dX7_heard_276 (by decide) rfl ?_
      refine v_iconst hC (-1 : Int32) dX7_heard_278 rfl ?_
      refine v_istore hC dX7_heard_279 (by decide) rfl ?_
      refine v_iconst hC (nI 0) dX7_heard_281 rfl ?_
      refine v_istore hC dX7_heard_282 (by decide) rfl ?_
      obtain ⟨n48, h⟩ := h
      exact V.sub [3, 7, 8, 9, 2, 1, 0] rfl (tM_heard_l284 hC hR  n48 _ _ _ _ _ _ _ h)
    · replace h := h.2 c21
      refine v_iconst hC (nI 0) dX7_heard_134 rfl ?_
      refine v_istore hC dX7_heard_135 (by decide) rfl ?_
      obtain ⟨n74, h⟩ := h
      exact V.sub [1, 2, 3, 4, 5, 6, 7, 8, 0] rfl (tM_heard_l137 hC hR ih n74 _ _ _ _ _ _ _ _ _ h)
set_option maxHeartbeats 4000000 in
set_option maxRecDepth 100000 in
theorem tM_heard_l95 {X : gX} {Q : Int32 → gM → Prop} (hC : VC X cX7_heard RX7 14 rmM_heard) (hR : VR X (some .int) (gPi Q))  : ∀ (n : Nat) (x1 : Int32) (x2 : Int32) (x3 : Int32) (x4 : Int32) (x5 : Int32) (x7 : Int32) (x8 : Int32) (σ : gM), wM_heard_l95 Q  n x1 x2 x3 x4 x5 x7 x8 σ → V X 14 95 [(0, .ref (xad X 82)), (1, .int x1), (2, .int x2), (3, .int x3), (4, .int x4), (5, .int x5), (7, .int x7), (8, .int x8)] [] σ := by
  intro n
  induction n with
  | zero => intro x1 x2 x3 x4 x5 x7 x8 σ h; exact h.elim
  | succ n ih =>
    intro x1 x2 x3 x4 x5 x7 x8 σ h
    replace h : ((nI 289) ≤ x8 → (∀ σ20 : gM, σ20 = gU σ 95 0 (nI 1) → (∃ n75 : Nat, wM_heard_l127 Q n75 x1 x2 x3 x4 x5 x7 (nI 0) σ20))) ∧ (¬ ((nI 289) ≤ x8) → (vp_in x8 289 ∧ (∀ σ76 : gM, σ76 = gU σ 95 x8.toNatClampNeg (nI 0) → (∀ x8_77 : Int32, x8_77 = x8 + (nI 1) → (wM_heard_l95 Q n x1 x2 x3 x4 x5 x7 x8_77 σ76))))) := h
    refine v_iload hC 7 dX7_heard_95 rfl ?_
    refine v_sipush hC (nI 289) dX7_heard_97 rfl ?_
    refine v_icmp_ge hC 117 dX7_heard_100 (by decide) (fun c19 => ?_) (fun c19 => ?_)
    · replace h := h.1 c19
      refine v_aload_n hC 0 dX7_heard_117 rfl ?_
      refine gf_X7_47 hC dX7_heard_118 ?_
      refine v_iconst hC (nI 0) dX7_heard_121 rfl ?_
      refine v_iconst hC (nI 1) dX7_heard_122 rfl ?_
      refine v_iast hC (Nat.le_of_ble_eq_true rfl) rfl (j := 0) (by decide) (by unfold vp_in; decide) dX7_heard_123 (fun σ20 e20 => ?_)
      replace h := h σ20 e20
      refine v_iconst hC (nI 0) dX7_heard_124 rfl ?_
      refine v_istore hC dX7_heard_125 (by decide) rfl ?_
      obtain ⟨n75, h⟩ := h
      exact V.sub [1, 2, 3, 4, 5, 6, 7, 0] rfl (tM_heard_l127 hC hR  n75 _ _ _ _ _ _ _ _ h)
    · replace h := h.2 c19
      refine v_aload_n hC 0 dX7_heard_103 rfl ?_
      refine gf_X7_47 hC dX7_heard_104 ?_
      refine v_iload hC 7 dX7_heard_107 rfl ?_
      refine v_iconst hC (nI 0) dX7_heard_109 rfl ?_
      obtain ⟨hi76, h⟩ := h
      refine v_iast hC (Nat.le_of_ble_eq_true rfl) rfl rfl hi76 dX7_heard_110 (fun σ76 e76 => ?_)
      replace h := h σ76 e76
      refine v_iincN hC (nI 1) 7 dX7_heard_111 rfl rfl (by decide) (lo2 := fun x8_77 => [(8, .int x8_77), (0, .ref (xad X 82)), (1, .int x1), (2, .int x2), (3, .int x3), (4, .int x4), (5, .int x5), (7, .int x7)]) (fun _ => rfl) (fun x8_77 e77 => ?_)
      replace h := h x8_77 e77
      refine v_goto hC 95 dX7_heard_114 (by decide) ?_
      exact V.sub [1, 2, 3, 4, 5, 6, 7, 0] rfl (ih _ _ _ _ _ _ _ _ h)
set_option maxHeartbeats 4000000 in
set_option maxRecDepth 100000 in
theorem kM_heard (x1 : Int32) (x2 : Int32) (x3 : Int32) (x4 : Int32) (x5 : Int32) (σ : gM) (Q : Int32 → gM → Prop) (h : wM_heard x1 x2 x3 x4 x5 σ Q) : CT yX7_heard cX7_heard 14 (some .int) rmM_heard (fun G => [.ref (gad G 82), .int x1, .int x2, .int x3, .int x4, .int x5]) σ (gPi Q) := by
  refine c_enter (by decide) (fun _ => Nat.le_of_ble_eq_true rfl) (fun X hC hR => ?_)
  show V X 14 0 [(0, .ref (xad X 82)), (1, .int x1), (2, .int x2), (3, .int x3), (4, .int x4), (5, .int x5)] [] σ
  replace h : wM_isBuyerAt x1 σ (fun (r2 : Int32) (σ2 : gM) => (r2 = nI 0 → (Q (-1000001 : Int32) σ2)) ∧ (¬ (r2 = nI 0) → (wM_isRow x2 σ2 (fun (r5 : Int32) (σ5 : gM) => (r5 = nI 0 → (Q (-1000001 : Int32) σ5)) ∧ (¬ (r5 = nI 0) → (wM_in x4 (nI 1) (nI 10) σ5 (fun (r8 : Int32) (σ8 : gM) => (r8 = nI 0 → (Q (-1000001 : Int32) σ8)) ∧ (¬ (r8 = nI 0) → (wM_in x5 (nI 0) (nI 1) σ8 (fun (r11 : Int32) (σ11 : gM) => (r11 = nI 0 → (Q (-1000001 : Int32) σ11)) ∧ (¬ (r11 = nI 0) → (wM_whyNot x2 x3 x4 σ11 (fun (r14 : Int32) (σ14 : gM) => (r14 = nI 0 → (∀ x7_17 : Int32, x7_17 = (σ14 89 5) → ((x4 ≤ x7_17 → (∃ n78 : Nat, wM_heard_l95 Q n78 x1 x2 x3 x4 x5 x7_17 (nI 0) σ14)) ∧ (¬ (x4 ≤ x7_17) → (∀ v80 : Int32, v80 = (if x5 = nI 0 then (nI 0) else (-1000000 : Int32)) → (wM_did v80 σ14 (fun (r82 : Int32) (σ82 : gM) => Q r82 σ82))))))) ∧ (¬ (r14 = nI 0) → (wM_finds r14 σ14 (fun (r84 : Int32) (σ84 : gM) => Q r84 σ84)))))))))))))))) := h
  refine v_aload_n hC 0 dX7_heard_0 rfl ?_
  refine v_iload_n hC 1 dX7_heard_1 rfl ?_
  refine v_callV hC (kM_isBuyerAt _ _ _ h) cmM_isBuyerAt ⟨kw1143, kw51⟩ kw1141 ⟨Nat.le_of_ble_eq_true rfl, Nat.le_of_ble_eq_true rfl⟩ (Nat.le_of_ble_eq_true rfl) rfl (ci := 7) (T := TX7) (N := 30) rfl (As := fun G => [.int x1]) (fun _ => rfl) (fun _ => rfl) (st := []) (Nat.le_of_ble_eq_true rfl) rfl dX7_heard_2 (kk_i (fun r2 σ2 h => ?_))
  refine v_if_eq hC 36 dX7_heard_5 (by decide) (fun c3 => ?_) (fun c3 => ?_)
  · replace h := h.1 c3
    refine v_ldc hC kw1053 dX7_heard_36 ?_
    exact v_iret hC hR h dX7_heard_38
  · replace h := h.2 c3
    refine v_iload_n hC 2 dX7_heard_8 rfl ?_
    refine v_callS hC (kM_isRow _ _ _ h) cmM_isRow kw1048 kw1047 ⟨Nat.le_of_ble_eq_true rfl, Nat.le_of_ble_eq_true rfl⟩ (fun _ => rfl) (st := []) (Nat.le_of_ble_eq_true rfl) rfl dX7_heard_9 (kk_i (fun r5 σ5 h => ?_))
    refine v_if_eq hC 36 dX7_heard_12 (by decide) (fun c6 => ?_) (fun c6 => ?_)
    · replace h := h.1 c6
      refine v_ldc hC kw1053 dX7_heard_36 ?_
      exact v_iret hC hR h dX7_heard_38
    · replace h := h.2 c6
      refine v_iload hC 4 dX7_heard_15 rfl ?_
      refine v_iconst hC (nI 1) dX7_heard_17 rfl ?_
      refine v_bipush hC (nI 10) dX7_heard_18 rfl ?_
      refine v_callS hC (kM_in _ _ _ _ _ h) cmM_in kw1051 kw1050 ⟨Nat.le_of_ble_eq_true rfl, Nat.le_of_ble_eq_true rfl⟩ (fun _ => rfl) (st := []) (Nat.le_of_ble_eq_true rfl) rfl dX7_heard_20 (kk_i (fun r8 σ8 h => ?_))
      refine v_if_eq hC 36 dX7_heard_23 (by decide) (fun c9 => ?_) (fun c9 => ?_)
      · replace h := h.1 c9
        refine v_ldc hC kw1053 dX7_heard_36 ?_
        exact v_iret hC hR h dX7_heard_38
      · replace h := h.2 c9
        refine v_iload hC 5 dX7_heard_26 rfl ?_
        refine v_iconst hC (nI 0) dX7_heard_28 rfl ?_
        refine v_iconst hC (nI 1) dX7_heard_29 rfl ?_
        refine v_callS hC (kM_in _ _ _ _ _ h) cmM_in kw1051 kw1050 ⟨Nat.le_of_ble_eq_true rfl, Nat.le_of_ble_eq_true rfl⟩ (fun _ => rfl) (st := []) (Nat.le_of_ble_eq_true rfl) rfl dX7_heard_30 (kk_i (fun r11 σ11 h => ?_))
        refine v_if_ne hC 39 dX7_heard_33 (by decide) (fun c12 => ?_) (fun c12 => ?_)
        · replace h := h.2 c12
          refine v_aload_n hC 0 dX7_heard_39 rfl ?_
          refine v_iload_n hC 2 dX7_heard_40 rfl ?_
          refine v_iload_n hC 3 dX7_heard_41 rfl ?_
          refine v_iload hC 4 dX7_heard_42 rfl ?_
          refine v_callV hC (kM_whyNot _ _ _ _ _ h) cmM_whyNot ⟨kw1259, kw68⟩ kw1257 ⟨Nat.le_of_ble_eq_true rfl, Nat.le_of_ble_eq_true rfl⟩ (Nat.le_of_ble_eq_true rfl) rfl (ci := 7) (T := TX7) (N := 30) rfl (As := fun G => [.int x2, .int x3, .int x4]) (fun _ => rfl) (fun _ => rfl) (st := []) (Nat.le_of_ble_eq_true rfl) rfl dX7_heard_44 (kk_i (fun r14 σ14 h => ?_))
          refine v_istore hC dX7_heard_47 (by decide) rfl ?_
          refine v_iload hC 0 dX7_heard_49 rfl ?_
          refine v_if_eq hC 61 dX7_heard_51 (by decide) (fun c15 => ?_) (fun c15 => ?_)
          · replace h := h.1 c15
            refine v_aload_n hC 1 dX7_heard_61 rfl ?_
            refine gf_X7_28 hC dX7_heard_62 ?_
            refine v_iconst hC (nI 5) dX7_heard_65 rfl ?_
            refine v_iald hC (Nat.le_of_ble_eq_true rfl) rfl (j := 5) (by decide) (by unfold vp_in; decide) dX7_heard_66 ?_
            refine v_istoreN hC dX7_heard_67 (by decide) (lo2 := fun x7_17 => [(7, .int x7_17), (6, .int r14), (0, .ref (xad X 82)), (1, .int x1), (2, .int x2), (3, .int x3), (4, .int x4), (5, .int x5)]) (fun _ => rfl) (fun x7_17 e17 => ?_)
            replace h := h x7_17 e17
            refine v_iload hC 6 dX7_heard_69 rfl ?_
            refine v_iload hC 0 dX7_heard_71 rfl ?_
            refine v_icmp_le hC 92 dX7_heard_73 (by decide) (fun c18 => ?_) (fun c18 => ?_)
            · replace h := h.1 c18
              refine v_iconst hC (nI 0) dX7_heard_92 rfl ?_
              refine v_istore hC dX7_heard_93 (by decide) rfl ?_
              obtain ⟨n78, h⟩ := h
              exact V.sub [3, 4, 5, 6, 7, 8, 1, 0] rfl (tM_heard_l95 hC hR  n78 _ _ _ _ _ _ _ _ h)
            · replace h := h.2 c18
              refine v_aload_n hC 2 dX7_heard_76 rfl ?_
              refine v_iload hC 7 dX7_heard_77 rfl ?_
              have J79 : ∀ (v80 : Int32) (ev80 : v80 = (if x5 = nI 0 then (nI 0) else (-1000000 : Int32))), V X 14 88 [] [.int v80, .ref (xad X 82)] σ14 := by
                intro v80 ev80
                replace h := h v80 ev80
                refine v_callV hC (kM_did _ _ _ h) cmM_did ⟨kw1061, kw42⟩ kw1059 ⟨Nat.le_of_ble_eq_true rfl, Nat.le_of_ble_eq_true rfl⟩ (Nat.le_of_ble_eq_true rfl) rfl (ci := 7) (T := TX7) (N := 30) rfl (As := fun G => [.int v80]) (fun _ => rfl) (fun _ => rfl) (st := []) (Nat.le_of_ble_eq_true rfl) rfl dX7_heard_88 (kk_i (fun r82 σ82 h => ?_))
                exact v_iret hC hR h dX7_heard_91
              refine v_if_ne hC 86 dX7_heard_79 (by decide) (fun c79 => ?_) (fun c79 => ?_)
              · refine v_ldc hC kw1132 dX7_heard_86 ?_
                exact V.sub [] rfl (J79 _ (by rw [if_neg c79]))
              · refine v_iconst hC (nI 0) dX7_heard_82 rfl ?_
                refine v_goto hC 88 dX7_heard_83 (by decide) ?_
                exact V.sub [] rfl (J79 _ (by rw [if_pos c79]))
          · replace h := h.2 c15
            refine v_aload_n hC 1 dX7_heard_54 rfl ?_
            refine v_iload hC 0 dX7_heard_55 rfl ?_
            refine v_callV hC (kM_finds _ _ _ h) cmM_finds ⟨kw1056, kw41⟩ kw1054 ⟨Nat.le_of_ble_eq_true rfl, Nat.le_of_ble_eq_true rfl⟩ (Nat.le_of_ble_eq_true rfl) rfl (ci := 7) (T := TX7) (N := 30) rfl (As := fun G => [.int r14]) (fun _ => rfl) (fun _ => rfl) (st := []) (Nat.le_of_ble_eq_true rfl) rfl dX7_heard_57 (kk_i (fun r84 σ84 h => ?_))
            exact v_iret hC hR h dX7_heard_60
        · replace h := h.1 c12
          refine v_ldc hC kw1053 dX7_heard_36 ?_
          exact v_iret hC hR h dX7_heard_38
theorem cmM_heard : CM yX7_heard cX7_heard 14 (some .int) rmM_heard 5 := ⟨kw82, kw1283, rfl, rfl, by decide, by decide, by decide +kernel⟩
def rmM_mostOf : Room := { frames := 3, cells := 0, slots := 0, locals := 69 }
def wM_mostOf_l19 (Q : Int32 → gM → Prop) (K6 : Int32 → Int32 → Int32 → Int32 → Int32 → Int32 → gM → Prop) : Nat → Int32 → Int32 → Int32 → Int32 → Int32 → Int32 → Int32 → Int32 → gM → Prop
  | 0, _, _, _, _, _, _, _, _, _ => False
  | n + 1, x1, x2, x3, x4, x5, x6, x7, x8, σ =>
    (x3 ≤ x8 → (∀ v4 : Int32, v4 = (if x7 ≤ x5 then x5 else x7) → (∀ x6_5 : Int32, x6_5 = x6 + (nI 1) → (K6 x1 x2 x3 x4 v4 x6_5 σ)))) ∧ (¬ (x3 ≤ x8) → ((x8 < (x2 + x6) → (wM_heap x8 σ (fun (r8 : Int32) (σ8 : gM) => wM_worthOf r8 x1 (nI 0) σ8 (fun (r10 : Int32) (σ10 : gM) => ∀ x7_11 : Int32, x7_11 = (x7 + r10) → (∀ x8_12 : Int32, x8_12 = x8 + (nI 1) → (wM_mostOf_l19 Q K6 n x1 x2 x3 x4 x5 x6 x7_11 x8_12 σ10)))))) ∧ (¬ (x8 < (x2 + x6)) → ((x8 < ((x3 - x4) + x6) → (∀ x7_14 : Int32, x7_14 = (x7 + (nI 0)) → (∀ x8_15 : Int32, x8_15 = x8 + (nI 1) → (wM_mostOf_l19 Q K6 n x1 x2 x3 x4 x5 x6 x7_14 x8_15 σ)))) ∧ (¬ (x8 < ((x3 - x4) + x6)) → (wM_heap x8 σ (fun (r17 : Int32) (σ17 : gM) => wM_worthOf r17 x1 (nI 0) σ17 (fun (r19 : Int32) (σ19 : gM) => ∀ x7_20 : Int32, x7_20 = (x7 + r19) → (∀ x8_21 : Int32, x8_21 = x8 + (nI 1) → (wM_mostOf_l19 Q K6 n x1 x2 x3 x4 x5 x6 x7_20 x8_21 σ19))))))))))
def wM_mostOf_l6 (Q : Int32 → gM → Prop)  : Nat → Int32 → Int32 → Int32 → Int32 → Int32 → Int32 → gM → Prop
  | 0, _, _, _, _, _, _, _ => False
  | n + 1, x1, x2, x3, x4, x5, x6, σ =>
    (x4 < x6 → (Q x5 σ)) ∧ (¬ (x4 < x6) → (∃ n22 : Nat, wM_mostOf_l19 Q (wM_mostOf_l6 Q n) n22 x1 x2 x3 x4 x5 x6 (nI 0) x2 σ))
def wM_mostOf (x1 : Int32) (x2 : Int32) (x3 : Int32) (x4 : Int32) (σ : gM) (Q : Int32 → gM → Prop) : Prop :=
    ∃ n23 : Nat, wM_mostOf_l6 Q n23 x1 x2 x3 x4 (nI 0) (nI 0) σ
set_option maxHeartbeats 4000000 in
set_option maxRecDepth 100000 in
theorem tM_mostOf_l19 {X : gX} {Q : Int32 → gM → Prop} (hC : VC X cX7_mostOf RX7 9 rmM_mostOf) (hR : VR X (some .int) (gPi Q)) {K6 : Int32 → Int32 → Int32 → Int32 → Int32 → Int32 → gM → Prop} (hK6 : ∀ (x1 : Int32) (x2 : Int32) (x3 : Int32) (x4 : Int32) (x5 : Int32) (x6 : Int32) (σ : gM), K6 x1 x2 x3 x4 x5 x6 σ → V X 9 6 [(0, .ref (xad X 82)), (1, .int x1), (2, .int x2), (3, .int x3), (4, .int x4), (5, .int x5), (6, .int x6)] [] σ) : ∀ (n : Nat) (x1 : Int32) (x2 : Int32) (x3 : Int32) (x4 : Int32) (x5 : Int32) (x6 : Int32) (x7 : Int32) (x8 : Int32) (σ : gM), wM_mostOf_l19 Q K6 n x1 x2 x3 x4 x5 x6 x7 x8 σ → V X 9 19 [(0, .ref (xad X 82)), (1, .int x1), (2, .int x2), (3, .int x3), (4, .int x4), (5, .int x5), (6, .int x6), (7, .int x7), (8, .int x8)] [] σ := by
  intro n
  induction n with
  | zero => intro x1 x2 x3 x4 x5 x6 x7 x8 σ h; exact h.elim
  | succ n ih =>
    intro x1 x2 x3 x4 x5 x6 x7 x8 σ h
    replace h : (x3 ≤ x8 → (∀ v4 : Int32, v4 = (if x7 ≤ x5 then x5 else x7) → (∀ x6_5 : Int32, x6_5 = x6 + (nI 1) → (K6 x1 x2 x3 x4 v4 x6_5 σ)))) ∧ (¬ (x3 ≤ x8) → ((x8 < (x2 + x6) → (wM_heap x8 σ (fun (r8 : Int32) (σ8 : gM) => wM_worthOf r8 x1 (nI 0) σ8 (fun (r10 : Int32) (σ10 : gM) => ∀ x7_11 : Int32, x7_11 = (x7 + r10) → (∀ x8_12 : Int32, x8_12 = x8 + (nI 1) → (wM_mostOf_l19 Q K6 n x1 x2 x3 x4 x5 x6 x7_11 x8_12 σ10)))))) ∧ (¬ (x8 < (x2 + x6)) → ((x8 < ((x3 - x4) + x6) → (∀ x7_14 : Int32, x7_14 = (x7 + (nI 0)) → (∀ x8_15 : Int32, x8_15 = x8 + (nI 1) → (wM_mostOf_l19 Q K6 n x1 x2 x3 x4 x5 x6 x7_14 x8_15 σ)))) ∧ (¬ (x8 < ((x3 - x4) + x6)) → (wM_heap x8 σ (fun (r17 : Int32) (σ17 : gM) => wM_worthOf r17 x1 (nI 0) σ17 (fun (r19 : Int32) (σ19 : gM) => ∀ x7_20 : Int32, x7_20 = (x7 + r19) → (∀ x8_21 : Int32, x8_21 = x8 + (nI 1) → (wM_mostOf_l19 Q K6 n x1 x2 x3 x4 x5 x6 x7_20 x8_21 σ19)))))))))) := h
    refine v_iload hC 8 dX7_mostOf_19 rfl ?_
    refine v_iload_n hC 3 dX7_mostOf_21 rfl ?_
    refine v_icmp_ge hC 73 dX7_mostOf_22 (by decide) (fun c2 => ?_) (fun c2 => ?_)
    · replace h := h.1 c2
      refine v_iload hC 7 dX7_mostOf_73 rfl ?_
      refine v_iload hC 5 dX7_mostOf_75 rfl ?_
      have J3 : ∀ (v4 : Int32) (ev4 : v4 = (if x7 ≤ x5 then x5 else x7)), V X 9 87 [(0, .ref (xad X 82)), (1, .int x1), (2, .int x2), (3, .int x3), (4, .int x4), (6, .int x6)] [.int v4] σ := by
        intro v4 ev4
        replace h := h v4 ev4
        refine v_istore hC dX7_mostOf_87 (by decide) rfl ?_
        refine v_iincN hC (nI 1) 6 dX7_mostOf_89 rfl rfl (by decide) (lo2 := fun x6_5 => [(6, .int x6_5), (5, .int v4), (0, .ref (xad X 82)), (1, .int x1), (2, .int x2), (3, .int x3), (4, .int x4)]) (fun _ => rfl) (fun x6_5 e5 => ?_)
        replace h := h x6_5 e5
        refine v_goto hC 6 dX7_mostOf_92 (by decide) ?_
        exact V.sub [2, 3, 4, 5, 6, 1, 0] rfl (hK6 _ _ _ _ _ _ _ h)
      refine v_icmp_le hC 85 dX7_mostOf_77 (by decide) (fun c3 => ?_) (fun c3 => ?_)
      · refine v_iload hC 5 dX7_mostOf_85 rfl ?_
        exact V.sub [0, 1, 2, 3, 4, 6] rfl (J3 _ (by rw [if_pos c3]))
      · refine v_iload hC 7 dX7_mostOf_80 rfl ?_
        refine v_goto hC 87 dX7_mostOf_82 (by decide) ?_
        exact V.sub [0, 1, 2, 3, 4, 6] rfl (J3 _ (by rw [if_neg c3]))
    · replace h := h.2 c2
      refine v_iload hC 7 dX7_mostOf_25 rfl ?_
      refine v_iload hC 8 dX7_mostOf_27 rfl ?_
      refine v_iload_n hC 2 dX7_mostOf_29 rfl ?_
      refine v_iload hC 6 dX7_mostOf_30 rfl ?_
      refine v_iadd hC dX7_mostOf_32 ?_
      refine v_icmp_lt hC 48 dX7_mostOf_33 (by decide) (fun c6 => ?_) (fun c6 => ?_)
      · replace h := h.1 c6
        refine v_aload_n hC 0 dX7_mostOf_48 rfl ?_
        refine v_aload_n hC 0 dX7_mostOf_49 rfl ?_
        refine v_iload hC 8 dX7_mostOf_50 rfl ?_
        refine v_callV hC (kM_heap _ _ _ h) cmM_heap ⟨kw1148, kw52⟩ kw1146 ⟨Nat.le_of_ble_eq_true rfl, Nat.le_of_ble_eq_true rfl⟩ (Nat.le_of_ble_eq_true rfl) rfl (ci := 7) (T := TX7) (N := 30) rfl (As := fun G => [.int x8]) (fun _ => rfl) (fun _ => rfl) (st := [.ref (xad X 82), .int x7]) (Nat.le_of_ble_eq_true rfl) rfl dX7_mostOf_52 (kk_i (fun r8 σ8 h => ?_))
        refine v_iload_n hC 1 dX7_mostOf_55 rfl ?_
        refine v_iconst hC (nI 0) dX7_mostOf_56 rfl ?_
        refine v_callV hC (kM_worthOf _ _ _ _ _ h) cmM_worthOf ⟨kw1160, kw55⟩ kw1158 ⟨Nat.le_of_ble_eq_true rfl, Nat.le_of_ble_eq_true rfl⟩ (Nat.le_of_ble_eq_true rfl) rfl (ci := 7) (T := TX7) (N := 30) rfl (As := fun G => [.int r8, .int x1, .int (nI 0)]) (fun _ => rfl) (fun _ => rfl) (st := [.int x7]) (Nat.le_of_ble_eq_true rfl) rfl dX7_mostOf_57 (kk_i (fun r10 σ10 h => ?_))
        refine v_goto hC 64 dX7_mostOf_60 (by decide) ?_
        refine v_iadd hC dX7_mostOf_64 ?_
        refine v_istoreN hC dX7_mostOf_65 (by decide) (lo2 := fun x7_11 => [(7, .int x7_11), (0, .ref (xad X 82)), (1, .int x1), (2, .int x2), (3, .int x3), (4, .int x4), (5, .int x5), (6, .int x6), (8, .int x8)]) (fun _ => rfl) (fun x7_11 e11 => ?_)
        replace h := h x7_11 e11
        refine v_iincN hC (nI 1) 8 dX7_mostOf_67 rfl rfl (by decide) (lo2 := fun x8_12 => [(8, .int x8_12), (7, .int x7_11), (0, .ref (xad X 82)), (1, .int x1), (2, .int x2), (3, .int x3), (4, .int x4), (5, .int x5), (6, .int x6)]) (fun _ => rfl) (fun x8_12 e12 => ?_)
        replace h := h x8_12 e12
        refine v_goto hC 19 dX7_mostOf_70 (by decide) ?_
        exact V.sub [2, 3, 4, 5, 6, 7, 8, 1, 0] rfl (ih _ _ _ _ _ _ _ _ _ h)
      · replace h := h.2 c6
        refine v_iload hC 8 dX7_mostOf_36 rfl ?_
        refine v_iload_n hC 3 dX7_mostOf_38 rfl ?_
        refine v_iload hC 4 dX7_mostOf_39 rfl ?_
        refine v_isub hC dX7_mostOf_41 ?_
        refine v_iload hC 6 dX7_mostOf_42 rfl ?_
        refine v_iadd hC dX7_mostOf_44 ?_
        refine v_icmp_lt hC 63 dX7_mostOf_45 (by decide) (fun c13 => ?_) (fun c13 => ?_)
        · replace h := h.1 c13
          refine v_iconst hC (nI 0) dX7_mostOf_63 rfl ?_
          refine v_iadd hC dX7_mostOf_64 ?_
          refine v_istoreN hC dX7_mostOf_65 (by decide) (lo2 := fun x7_14 => [(7, .int x7_14), (0, .ref (xad X 82)), (1, .int x1), (2, .int x2), (3, .int x3), (4, .int x4), (5, .int x5), (6, .int x6), (8, .int x8)]) (fun _ => rfl) (fun x7_14 e14 => ?_)
          replace h := h x7_14 e14
          refine v_iincN hC (nI 1) 8 dX7_mostOf_67 rfl rfl (by decide) (lo2 := fun x8_15 => [(8, .int x8_15), (7, .int x7_14), (0, .ref (xad X 82)), (1, .int x1), (2, .int x2), (3, .int x3), (4, .int x4), (5, .int x5), (6, .int x6)]) (fun _ => rfl) (fun x8_15 e15 => ?_)
          replace h := h x8_15 e15
          refine v_goto hC 19 dX7_mostOf_70 (by decide) ?_
          exact V.sub [2, 3, 4, 5, 6, 7, 8, 1, 0] rfl (ih _ _ _ _ _ _ _ _ _ h)
        · replace h := h.2 c13
          refine v_aload_n hC 0 dX7_mostOf_48 rfl ?_
          refine v_aload_n hC 0 dX7_mostOf_49 rfl ?_
          refine v_iload hC 8 dX7_mostOf_50 rfl ?_
          refine v_callV hC (kM_heap _ _ _ h) cmM_heap ⟨kw1148, kw52⟩ kw1146 ⟨Nat.le_of_ble_eq_true rfl, Nat.le_of_ble_eq_true rfl⟩ (Nat.le_of_ble_eq_true rfl) rfl (ci := 7) (T := TX7) (N := 30) rfl (As := fun G => [.int x8]) (fun _ => rfl) (fun _ => rfl) (st := [.ref (xad X 82), .int x7]) (Nat.le_of_ble_eq_true rfl) rfl dX7_mostOf_52 (kk_i (fun r17 σ17 h => ?_))
          refine v_iload_n hC 1 dX7_mostOf_55 rfl ?_
          refine v_iconst hC (nI 0) dX7_mostOf_56 rfl ?_
          refine v_callV hC (kM_worthOf _ _ _ _ _ h) cmM_worthOf ⟨kw1160, kw55⟩ kw1158 ⟨Nat.le_of_ble_eq_true rfl, Nat.le_of_ble_eq_true rfl⟩ (Nat.le_of_ble_eq_true rfl) rfl (ci := 7) (T := TX7) (N := 30) rfl (As := fun G => [.int r17, .int x1, .int (nI 0)]) (fun _ => rfl) (fun _ => rfl) (st := [.int x7]) (Nat.le_of_ble_eq_true rfl) rfl dX7_mostOf_57 (kk_i (fun r19 σ19 h => ?_))
          refine v_goto hC 64 dX7_mostOf_60 (by decide) ?_
          refine v_iadd hC dX7_mostOf_64 ?_
          refine v_istoreN hC dX7_mostOf_65 (by decide) (lo2 := fun x7_20 => [(7, .int x7_20), (0, .ref (xad X 82)), (1, .int x1), (2, .int x2), (3, .int x3), (4, .int x4), (5, .int x5), (6, .int x6), (8, .int x8)]) (fun _ => rfl) (fun x7_20 e20 => ?_)
          replace h := h x7_20 e20
          refine v_iincN hC (nI 1) 8 dX7_mostOf_67 rfl rfl (by decide) (lo2 := fun x8_21 => [(8, .int x8_21), (7, .int x7_20), (0, .ref (xad X 82)), (1, .int x1), (2, .int x2), (3, .int x3), (4, .int x4), (5, .int x5), (6, .int x6)]) (fun _ => rfl) (fun x8_21 e21 => ?_)
          replace h := h x8_21 e21
          refine v_goto hC 19 dX7_mostOf_70 (by decide) ?_
          exact V.sub [2, 3, 4, 5, 6, 7, 8, 1, 0] rfl (ih _ _ _ _ _ _ _ _ _ h)
set_option maxHeartbeats 4000000 in
set_option maxRecDepth 100000 in
theorem tM_mostOf_l6 {X : gX} {Q : Int32 → gM → Prop} (hC : VC X cX7_mostOf RX7 9 rmM_mostOf) (hR : VR X (some .int) (gPi Q))  : ∀ (n : Nat) (x1 : Int32) (x2 : Int32) (x3 : Int32) (x4 : Int32) (x5 : Int32) (x6 : Int32) (σ : gM), wM_mostOf_l6 Q  n x1 x2 x3 x4 x5 x6 σ → V X 9 6 [(0, .ref (xad X 82)), (1, .int x1), (2, .int x2), (3, .int x3), (4, .int x4), (5, .int x5), (6, .int x6)] [] σ := by
  intro n
  induction n with
  | zero => intro x1 x2 x3 x4 x5 x6 σ h; exact h.elim
  | succ n ih =>
    intro x1 x2 x3 x4 x5 x6 σ h
    replace h : (x4 < x6 → (Q x5 σ)) ∧ (¬ (x4 < x6) → (∃ n22 : Nat, wM_mostOf_l19 Q (wM_mostOf_l6 Q n) n22 x1 x2 x3 x4 x5 x6 (nI 0) x2 σ)) := h
    refine v_iload hC 6 dX7_mostOf_6 rfl ?_
    refine v_iload hC 4 dX7_mostOf_8 rfl ?_
    refine v_icmp_gt hC 95 dX7_mostOf_10 (by decide) (fun c1 => ?_) (fun c1 => ?_)
    · replace h := h.1 c1
      refine v_iload hC 5 dX7_mostOf_95 rfl ?_
      exact v_iret hC hR h dX7_mostOf_97
    · replace h := h.2 c1
      refine v_iconst hC (nI 0) dX7_mostOf_13 rfl ?_
      refine v_istore hC dX7_mostOf_14 (by decide) rfl ?_
      refine v_iload_n hC 3 dX7_mostOf_16 rfl ?_
      refine v_istore hC dX7_mostOf_17 (by decide) rfl ?_
      obtain ⟨n22, h⟩ := h
      exact V.sub [2, 3, 4, 5, 6, 7, 8, 1, 0] rfl (tM_mostOf_l19 hC hR ih n22 _ _ _ _ _ _ _ _ _ h)
set_option maxHeartbeats 4000000 in
set_option maxRecDepth 100000 in
theorem kM_mostOf (x1 : Int32) (x2 : Int32) (x3 : Int32) (x4 : Int32) (σ : gM) (Q : Int32 → gM → Prop) (h : wM_mostOf x1 x2 x3 x4 σ Q) : CT yX7_mostOf cX7_mostOf 9 (some .int) rmM_mostOf (fun G => [.ref (gad G 82), .int x1, .int x2, .int x3, .int x4]) σ (gPi Q) := by
  refine c_enter (by decide) (fun _ => Nat.le_of_ble_eq_true rfl) (fun X hC hR => ?_)
  show V X 9 0 [(0, .ref (xad X 82)), (1, .int x1), (2, .int x2), (3, .int x3), (4, .int x4)] [] σ
  replace h : ∃ n23 : Nat, wM_mostOf_l6 Q n23 x1 x2 x3 x4 (nI 0) (nI 0) σ := h
  refine v_iconst hC (nI 0) dX7_mostOf_0 rfl ?_
  refine v_istore hC dX7_mostOf_1 (by decide) rfl ?_
  refine v_iconst hC (nI 0) dX7_mostOf_3 rfl ?_
  refine v_istore hC dX7_mostOf_4 (by decide) rfl ?_
  obtain ⟨n23, h⟩ := h
  exact V.sub [2, 3, 4, 5, 6, 1, 0] rfl (tM_mostOf_l6 hC hR  n23 _ _ _ _ _ _ _ h)
theorem cmM_mostOf : CM yX7_mostOf cX7_mostOf 9 (some .int) rmM_mostOf 4 := ⟨kw82, kw1291, rfl, rfl, by decide, by decide, by decide +kernel⟩
def rmM_apart : Room := { frames := 4, cells := 0, slots := 0, locals := 97 }
def wM_apart_l45 (Q : Int32 → gM → Prop)  : Nat → Int32 → Int32 → Int32 → Int32 → Int32 → Int32 → gM → Prop
  | 0, _, _, _, _, _, _, _ => False
  | n + 1, x1, x2, x3, x4, x5, x6, σ =>
    (x3 < x6 → (Q x5 σ)) ∧ (¬ (x3 < x6) → ((x2 < x6 → (∀ x6_14 : Int32, x6_14 = x6 + (nI 1) → (wM_apart_l45 Q n x1 x2 x3 x4 x5 x6_14 σ))) ∧ (¬ (x2 < x6) → (((x4 - x2) < (x3 - x6) → (∀ x6_16 : Int32, x6_16 = x6 + (nI 1) → (wM_apart_l45 Q n x1 x2 x3 x4 x5 x6_16 σ))) ∧ (¬ ((x4 - x2) < (x3 - x6)) → (wM_mostOf x1 (nI 0) x2 x6 σ (fun (r18 : Int32) (σ18 : gM) => wM_mostOf x1 x2 x4 (x3 - x6) σ18 (fun (r20 : Int32) (σ20 : gM) => ∀ x7_21 : Int32, x7_21 = (r18 + r20) → (∀ v23 : Int32, v23 = (if x7_21 ≤ x5 then x5 else x7_21) → (∀ x6_24 : Int32, x6_24 = x6 + (nI 1) → (wM_apart_l45 Q n x1 x2 x3 x4 v23 x6_24 σ20)))))))))))
def wM_apart (x1 : Int32) (x2 : Int32) (x3 : Int32) (σ : gM) (Q : Int32 → gM → Prop) : Prop :=
    ∀ x4_2 : Int32, x4_2 = (σ 89 5) → (wM_isBuyerAt x1 σ (fun (r4 : Int32) (σ4 : gM) => (r4 = nI 0 → (Q (-1000001 : Int32) σ4)) ∧ (¬ (r4 = nI 0) → (wM_in x2 (nI 0) x4_2 σ4 (fun (r7 : Int32) (σ7 : gM) => (r7 = nI 0 → (Q (-1000001 : Int32) σ7)) ∧ (¬ (r7 = nI 0) → (wM_in x3 (nI 0) x4_2 σ7 (fun (r10 : Int32) (σ10 : gM) => (r10 = nI 0 → (Q (-1000001 : Int32) σ10)) ∧ (¬ (r10 = nI 0) → (∃ n25 : Nat, wM_apart_l45 Q n25 x1 x2 x3 x4_2 (nI 0) (nI 0) σ10))))))))))
set_option maxHeartbeats 4000000 in
set_option maxRecDepth 100000 in
theorem tM_apart_l45 {X : gX} {Q : Int32 → gM → Prop} (hC : VC X cX7_apart RX7 8 rmM_apart) (hR : VR X (some .int) (gPi Q))  : ∀ (n : Nat) (x1 : Int32) (x2 : Int32) (x3 : Int32) (x4 : Int32) (x5 : Int32) (x6 : Int32) (σ : gM), wM_apart_l45 Q  n x1 x2 x3 x4 x5 x6 σ → V X 8 45 [(0, .ref (xad X 82)), (1, .int x1), (2, .int x2), (3, .int x3), (4, .int x4), (5, .int x5), (6, .int x6)] [] σ := by
  intro n
  induction n with
  | zero => intro x1 x2 x3 x4 x5 x6 σ h; exact h.elim
  | succ n ih =>
    intro x1 x2 x3 x4 x5 x6 σ h
    replace h : (x3 < x6 → (Q x5 σ)) ∧ (¬ (x3 < x6) → ((x2 < x6 → (∀ x6_14 : Int32, x6_14 = x6 + (nI 1) → (wM_apart_l45 Q n x1 x2 x3 x4 x5 x6_14 σ))) ∧ (¬ (x2 < x6) → (((x4 - x2) < (x3 - x6) → (∀ x6_16 : Int32, x6_16 = x6 + (nI 1) → (wM_apart_l45 Q n x1 x2 x3 x4 x5 x6_16 σ))) ∧ (¬ ((x4 - x2) < (x3 - x6)) → (wM_mostOf x1 (nI 0) x2 x6 σ (fun (r18 : Int32) (σ18 : gM) => wM_mostOf x1 x2 x4 (x3 - x6) σ18 (fun (r20 : Int32) (σ20 : gM) => ∀ x7_21 : Int32, x7_21 = (r18 + r20) → (∀ v23 : Int32, v23 = (if x7_21 ≤ x5 then x5 else x7_21) → (∀ x6_24 : Int32, x6_24 = x6 + (nI 1) → (wM_apart_l45 Q n x1 x2 x3 x4 v23 x6_24 σ20))))))))))) := h
    refine v_iload hC 6 dX7_apart_45 rfl ?_
    refine v_iload_n hC 3 dX7_apart_47 rfl ?_
    refine v_icmp_gt hC 114 dX7_apart_48 (by decide) (fun c12 => ?_) (fun c12 => ?_)
    · replace h := h.1 c12
      refine v_iload hC 5 dX7_apart_114 rfl ?_
      exact v_iret hC hR h dX7_apart_116
    · replace h := h.2 c12
      refine v_iload hC 6 dX7_apart_51 rfl ?_
      refine v_iload_n hC 2 dX7_apart_53 rfl ?_
      refine v_icmp_gt hC 108 dX7_apart_54 (by decide) (fun c13 => ?_) (fun c13 => ?_)
      · replace h := h.1 c13
        refine v_iincN hC (nI 1) 6 dX7_apart_108 rfl rfl (by decide) (lo2 := fun x6_14 => [(6, .int x6_14), (0, .ref (xad X 82)), (1, .int x1), (2, .int x2), (3, .int x3), (4, .int x4), (5, .int x5)]) (fun _ => rfl) (fun x6_14 e14 => ?_)
        replace h := h x6_14 e14
        refine v_goto hC 45 dX7_apart_111 (by decide) ?_
        exact V.sub [1, 2, 3, 4, 5, 6, 0] rfl (ih _ _ _ _ _ _ _ h)
      · replace h := h.2 c13
        refine v_iload_n hC 3 dX7_apart_57 rfl ?_
        refine v_iload hC 6 dX7_apart_58 rfl ?_
        refine v_isub hC dX7_apart_60 ?_
        refine v_iload hC 4 dX7_apart_61 rfl ?_
        refine v_iload_n hC 2 dX7_apart_63 rfl ?_
        refine v_isub hC dX7_apart_64 ?_
        refine v_icmp_gt hC 108 dX7_apart_65 (by decide) (fun c15 => ?_) (fun c15 => ?_)
        · replace h := h.1 c15
          refine v_iincN hC (nI 1) 6 dX7_apart_108 rfl rfl (by decide) (lo2 := fun x6_16 => [(6, .int x6_16), (0, .ref (xad X 82)), (1, .int x1), (2, .int x2), (3, .int x3), (4, .int x4), (5, .int x5)]) (fun _ => rfl) (fun x6_16 e16 => ?_)
          replace h := h x6_16 e16
          refine v_goto hC 45 dX7_apart_111 (by decide) ?_
          exact V.sub [1, 2, 3, 4, 5, 6, 0] rfl (ih _ _ _ _ _ _ _ h)
        · replace h := h.2 c15
          refine v_aload_n hC 0 dX7_apart_68 rfl ?_
          refine v_iload_n hC 1 dX7_apart_69 rfl ?_
          refine v_iconst hC (nI 0) dX7_apart_70 rfl ?_
          refine v_iload_n hC 2 dX7_apart_71 rfl ?_
          refine v_iload hC 6 dX7_apart_72 rfl ?_
          refine v_callV hC (kM_mostOf _ _ _ _ _ _ h) cmM_mostOf ⟨kw1290, kw69⟩ kw1288 ⟨Nat.le_of_ble_eq_true rfl, Nat.le_of_ble_eq_true rfl⟩ (Nat.le_of_ble_eq_true rfl) rfl (ci := 7) (T := TX7) (N := 30) rfl (As := fun G => [.int x1, .int (nI 0), .int x2, .int x6]) (fun _ => rfl) (fun _ => rfl) (st := []) (Nat.le_of_ble_eq_true rfl) rfl dX7_apart_74 (kk_i (fun r18 σ18 h => ?_))
          refine v_aload_n hC 0 dX7_apart_77 rfl ?_
          refine v_iload_n hC 1 dX7_apart_78 rfl ?_
          refine v_iload_n hC 2 dX7_apart_79 rfl ?_
          refine v_iload hC 4 dX7_apart_80 rfl ?_
          refine v_iload_n hC 3 dX7_apart_82 rfl ?_
          refine v_iload hC 6 dX7_apart_83 rfl ?_
          refine v_isub hC dX7_apart_85 ?_
          refine v_callV hC (kM_mostOf _ _ _ _ _ _ h) cmM_mostOf ⟨kw1290, kw69⟩ kw1288 ⟨Nat.le_of_ble_eq_true rfl, Nat.le_of_ble_eq_true rfl⟩ (Nat.le_of_ble_eq_true rfl) rfl (ci := 7) (T := TX7) (N := 30) rfl (As := fun G => [.int x1, .int x2, .int x4, .int (x3 - x6)]) (fun _ => rfl) (fun _ => rfl) (st := [.int r18]) (Nat.le_of_ble_eq_true rfl) rfl dX7_apart_86 (kk_i (fun r20 σ20 h => ?_))
          refine v_iadd hC dX7_apart_89 ?_
          refine v_istoreN hC dX7_apart_90 (by decide) (lo2 := fun x7_21 => [(7, .int x7_21), (0, .ref (xad X 82)), (1, .int x1), (2, .int x2), (3, .int x3), (4, .int x4), (5, .int x5), (6, .int x6)]) (fun _ => rfl) (fun x7_21 e21 => ?_)
          replace h := h x7_21 e21
          refine v_iload hC 0 dX7_apart_92 rfl ?_
          refine v_iload hC 6 dX7_apart_94 rfl ?_
          have J22 : ∀ (v23 : Int32) (ev23 : v23 = (if x7_21 ≤ x5 then x5 else x7_21)), V X 8 106 [(0, .ref (xad X 82)), (1, .int x1), (2, .int x2), (3, .int x3), (4, .int x4), (6, .int x6)] [.int v23] σ20 := by
            intro v23 ev23
            replace h := h v23 ev23
            refine v_istore hC dX7_apart_106 (by decide) rfl ?_
            refine v_iincN hC (nI 1) 6 dX7_apart_108 rfl rfl (by decide) (lo2 := fun x6_24 => [(6, .int x6_24), (5, .int v23), (0, .ref (xad X 82)), (1, .int x1), (2, .int x2), (3, .int x3), (4, .int x4)]) (fun _ => rfl) (fun x6_24 e24 => ?_)
            replace h := h x6_24 e24
            refine v_goto hC 45 dX7_apart_111 (by decide) ?_
            exact V.sub [2, 3, 4, 5, 6, 1, 0] rfl (ih _ _ _ _ _ _ _ h)
          refine v_icmp_le hC 104 dX7_apart_96 (by decide) (fun c22 => ?_) (fun c22 => ?_)
          · refine v_iload hC 6 dX7_apart_104 rfl ?_
            exact V.sub [1, 2, 3, 4, 5, 7] rfl (J22 _ (by rw [if_pos c22]))
          · refine v_iload hC 0 dX7_apart_99 rfl ?_
            refine v_goto hC 106 dX7_apart_101 (by decide) ?_
            exact V.sub [1, 2, 3, 4, 5, 7] rfl (J22 _ (by rw [if_neg c22]))
set_option maxHeartbeats 4000000 in
set_option maxRecDepth 100000 in
theorem kM_apart (x1 : Int32) (x2 : Int32) (x3 : Int32) (σ : gM) (Q : Int32 → gM → Prop) (h : wM_apart x1 x2 x3 σ Q) : CT yX7_apart cX7_apart 8 (some .int) rmM_apart (fun G => [.ref (gad G 82), .int x1, .int x2, .int x3]) σ (gPi Q) := by
  refine c_enter (by decide) (fun _ => Nat.le_of_ble_eq_true rfl) (fun X hC hR => ?_)
  show V X 8 0 [(0, .ref (xad X 82)), (1, .int x1), (2, .int x2), (3, .int x3)] [] σ
  replace h : ∀ x4_2 : Int32, x4_2 = (σ 89 5) → (wM_isBuyerAt x1 σ (fun (r4 : Int32) (σ4 : gM) => (r4 = nI 0 → (Q (-1000001 : Int32) σ4)) ∧ (¬ (r4 = nI 0) → (wM_in x2 (nI 0) x4_2 σ4 (fun (r7 : Int32) (σ7 : gM) => (r7 = nI 0 → (Q (-1000001 : Int32) σ7)) ∧ (¬ (r7 = nI 0) → (wM_in x3 (nI 0) x4_2 σ7 (fun (r10 : Int32) (σ10 : gM) => (r10 = nI 0 → (Q (-1000001 : Int32) σ10)) ∧ (¬ (r10 = nI 0) → (∃ n25 : Nat, wM_apart_l45 Q n25 x1 x2 x3 x4_2 (nI 0) (nI 0) σ10)))))))))) := h
  refine v_aload_n hC 0 dX7_apart_0 rfl ?_
  refine gf_X7_28 hC dX7_apart_1 ?_
  refine v_iconst hC (nI 5) dX7_apart_4 rfl ?_
  refine v_iald hC (Nat.le_of_ble_eq_true rfl) rfl (j := 5) (by decide) (by unfold vp_in; decide) dX7_apart_5 ?_
  refine v_istoreN hC dX7_apart_6 (by decide) (lo2 := fun x4_2 => [(4, .int x4_2), (0, .ref (xad X 82)), (1, .int x1), (2, .int x2), (3, .int x3)]) (fun _ => rfl) (fun x4_2 e2 => ?_)
  replace h := h x4_2 e2
  refine v_aload_n hC 1 dX7_apart_8 rfl ?_
  refine v_iload_n hC 2 dX7_apart_9 rfl ?_
  refine v_callV hC (kM_isBuyerAt _ _ _ h) cmM_isBuyerAt ⟨kw1143, kw51⟩ kw1141 ⟨Nat.le_of_ble_eq_true rfl, Nat.le_of_ble_eq_true rfl⟩ (Nat.le_of_ble_eq_true rfl) rfl (ci := 7) (T := TX7) (N := 30) rfl (As := fun G => [.int x1]) (fun _ => rfl) (fun _ => rfl) (st := []) (Nat.le_of_ble_eq_true rfl) rfl dX7_apart_10 (kk_i (fun r4 σ4 h => ?_))
  refine v_if_eq hC 36 dX7_apart_13 (by decide) (fun c5 => ?_) (fun c5 => ?_)
  · replace h := h.1 c5
    refine v_ldc hC kw1053 dX7_apart_36 ?_
    exact v_iret hC hR h dX7_apart_38
  · replace h := h.2 c5
    refine v_iload_n hC 3 dX7_apart_16 rfl ?_
    refine v_iconst hC (nI 0) dX7_apart_17 rfl ?_
    refine v_iload hC 0 dX7_apart_18 rfl ?_
    refine v_callS hC (kM_in _ _ _ _ _ h) cmM_in kw1051 kw1050 ⟨Nat.le_of_ble_eq_true rfl, Nat.le_of_ble_eq_true rfl⟩ (fun _ => rfl) (st := []) (Nat.le_of_ble_eq_true rfl) rfl dX7_apart_20 (kk_i (fun r7 σ7 h => ?_))
    refine v_if_eq hC 36 dX7_apart_23 (by decide) (fun c8 => ?_) (fun c8 => ?_)
    · replace h := h.1 c8
      refine v_ldc hC kw1053 dX7_apart_36 ?_
      exact v_iret hC hR h dX7_apart_38
    · replace h := h.2 c8
      refine v_iload_n hC 4 dX7_apart_26 rfl ?_
      refine v_iconst hC (nI 0) dX7_apart_27 rfl ?_
      refine v_iload hC 0 dX7_apart_28 rfl ?_
      refine v_callS hC (kM_in _ _ _ _ _ h) cmM_in kw1051 kw1050 ⟨Nat.le_of_ble_eq_true rfl, Nat.le_of_ble_eq_true rfl⟩ (fun _ => rfl) (st := []) (Nat.le_of_ble_eq_true rfl) rfl dX7_apart_30 (kk_i (fun r10 σ10 h => ?_))
      refine v_if_ne hC 39 dX7_apart_33 (by decide) (fun c11 => ?_) (fun c11 => ?_)
      · replace h := h.2 c11
        refine v_iconst hC (nI 0) dX7_apart_39 rfl ?_
        refine v_istore hC dX7_apart_40 (by decide) rfl ?_
        refine v_iconst hC (nI 0) dX7_apart_42 rfl ?_
        refine v_istore hC dX7_apart_43 (by decide) rfl ?_
        obtain ⟨n25, h⟩ := h
        exact V.sub [3, 4, 5, 6, 2, 1, 0] rfl (tM_apart_l45 hC hR  n25 _ _ _ _ _ _ _ h)
      · replace h := h.1 c11
        refine v_ldc hC kw1053 dX7_apart_36 ?_
        exact v_iret hC hR h dX7_apart_38
theorem cmM_apart : CM yX7_apart cX7_apart 8 (some .int) rmM_apart 3 := ⟨kw82, kw1287, rfl, rfl, by decide, by decide, by decide +kernel⟩
