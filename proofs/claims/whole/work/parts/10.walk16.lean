def rmM_passBy : Room := { frames := 4, cells := 0, slots := 0, locals := 104 }
def wM_passBy_b258 (Q : Int32 → gM → Prop) (K97 : Int32 → Int32 → Int32 → Int32 → Int32 → gM → Prop) (K105 : Int32 → Int32 → Int32 → Int32 → Int32 → Int32 → gM → Prop) (x1 : Int32) (x2 : Int32) (x3 : Int32) (x4 : Int32) (x5 : Int32) (x6 : Int32) (x7 : Int32) (x10 : Int32) (x11 : Int32) (s0 : Int32) (σ : gM) : Prop :=
    ∀ v42 : Int32, v42 = (if x11 < s0 then (x7 + (nI 1)) else (x7 + (nI 17))) → (∀ v44 : Int32, v44 = (if x11 < s0 then s0 else x11) → (((x10 = nI 0 → (True)) ∧ (¬ (x10 = nI 0) → (vp_in x7 289 ∧ True))) ∧ (∀ v47 : Int32, v47 = (if x10 = nI 0 then (nI 0) else (if (σ 97 x7.toNatClampNeg) ≤ v44 then (nI 0) else (nI 1))) → (((v47 = nI 0 → (((x10 = nI 0 → (vp_in v42 289 ∧ True)) ∧ (¬ (x10 = nI 0) → (True))) ∧ True)) ∧ (¬ (v47 = nI 0) → (vp_in x7 289 ∧ True))) ∧ (∀ v51 : Int32, v51 = (if v47 = nI 0 then (if x10 = nI 0 then (σ 95 v42.toNatClampNeg) else v44) else (σ 97 x7.toNatClampNeg)) → (((v47 = nI 0 → (((x10 = nI 0 → (True)) ∧ (¬ (x10 = nI 0) → (vp_in v42 289 ∧ True))) ∧ True)) ∧ (¬ (v47 = nI 0) → (vp_in x7 289 ∧ True))) ∧ (∀ v55 : Int32, v55 = (if v47 = nI 0 then (if x10 = nI 0 then v44 else (σ 96 v42.toNatClampNeg)) else (σ 98 x7.toNatClampNeg)) → (vp_in x7 289 ∧ (∀ σ56 : gM, σ56 = gU σ 95 x7.toNatClampNeg v51 → (vp_in x7 289 ∧ (∀ σ57 : gM, σ57 = gU σ56 96 x7.toNatClampNeg v55 → (∀ x6_58 : Int32, x6_58 = x6 + (nI 1) → (K105 x1 x2 x3 x4 x5 x6_58 σ57)))))))))))))
def wM_passBy_b212 (Q : Int32 → gM → Prop) (K97 : Int32 → Int32 → Int32 → Int32 → Int32 → gM → Prop) (K105 : Int32 → Int32 → Int32 → Int32 → Int32 → Int32 → gM → Prop) (x1 : Int32) (x2 : Int32) (x3 : Int32) (x4 : Int32) (x5 : Int32) (x6 : Int32) (x7 : Int32) (x9 : Int32) (x10 : Int32) (s0 : Int32) (σ : gM) : Prop :=
    (x10 = nI 0 → (wM_worthOf x9 x2 (nI 0) σ (fun (r39 : Int32) (σ39 : gM) => vp_in (x7 + (nI 1)) 289 ∧ (wM_passBy_b258 Q K97 K105 x1 x2 x3 x4 x5 x6 x7 x10 s0 (r39 + (σ39 96 (x7 + (nI 1)).toNatClampNeg)) σ39)))) ∧ (¬ (x10 = nI 0) → (wM_worthOf x9 x1 (nI 0) σ (fun (r70 : Int32) (σ70 : gM) => vp_in (x7 + (nI 1)) 289 ∧ (wM_passBy_b258 Q K97 K105 x1 x2 x3 x4 x5 x6 x7 x10 s0 (r70 + (σ70 95 (x7 + (nI 1)).toNatClampNeg)) σ70))))
def wM_passBy_l105 (Q : Int32 → gM → Prop) (K97 : Int32 → Int32 → Int32 → Int32 → Int32 → gM → Prop) : Nat → Int32 → Int32 → Int32 → Int32 → Int32 → Int32 → gM → Prop
  | 0, _, _, _, _, _, _, _ => False
  | n + 1, x1, x2, x3, x4, x5, x6, σ =>
    (x5 < x6 → (∀ x5_23 : Int32, x5_23 = x5 + (-1 : Int32) → (K97 x1 x2 x3 x4 x5_23 σ))) ∧ (¬ (x5 < x6) → (∀ x7_24 : Int32, x7_24 = ((((nI 17) * x6) + x5) - x6) → (vp_in x6 16 ∧ (∀ x8_26 : Int32, x8_26 = (σ 94 x6.toNatClampNeg) → (vp_in (((x3 - (nI 1)) - x5) + x6) 16 ∧ (∀ x9_28 : Int32, x9_28 = (σ 94 (((x3 - (nI 1)) - x5) + x6).toNatClampNeg) → (wM_turnOf x5 σ (fun (r30 : Int32) (σ30 : gM) => ∀ v32 : Int32, v32 = (if r30 = nI 0 then (nI 1) else (nI 0)) → ((v32 = nI 0 → (wM_worthOf x8_26 x2 (nI 0) σ30 (fun (r35 : Int32) (σ35 : gM) => vp_in (x7_24 + (nI 17)) 289 ∧ (wM_passBy_b212 Q K97 (wM_passBy_l105 Q K97 n) x1 x2 x3 x4 x5 x6 x7_24 x9_28 v32 (r35 + (σ35 96 (x7_24 + (nI 17)).toNatClampNeg)) σ35)))) ∧ (¬ (v32 = nI 0) → (wM_worthOf x8_26 x1 (nI 0) σ30 (fun (r73 : Int32) (σ73 : gM) => vp_in (x7_24 + (nI 17)) 289 ∧ (wM_passBy_b212 Q K97 (wM_passBy_l105 Q K97 n) x1 x2 x3 x4 x5 x6 x7_24 x9_28 v32 (r73 + (σ73 95 (x7_24 + (nI 17)).toNatClampNeg)) σ73)))))))))))))
def wM_passBy_l97 (Q : Int32 → gM → Prop)  : Nat → Int32 → Int32 → Int32 → Int32 → Int32 → gM → Prop
  | 0, _, _, _, _, _, _ => False
  | n + 1, x1, x2, x3, x4, x5, σ =>
    (x5 < nI 0 → (∀ v20 : Int32, v20 = (if (σ 95 0) ≤ x4 then (nI 0) else ((σ 95 0) - x4)) → (Q v20 σ))) ∧ (¬ (x5 < nI 0) → (∃ n75 : Nat, wM_passBy_l105 Q (wM_passBy_l97 Q n) n75 x1 x2 x3 x4 x5 (nI 0) σ))
def wM_passBy_l34 (Q : Int32 → gM → Prop)  : Nat → Int32 → Int32 → Int32 → Int32 → gM → Prop
  | 0, _, _, _, _, _ => False
  | n + 1, x1, x2, x3, x4, σ =>
    ((nI 289) ≤ x4 → (wM_layBest x3 x1 x2 (nI 0) σ (fun (σ12 : gM) => ∀ x4_14 : Int32, x4_14 = (σ12 95 0) → (∀ x5_15 : Int32, x5_15 = (x3 - (nI 1)) → (∃ n76 : Nat, wM_passBy_l97 Q n76 x1 x2 x3 x4_14 x5_15 σ12))))) ∧ (¬ ((nI 289) ≤ x4) → (vp_in x4 289 ∧ (vp_in x4 289 ∧ (∀ σ78 : gM, σ78 = gU σ 97 x4.toNatClampNeg (σ 95 x4.toNatClampNeg) → (vp_in x4 289 ∧ (vp_in x4 289 ∧ (∀ σ80 : gM, σ80 = gU σ78 98 x4.toNatClampNeg (σ78 96 x4.toNatClampNeg) → (∀ x4_81 : Int32, x4_81 = x4 + (nI 1) → (wM_passBy_l34 Q n x1 x2 x3 x4_81 σ80)))))))))
def wM_passBy (x1 : Int32) (x2 : Int32) (σ : gM) (Q : Int32 → gM → Prop) : Prop :=
    wM_areUnlike x1 x2 σ (fun (r2 : Int32) (σ2 : gM) => (r2 = nI 0 → (Q (-1000001 : Int32) σ2)) ∧ (¬ (r2 = nI 0) → (∀ x3_5 : Int32, x3_5 = (σ2 89 5) → (wM_layHeap  σ2 (fun (σ7 : gM) => wM_layBest x3_5 x1 x2 (nI 1) σ7 (fun (σ9 : gM) => ∃ n82 : Nat, wM_passBy_l34 Q n82 x1 x2 x3_5 (nI 0) σ9))))))
set_option maxHeartbeats 4000000 in
set_option maxRecDepth 100000 in
theorem tM_passBy_b258 {X : gX} {Q : Int32 → gM → Prop} (hC : VC X cX7_passBy RX7 18 rmM_passBy) (hR : VR X (some .int) (gPi Q)) {K97 : Int32 → Int32 → Int32 → Int32 → Int32 → gM → Prop} (hK97 : ∀ (x1 : Int32) (x2 : Int32) (x3 : Int32) (x4 : Int32) (x5 : Int32) (σ : gM), K97 x1 x2 x3 x4 x5 σ → V X 18 97 [(0, .ref (xad X 82)), (1, .int x1), (2, .int x2), (3, .int x3), (4, .int x4), (5, .int x5)] [] σ) {K105 : Int32 → Int32 → Int32 → Int32 → Int32 → Int32 → gM → Prop} (hK105 : ∀ (x1 : Int32) (x2 : Int32) (x3 : Int32) (x4 : Int32) (x5 : Int32) (x6 : Int32) (σ : gM), K105 x1 x2 x3 x4 x5 x6 σ → V X 18 105 [(0, .ref (xad X 82)), (1, .int x1), (2, .int x2), (3, .int x3), (4, .int x4), (5, .int x5), (6, .int x6)] [] σ) (x1 : Int32) (x2 : Int32) (x3 : Int32) (x4 : Int32) (x5 : Int32) (x6 : Int32) (x7 : Int32) (x10 : Int32) (x11 : Int32) (s0 : Int32) (σ : gM) (h : wM_passBy_b258 Q K97 K105 x1 x2 x3 x4 x5 x6 x7 x10 x11 s0 σ) : V X 18 258 [(0, .ref (xad X 82)), (1, .int x1), (2, .int x2), (3, .int x3), (4, .int x4), (5, .int x5), (6, .int x6), (7, .int x7), (10, .int x10), (11, .int x11)] [.int s0] σ := by
  replace h : ∀ v42 : Int32, v42 = (if x11 < s0 then (x7 + (nI 1)) else (x7 + (nI 17))) → (∀ v44 : Int32, v44 = (if x11 < s0 then s0 else x11) → (((x10 = nI 0 → (True)) ∧ (¬ (x10 = nI 0) → (vp_in x7 289 ∧ True))) ∧ (∀ v47 : Int32, v47 = (if x10 = nI 0 then (nI 0) else (if (σ 97 x7.toNatClampNeg) ≤ v44 then (nI 0) else (nI 1))) → (((v47 = nI 0 → (((x10 = nI 0 → (vp_in v42 289 ∧ True)) ∧ (¬ (x10 = nI 0) → (True))) ∧ True)) ∧ (¬ (v47 = nI 0) → (vp_in x7 289 ∧ True))) ∧ (∀ v51 : Int32, v51 = (if v47 = nI 0 then (if x10 = nI 0 then (σ 95 v42.toNatClampNeg) else v44) else (σ 97 x7.toNatClampNeg)) → (((v47 = nI 0 → (((x10 = nI 0 → (True)) ∧ (¬ (x10 = nI 0) → (vp_in v42 289 ∧ True))) ∧ True)) ∧ (¬ (v47 = nI 0) → (vp_in x7 289 ∧ True))) ∧ (∀ v55 : Int32, v55 = (if v47 = nI 0 then (if x10 = nI 0 then v44 else (σ 96 v42.toNatClampNeg)) else (σ 98 x7.toNatClampNeg)) → (vp_in x7 289 ∧ (∀ σ56 : gM, σ56 = gU σ 95 x7.toNatClampNeg v51 → (vp_in x7 289 ∧ (∀ σ57 : gM, σ57 = gU σ56 96 x7.toNatClampNeg v55 → (∀ x6_58 : Int32, x6_58 = x6 + (nI 1) → (K105 x1 x2 x3 x4 x5 x6_58 σ57))))))))))))) := h
  refine v_istore hC dX7_passBy_258 (by decide) rfl ?_
  refine v_iload hC 10 dX7_passBy_260 rfl ?_
  refine v_iload hC 0 dX7_passBy_262 rfl ?_
  have J41 : ∀ (v42 : Int32) (ev42 : v42 = (if x11 < s0 then (x7 + (nI 1)) else (x7 + (nI 17)))), V X 18 279 [(0, .ref (xad X 82)), (1, .int x1), (2, .int x2), (3, .int x3), (4, .int x4), (5, .int x5), (6, .int x6), (7, .int x7), (10, .int x10), (11, .int x11), (12, .int s0)] [.int v42] σ := by
    intro v42 ev42
    replace h := h v42 ev42
    refine v_istore hC dX7_passBy_279 (by decide) rfl ?_
    refine v_iload hC 10 dX7_passBy_281 rfl ?_
    refine v_iload hC 11 dX7_passBy_283 rfl ?_
    have J43 : ∀ (v44 : Int32) (ev44 : v44 = (if x11 < s0 then s0 else x11)), V X 18 295 [(0, .ref (xad X 82)), (1, .int x1), (2, .int x2), (3, .int x3), (4, .int x4), (5, .int x5), (6, .int x6), (7, .int x7), (10, .int x10), (13, .int v42)] [.int v44] σ := by
      intro v44 ev44
      replace h := h v44 ev44
      refine v_istore hC dX7_passBy_295 (by decide) rfl ?_
      refine v_iload hC 9 dX7_passBy_297 rfl ?_
      obtain ⟨hO45, h⟩ := h
      have J45 : ∀ (v47 : Int32) (ev47 : v47 = (if x10 = nI 0 then (nI 0) else (if (σ 97 x7.toNatClampNeg) ≤ v44 then (nI 0) else (nI 1)))), V X 18 319 [(0, .ref (xad X 82)), (1, .int x1), (2, .int x2), (3, .int x3), (4, .int x4), (5, .int x5), (6, .int x6), (7, .int x7), (10, .int x10), (13, .int v42), (14, .int v44)] [.int v47] σ := by
        intro v47 ev47
        replace h := h v47 ev47
        refine v_istore hC dX7_passBy_319 (by decide) rfl ?_
        refine v_iload hC 0 dX7_passBy_321 rfl ?_
        obtain ⟨hO48, h⟩ := h
        have J48 : ∀ (v51 : Int32) (ev51 : v51 = (if v47 = nI 0 then (if x10 = nI 0 then (σ 95 v42.toNatClampNeg) else v44) else (σ 97 x7.toNatClampNeg))), V X 18 353 [(0, .ref (xad X 82)), (1, .int x1), (2, .int x2), (3, .int x3), (4, .int x4), (5, .int x5), (6, .int x6), (7, .int x7), (10, .int x10), (13, .int v42), (14, .int v44), (15, .int v47)] [.int v51] σ := by
          intro v51 ev51
          replace h := h v51 ev51
          refine v_istore hC dX7_passBy_353 (by decide) rfl ?_
          refine v_iload hC 12 dX7_passBy_355 rfl ?_
          obtain ⟨hO52, h⟩ := h
          have J52 : ∀ (v55 : Int32) (ev55 : v55 = (if v47 = nI 0 then (if x10 = nI 0 then v44 else (σ 96 v42.toNatClampNeg)) else (σ 98 x7.toNatClampNeg))), V X 18 387 [(0, .ref (xad X 82)), (1, .int x1), (2, .int x2), (3, .int x3), (4, .int x4), (5, .int x5), (6, .int x6), (7, .int x7), (16, .int v51)] [.int v55] σ := by
            intro v55 ev55
            replace h := h v55 ev55
            refine v_istore hC dX7_passBy_387 (by decide) rfl ?_
            refine v_aload_n hC 1 dX7_passBy_389 rfl ?_
            refine gf_X7_47 hC dX7_passBy_390 ?_
            refine v_iload hC 8 dX7_passBy_393 rfl ?_
            refine v_iload hC 9 dX7_passBy_395 rfl ?_
            obtain ⟨hi56, h⟩ := h
            refine v_iast hC (Nat.le_of_ble_eq_true rfl) rfl rfl hi56 dX7_passBy_397 (fun σ56 e56 => ?_)
            replace h := h σ56 e56
            refine v_aload_n hC 1 dX7_passBy_398 rfl ?_
            refine gf_X7_50 hC dX7_passBy_399 ?_
            refine v_iload hC 8 dX7_passBy_402 rfl ?_
            refine v_iload hC 0 dX7_passBy_404 rfl ?_
            obtain ⟨hi57, h⟩ := h
            refine v_iast hC (Nat.le_of_ble_eq_true rfl) rfl rfl hi57 dX7_passBy_406 (fun σ57 e57 => ?_)
            replace h := h σ57 e57
            refine v_iincN hC (nI 1) 7 dX7_passBy_407 rfl rfl (by decide) (lo2 := fun x6_58 => [(6, .int x6_58), (17, .int v55), (0, .ref (xad X 82)), (1, .int x1), (2, .int x2), (3, .int x3), (4, .int x4), (5, .int x5), (7, .int x7), (16, .int v51)]) (fun _ => rfl) (fun x6_58 e58 => ?_)
            replace h := h x6_58 e58
            refine v_goto hC 105 dX7_passBy_410 (by decide) ?_
            exact V.sub [2, 3, 4, 5, 6, 7, 0] rfl (hK105 _ _ _ _ _ _ _ h)
          refine v_if_eq hC 370 dX7_passBy_357 (by decide) (fun c52 => ?_) (fun c52 => ?_)
          · replace h := hO52.1 c52
            refine v_iload hC 9 dX7_passBy_370 rfl ?_
            obtain ⟨hO59, h⟩ := h
            have J59 : V X 18 387 [(0, .ref (xad X 82)), (1, .int x1), (2, .int x2), (3, .int x3), (4, .int x4), (5, .int x5), (6, .int x6), (7, .int x7), (16, .int v51)] [.int (if x10 = nI 0 then v44 else (σ 96 v42.toNatClampNeg))] σ := by
              exact V.sub [0, 1, 2, 3, 4, 5, 6, 7, 8] rfl (J52 _ (by rw [if_pos c52]))
            refine v_if_eq hC 385 dX7_passBy_372 (by decide) (fun c59 => ?_) (fun c59 => ?_)
            · replace h := hO59.1 c59
              refine v_iload hC 11 dX7_passBy_385 rfl ?_
              rw [if_pos c59] at J59
              exact V.sub [1, 2, 3, 4, 5, 6, 7, 8, 0] rfl J59
            · replace h := hO59.2 c59
              refine v_aload_n hC 1 dX7_passBy_375 rfl ?_
              refine gf_X7_50 hC dX7_passBy_376 ?_
              refine v_iload hC 10 dX7_passBy_379 rfl ?_
              obtain ⟨hi61, h⟩ := h
              refine v_iald hC (Nat.le_of_ble_eq_true rfl) rfl rfl hi61 dX7_passBy_381 ?_
              refine v_goto hC 387 dX7_passBy_382 (by decide) ?_
              rw [if_neg c59] at J59
              exact V.sub [1, 2, 3, 4, 5, 6, 7, 8, 0] rfl J59
          · replace h := hO52.2 c52
            refine v_aload_n hC 1 dX7_passBy_360 rfl ?_
            refine gf_X7_56 hC dX7_passBy_361 ?_
            refine v_iload hC 8 dX7_passBy_364 rfl ?_
            obtain ⟨hi62, h⟩ := h
            refine v_iald hC (Nat.le_of_ble_eq_true rfl) rfl rfl hi62 dX7_passBy_366 ?_
            refine v_goto hC 387 dX7_passBy_367 (by decide) ?_
            exact V.sub [1, 2, 3, 4, 5, 6, 7, 8, 0] rfl (J52 _ (by rw [if_neg c52]))
        refine v_if_eq hC 336 dX7_passBy_323 (by decide) (fun c48 => ?_) (fun c48 => ?_)
        · replace h := hO48.1 c48
          refine v_iload hC 9 dX7_passBy_336 rfl ?_
          obtain ⟨hO63, h⟩ := h
          have J63 : V X 18 353 [(0, .ref (xad X 82)), (1, .int x1), (2, .int x2), (3, .int x3), (4, .int x4), (5, .int x5), (6, .int x6), (7, .int x7), (10, .int x10), (13, .int v42), (14, .int v44), (15, .int v47)] [.int (if x10 = nI 0 then (σ 95 v42.toNatClampNeg) else v44)] σ := by
            exact V.sub [0, 1, 2, 3, 4, 5, 6, 7, 8, 9, 10, 11] rfl (J48 _ (by rw [if_pos c48]))
          refine v_if_eq hC 346 dX7_passBy_338 (by decide) (fun c63 => ?_) (fun c63 => ?_)
          · replace h := hO63.1 c63
            refine v_aload_n hC 1 dX7_passBy_346 rfl ?_
            refine gf_X7_47 hC dX7_passBy_347 ?_
            refine v_iload hC 10 dX7_passBy_350 rfl ?_
            obtain ⟨hi65, h⟩ := h
            refine v_iald hC (Nat.le_of_ble_eq_true rfl) rfl rfl hi65 dX7_passBy_352 ?_
            rw [if_pos c63] at J63
            exact V.sub [1, 2, 3, 4, 5, 6, 7, 8, 9, 10, 11, 0] rfl J63
          · replace h := hO63.2 c63
            refine v_iload hC 11 dX7_passBy_341 rfl ?_
            refine v_goto hC 353 dX7_passBy_343 (by decide) ?_
            rw [if_neg c63] at J63
            exact V.sub [1, 2, 3, 4, 5, 6, 7, 8, 9, 10, 11, 0] rfl J63
        · replace h := hO48.2 c48
          refine v_aload_n hC 1 dX7_passBy_326 rfl ?_
          refine gf_X7_53 hC dX7_passBy_327 ?_
          refine v_iload hC 8 dX7_passBy_330 rfl ?_
          obtain ⟨hi66, h⟩ := h
          refine v_iald hC (Nat.le_of_ble_eq_true rfl) rfl rfl hi66 dX7_passBy_332 ?_
          refine v_goto hC 353 dX7_passBy_333 (by decide) ?_
          exact V.sub [1, 2, 3, 4, 5, 6, 7, 8, 9, 10, 11, 0] rfl (J48 _ (by rw [if_neg c48]))
      refine v_if_eq hC 318 dX7_passBy_299 (by decide) (fun c45 => ?_) (fun c45 => ?_)
      · replace h := hO45.1 c45
        refine v_iconst hC (nI 0) dX7_passBy_318 rfl ?_
        exact V.sub [1, 2, 3, 4, 5, 6, 7, 8, 9, 10, 0] rfl (J45 _ (by rw [if_pos c45]))
      · replace h := hO45.2 c45
        refine v_aload_n hC 1 dX7_passBy_302 rfl ?_
        refine gf_X7_53 hC dX7_passBy_303 ?_
        refine v_iload hC 8 dX7_passBy_306 rfl ?_
        obtain ⟨hi67, h⟩ := h
        refine v_iald hC (Nat.le_of_ble_eq_true rfl) rfl rfl hi67 dX7_passBy_308 ?_
        refine v_iload hC 0 dX7_passBy_309 rfl ?_
        have J68 : V X 18 319 [(0, .ref (xad X 82)), (1, .int x1), (2, .int x2), (3, .int x3), (4, .int x4), (5, .int x5), (6, .int x6), (7, .int x7), (10, .int x10), (13, .int v42), (14, .int v44)] [.int (if (σ 97 x7.toNatClampNeg) ≤ v44 then (nI 0) else (nI 1))] σ := by
          exact V.sub [0, 1, 2, 3, 4, 5, 6, 7, 8, 9, 10] rfl (J45 _ (by rw [if_neg c45]))
        refine v_icmp_le hC 318 dX7_passBy_311 (by decide) (fun c68 => ?_) (fun c68 => ?_)
        · refine v_iconst hC (nI 0) dX7_passBy_318 rfl ?_
          rw [if_pos c68] at J68
          exact V.sub [1, 2, 3, 4, 5, 6, 7, 8, 9, 10, 0] rfl J68
        · refine v_iconst hC (nI 1) dX7_passBy_314 rfl ?_
          refine v_goto hC 319 dX7_passBy_315 (by decide) ?_
          rw [if_neg c68] at J68
          exact V.sub [1, 2, 3, 4, 5, 6, 7, 8, 9, 10, 0] rfl J68
    refine v_icmp_lt hC 293 dX7_passBy_285 (by decide) (fun c43 => ?_) (fun c43 => ?_)
    · refine v_iload hC 11 dX7_passBy_293 rfl ?_
      exact V.sub [1, 2, 3, 4, 5, 6, 7, 8, 9, 0] rfl (J43 _ (by rw [if_pos c43]))
    · refine v_iload hC 10 dX7_passBy_288 rfl ?_
      refine v_goto hC 295 dX7_passBy_290 (by decide) ?_
      exact V.sub [1, 2, 3, 4, 5, 6, 7, 8, 9, 0] rfl (J43 _ (by rw [if_neg c43]))
  refine v_icmp_lt hC 275 dX7_passBy_264 (by decide) (fun c41 => ?_) (fun c41 => ?_)
  · refine v_iload hC 8 dX7_passBy_275 rfl ?_
    refine v_iconst hC (nI 1) dX7_passBy_277 rfl ?_
    refine v_iadd hC dX7_passBy_278 ?_
    exact V.sub [1, 2, 3, 4, 5, 6, 7, 8, 9, 10, 0] rfl (J41 _ (by rw [if_pos c41]))
  · refine v_iload hC 8 dX7_passBy_267 rfl ?_
    refine v_bipush hC (nI 17) dX7_passBy_269 rfl ?_
    refine v_iadd hC dX7_passBy_271 ?_
    refine v_goto hC 279 dX7_passBy_272 (by decide) ?_
    exact V.sub [1, 2, 3, 4, 5, 6, 7, 8, 9, 10, 0] rfl (J41 _ (by rw [if_neg c41]))
set_option maxHeartbeats 4000000 in
set_option maxRecDepth 100000 in
theorem tM_passBy_b212 {X : gX} {Q : Int32 → gM → Prop} (hC : VC X cX7_passBy RX7 18 rmM_passBy) (hR : VR X (some .int) (gPi Q)) {K97 : Int32 → Int32 → Int32 → Int32 → Int32 → gM → Prop} (hK97 : ∀ (x1 : Int32) (x2 : Int32) (x3 : Int32) (x4 : Int32) (x5 : Int32) (σ : gM), K97 x1 x2 x3 x4 x5 σ → V X 18 97 [(0, .ref (xad X 82)), (1, .int x1), (2, .int x2), (3, .int x3), (4, .int x4), (5, .int x5)] [] σ) {K105 : Int32 → Int32 → Int32 → Int32 → Int32 → Int32 → gM → Prop} (hK105 : ∀ (x1 : Int32) (x2 : Int32) (x3 : Int32) (x4 : Int32) (x5 : Int32) (x6 : Int32) (σ : gM), K105 x1 x2 x3 x4 x5 x6 σ → V X 18 105 [(0, .ref (xad X 82)), (1, .int x1), (2, .int x2), (3, .int x3), (4, .int x4), (5, .int x5), (6, .int x6)] [] σ) (x1 : Int32) (x2 : Int32) (x3 : Int32) (x4 : Int32) (x5 : Int32) (x6 : Int32) (x7 : Int32) (x9 : Int32) (x10 : Int32) (s0 : Int32) (σ : gM) (h : wM_passBy_b212 Q K97 K105 x1 x2 x3 x4 x5 x6 x7 x9 x10 s0 σ) : V X 18 212 [(0, .ref (xad X 82)), (1, .int x1), (2, .int x2), (3, .int x3), (4, .int x4), (5, .int x5), (6, .int x6), (7, .int x7), (9, .int x9), (10, .int x10)] [.int s0] σ := by
  replace h : (x10 = nI 0 → (wM_worthOf x9 x2 (nI 0) σ (fun (r39 : Int32) (σ39 : gM) => vp_in (x7 + (nI 1)) 289 ∧ (wM_passBy_b258 Q K97 K105 x1 x2 x3 x4 x5 x6 x7 x10 s0 (r39 + (σ39 96 (x7 + (nI 1)).toNatClampNeg)) σ39)))) ∧ (¬ (x10 = nI 0) → (wM_worthOf x9 x1 (nI 0) σ (fun (r70 : Int32) (σ70 : gM) => vp_in (x7 + (nI 1)) 289 ∧ (wM_passBy_b258 Q K97 K105 x1 x2 x3 x4 x5 x6 x7 x10 s0 (r70 + (σ70 95 (x7 + (nI 1)).toNatClampNeg)) σ70)))) := h
  refine v_istore hC dX7_passBy_212 (by decide) rfl ?_
  refine v_iload hC 10 dX7_passBy_214 rfl ?_
  refine v_if_eq hC 240 dX7_passBy_216 (by decide) (fun c37 => ?_) (fun c37 => ?_)
  · replace h := h.1 c37
    refine v_aload_n hC 1 dX7_passBy_240 rfl ?_
    refine v_iload hC 9 dX7_passBy_241 rfl ?_
    refine v_iload_n hC 3 dX7_passBy_243 rfl ?_
    refine v_iconst hC (nI 0) dX7_passBy_244 rfl ?_
    refine v_callV hC (kM_worthOf _ _ _ _ _ h) cmM_worthOf ⟨kw1160, kw55⟩ kw1158 ⟨Nat.le_of_ble_eq_true rfl, Nat.le_of_ble_eq_true rfl⟩ (Nat.le_of_ble_eq_true rfl) rfl (ci := 7) (T := TX7) (N := 30) rfl (As := fun G => [.int x9, .int x2, .int (nI 0)]) (fun _ => rfl) (fun _ => rfl) (st := []) (Nat.le_of_ble_eq_true rfl) rfl dX7_passBy_245 (kk_i (fun r39 σ39 h => ?_))
    refine v_aload_n hC 1 dX7_passBy_248 rfl ?_
    refine gf_X7_50 hC dX7_passBy_249 ?_
    refine v_iload hC 8 dX7_passBy_252 rfl ?_
    refine v_iconst hC (nI 1) dX7_passBy_254 rfl ?_
    refine v_iadd hC dX7_passBy_255 ?_
    obtain ⟨hi40, h⟩ := h
    refine v_iald hC (Nat.le_of_ble_eq_true rfl) rfl rfl hi40 dX7_passBy_256 ?_
    refine v_iadd hC dX7_passBy_257 ?_
    exact V.sub [1, 2, 3, 4, 5, 6, 7, 8, 10, 0] rfl (tM_passBy_b258 hC hR hK97 hK105 _ _ _ _ _ _ _ _ _ _ _ h)
  · replace h := h.2 c37
    refine v_aload_n hC 1 dX7_passBy_219 rfl ?_
    refine v_iload hC 9 dX7_passBy_220 rfl ?_
    refine v_iload_n hC 2 dX7_passBy_222 rfl ?_
    refine v_iconst hC (nI 0) dX7_passBy_223 rfl ?_
    refine v_callV hC (kM_worthOf _ _ _ _ _ h) cmM_worthOf ⟨kw1160, kw55⟩ kw1158 ⟨Nat.le_of_ble_eq_true rfl, Nat.le_of_ble_eq_true rfl⟩ (Nat.le_of_ble_eq_true rfl) rfl (ci := 7) (T := TX7) (N := 30) rfl (As := fun G => [.int x9, .int x1, .int (nI 0)]) (fun _ => rfl) (fun _ => rfl) (st := []) (Nat.le_of_ble_eq_true rfl) rfl dX7_passBy_224 (kk_i (fun r70 σ70 h => ?_))
    refine v_aload_n hC 1 dX7_passBy_227 rfl ?_
    refine gf_X7_47 hC dX7_passBy_228 ?_
    refine v_iload hC 8 dX7_passBy_231 rfl ?_
    refine v_iconst hC (nI 1) dX7_passBy_233 rfl ?_
    refine v_iadd hC dX7_passBy_234 ?_
    obtain ⟨hi71, h⟩ := h
    refine v_iald hC (Nat.le_of_ble_eq_true rfl) rfl rfl hi71 dX7_passBy_235 ?_
    refine v_iadd hC dX7_passBy_236 ?_
    refine v_goto hC 258 dX7_passBy_237 (by decide) ?_
    exact V.sub [1, 2, 3, 4, 5, 6, 7, 8, 10, 0] rfl (tM_passBy_b258 hC hR hK97 hK105 _ _ _ _ _ _ _ _ _ _ _ h)
set_option maxHeartbeats 4000000 in
set_option maxRecDepth 100000 in
theorem tM_passBy_l105 {X : gX} {Q : Int32 → gM → Prop} (hC : VC X cX7_passBy RX7 18 rmM_passBy) (hR : VR X (some .int) (gPi Q)) {K97 : Int32 → Int32 → Int32 → Int32 → Int32 → gM → Prop} (hK97 : ∀ (x1 : Int32) (x2 : Int32) (x3 : Int32) (x4 : Int32) (x5 : Int32) (σ : gM), K97 x1 x2 x3 x4 x5 σ → V X 18 97 [(0, .ref (xad X 82)), (1, .int x1), (2, .int x2), (3, .int x3), (4, .int x4), (5, .int x5)] [] σ) : ∀ (n : Nat) (x1 : Int32) (x2 : Int32) (x3 : Int32) (x4 : Int32) (x5 : Int32) (x6 : Int32) (σ : gM), wM_passBy_l105 Q K97 n x1 x2 x3 x4 x5 x6 σ → V X 18 105 [(0, .ref (xad X 82)), (1, .int x1), (2, .int x2), (3, .int x3), (4, .int x4), (5, .int x5), (6, .int x6)] [] σ := by
  intro n
  induction n with
  | zero => intro x1 x2 x3 x4 x5 x6 σ h; exact h.elim
  | succ n ih =>
    intro x1 x2 x3 x4 x5 x6 σ h
    replace h : (x5 < x6 → (∀ x5_23 : Int32, x5_23 = x5 + (-1 : Int32) → (K97 x1 x2 x3 x4 x5_23 σ))) ∧ (¬ (x5 < x6) → (∀ x7_24 : Int32, x7_24 = ((((nI 17) * x6) + x5) - x6) → (vp_in x6 16 ∧ (∀ x8_26 : Int32, x8_26 = (σ 94 x6.toNatClampNeg) → (vp_in (((x3 - (nI 1)) - x5) + x6) 16 ∧ (∀ x9_28 : Int32, x9_28 = (σ 94 (((x3 - (nI 1)) - x5) + x6).toNatClampNeg) → (wM_turnOf x5 σ (fun (r30 : Int32) (σ30 : gM) => ∀ v32 : Int32, v32 = (if r30 = nI 0 then (nI 1) else (nI 0)) → ((v32 = nI 0 → (wM_worthOf x8_26 x2 (nI 0) σ30 (fun (r35 : Int32) (σ35 : gM) => vp_in (x7_24 + (nI 17)) 289 ∧ (wM_passBy_b212 Q K97 (wM_passBy_l105 Q K97 n) x1 x2 x3 x4 x5 x6 x7_24 x9_28 v32 (r35 + (σ35 96 (x7_24 + (nI 17)).toNatClampNeg)) σ35)))) ∧ (¬ (v32 = nI 0) → (wM_worthOf x8_26 x1 (nI 0) σ30 (fun (r73 : Int32) (σ73 : gM) => vp_in (x7_24 + (nI 17)) 289 ∧ (wM_passBy_b212 Q K97 (wM_passBy_l105 Q K97 n) x1 x2 x3 x4 x5 x6 x7_24 x9_28 v32 (r73 + (σ73 95 (x7_24 + (nI 17)).toNatClampNeg)) σ73))))))))))))) := h
    refine v_iload hC 6 dX7_passBy_105 rfl ?_
    refine v_iload hC 5 dX7_passBy_107 rfl ?_
    refine v_icmp_gt hC 413 dX7_passBy_109 (by decide) (fun c22 => ?_) (fun c22 => ?_)
    · replace h := h.1 c22
      refine v_iincN hC (-1 : Int32) 5 dX7_passBy_413 rfl rfl (by decide) (lo2 := fun x5_23 => [(5, .int x5_23), (0, .ref (xad X 82)), (1, .int x1), (2, .int x2), (3, .int x3), (4, .int x4), (6, .int x6)]) (fun _ => rfl) (fun x5_23 e23 => ?_)
      replace h := h x5_23 e23
      refine v_goto hC 97 dX7_passBy_416 (by decide) ?_
      exact V.sub [1, 2, 3, 4, 5, 0] rfl (hK97 _ _ _ _ _ _ h)
    · replace h := h.2 c22
      refine v_bipush hC (nI 17) dX7_passBy_112 rfl ?_
      refine v_iload hC 6 dX7_passBy_114 rfl ?_
      refine v_imul hC dX7_passBy_116 ?_
      refine v_iload hC 5 dX7_passBy_117 rfl ?_
      refine v_iadd hC dX7_passBy_119 ?_
      refine v_iload hC 6 dX7_passBy_120 rfl ?_
      refine v_isub hC dX7_passBy_122 ?_
      refine v_istoreN hC dX7_passBy_123 (by decide) (lo2 := fun x7_24 => [(7, .int x7_24), (0, .ref (xad X 82)), (1, .int x1), (2, .int x2), (3, .int x3), (4, .int x4), (5, .int x5), (6, .int x6)]) (fun _ => rfl) (fun x7_24 e24 => ?_)
      replace h := h x7_24 e24
      refine v_aload_n hC 1 dX7_passBy_125 rfl ?_
      refine gf_X7_44 hC dX7_passBy_126 ?_
      refine v_iload hC 7 dX7_passBy_129 rfl ?_
      obtain ⟨hi25, h⟩ := h
      refine v_iald hC (Nat.le_of_ble_eq_true rfl) rfl rfl hi25 dX7_passBy_131 ?_
      refine v_istoreN hC dX7_passBy_132 (by decide) (lo2 := fun x8_26 => [(8, .int x8_26), (7, .int x7_24), (0, .ref (xad X 82)), (1, .int x1), (2, .int x2), (3, .int x3), (4, .int x4), (5, .int x5), (6, .int x6)]) (fun _ => rfl) (fun x8_26 e26 => ?_)
      replace h := h x8_26 e26
      refine v_aload_n hC 2 dX7_passBy_134 rfl ?_
      refine gf_X7_44 hC dX7_passBy_135 ?_
      refine v_iload_n hC 5 dX7_passBy_138 rfl ?_
      refine v_iconst hC (nI 1) dX7_passBy_139 rfl ?_
      refine v_isub hC dX7_passBy_140 ?_
      refine v_iload hC 7 dX7_passBy_141 rfl ?_
      refine v_isub hC dX7_passBy_143 ?_
      refine v_iload hC 8 dX7_passBy_144 rfl ?_
      refine v_iadd hC dX7_passBy_146 ?_
      obtain ⟨hi27, h⟩ := h
      refine v_iald hC (Nat.le_of_ble_eq_true rfl) rfl rfl hi27 dX7_passBy_147 ?_
      refine v_istoreN hC dX7_passBy_148 (by decide) (lo2 := fun x9_28 => [(9, .int x9_28), (8, .int x8_26), (7, .int x7_24), (0, .ref (xad X 82)), (1, .int x1), (2, .int x2), (3, .int x3), (4, .int x4), (5, .int x5), (6, .int x6)]) (fun _ => rfl) (fun x9_28 e28 => ?_)
      replace h := h x9_28 e28
      refine v_aload_n hC 3 dX7_passBy_150 rfl ?_
      refine v_iload hC 8 dX7_passBy_151 rfl ?_
      refine v_callV hC (kM_turnOf _ _ _ h) cmM_turnOf ⟨kw1235, kw66⟩ kw1233 ⟨Nat.le_of_ble_eq_true rfl, Nat.le_of_ble_eq_true rfl⟩ (Nat.le_of_ble_eq_true rfl) rfl (ci := 7) (T := TX7) (N := 30) rfl (As := fun G => [.int x5]) (fun _ => rfl) (fun _ => rfl) (st := []) (Nat.le_of_ble_eq_true rfl) rfl dX7_passBy_153 (kk_i (fun r30 σ30 h => ?_))
      have J31 : ∀ (v32 : Int32) (ev32 : v32 = (if r30 = nI 0 then (nI 1) else (nI 0))), V X 18 164 [(0, .ref (xad X 82)), (1, .int x1), (2, .int x2), (3, .int x3), (4, .int x4), (5, .int x5), (6, .int x6), (7, .int x7_24), (8, .int x8_26), (9, .int x9_28)] [.int v32] σ30 := by
        intro v32 ev32
        replace h := h v32 ev32
        refine v_istore hC dX7_passBy_164 (by decide) rfl ?_
        refine v_iload hC 0 dX7_passBy_166 rfl ?_
        refine v_if_eq hC 193 dX7_passBy_168 (by decide) (fun c33 => ?_) (fun c33 => ?_)
        · replace h := h.1 c33
          refine v_aload_n hC 1 dX7_passBy_193 rfl ?_
          refine v_iload hC 9 dX7_passBy_194 rfl ?_
          refine v_iload_n hC 3 dX7_passBy_196 rfl ?_
          refine v_iconst hC (nI 0) dX7_passBy_197 rfl ?_
          refine v_callV hC (kM_worthOf _ _ _ _ _ h) cmM_worthOf ⟨kw1160, kw55⟩ kw1158 ⟨Nat.le_of_ble_eq_true rfl, Nat.le_of_ble_eq_true rfl⟩ (Nat.le_of_ble_eq_true rfl) rfl (ci := 7) (T := TX7) (N := 30) rfl (As := fun G => [.int x8_26, .int x2, .int (nI 0)]) (fun _ => rfl) (fun _ => rfl) (st := []) (Nat.le_of_ble_eq_true rfl) rfl dX7_passBy_198 (kk_i (fun r35 σ35 h => ?_))
          refine v_aload_n hC 1 dX7_passBy_201 rfl ?_
          refine gf_X7_50 hC dX7_passBy_202 ?_
          refine v_iload hC 8 dX7_passBy_205 rfl ?_
          refine v_bipush hC (nI 17) dX7_passBy_207 rfl ?_
          refine v_iadd hC dX7_passBy_209 ?_
          obtain ⟨hi36, h⟩ := h
          refine v_iald hC (Nat.le_of_ble_eq_true rfl) rfl rfl hi36 dX7_passBy_210 ?_
          refine v_iadd hC dX7_passBy_211 ?_
          exact V.sub [1, 2, 3, 4, 5, 6, 7, 8, 10, 0] rfl (tM_passBy_b212 hC hR hK97 ih _ _ _ _ _ _ _ _ _ _ _ h)
        · replace h := h.2 c33
          refine v_aload_n hC 1 dX7_passBy_171 rfl ?_
          refine v_iload hC 9 dX7_passBy_172 rfl ?_
          refine v_iload_n hC 2 dX7_passBy_174 rfl ?_
          refine v_iconst hC (nI 0) dX7_passBy_175 rfl ?_
          refine v_callV hC (kM_worthOf _ _ _ _ _ h) cmM_worthOf ⟨kw1160, kw55⟩ kw1158 ⟨Nat.le_of_ble_eq_true rfl, Nat.le_of_ble_eq_true rfl⟩ (Nat.le_of_ble_eq_true rfl) rfl (ci := 7) (T := TX7) (N := 30) rfl (As := fun G => [.int x8_26, .int x1, .int (nI 0)]) (fun _ => rfl) (fun _ => rfl) (st := []) (Nat.le_of_ble_eq_true rfl) rfl dX7_passBy_176 (kk_i (fun r73 σ73 h => ?_))
          refine v_aload_n hC 1 dX7_passBy_179 rfl ?_
          refine gf_X7_47 hC dX7_passBy_180 ?_
          refine v_iload hC 8 dX7_passBy_183 rfl ?_
          refine v_bipush hC (nI 17) dX7_passBy_185 rfl ?_
          refine v_iadd hC dX7_passBy_187 ?_
          obtain ⟨hi74, h⟩ := h
          refine v_iald hC (Nat.le_of_ble_eq_true rfl) rfl rfl hi74 dX7_passBy_188 ?_
          refine v_iadd hC dX7_passBy_189 ?_
          refine v_goto hC 212 dX7_passBy_190 (by decide) ?_
          exact V.sub [1, 2, 3, 4, 5, 6, 7, 8, 10, 0] rfl (tM_passBy_b212 hC hR hK97 ih _ _ _ _ _ _ _ _ _ _ _ h)
      refine v_if_ne hC 163 dX7_passBy_156 (by decide) (fun c31 => ?_) (fun c31 => ?_)
      · refine v_iconst hC (nI 0) dX7_passBy_163 rfl ?_
        exact V.sub [3, 4, 5, 6, 7, 8, 9, 2, 1, 0] rfl (J31 _ (by rw [if_neg c31]))
      · refine v_iconst hC (nI 1) dX7_passBy_159 rfl ?_
        refine v_goto hC 164 dX7_passBy_160 (by decide) ?_
        exact V.sub [3, 4, 5, 6, 7, 8, 9, 2, 1, 0] rfl (J31 _ (by rw [if_pos c31]))
set_option maxHeartbeats 4000000 in
set_option maxRecDepth 100000 in
theorem tM_passBy_l97 {X : gX} {Q : Int32 → gM → Prop} (hC : VC X cX7_passBy RX7 18 rmM_passBy) (hR : VR X (some .int) (gPi Q))  : ∀ (n : Nat) (x1 : Int32) (x2 : Int32) (x3 : Int32) (x4 : Int32) (x5 : Int32) (σ : gM), wM_passBy_l97 Q  n x1 x2 x3 x4 x5 σ → V X 18 97 [(0, .ref (xad X 82)), (1, .int x1), (2, .int x2), (3, .int x3), (4, .int x4), (5, .int x5)] [] σ := by
  intro n
  induction n with
  | zero => intro x1 x2 x3 x4 x5 σ h; exact h.elim
  | succ n ih =>
    intro x1 x2 x3 x4 x5 σ h
    replace h : (x5 < nI 0 → (∀ v20 : Int32, v20 = (if (σ 95 0) ≤ x4 then (nI 0) else ((σ 95 0) - x4)) → (Q v20 σ))) ∧ (¬ (x5 < nI 0) → (∃ n75 : Nat, wM_passBy_l105 Q (wM_passBy_l97 Q n) n75 x1 x2 x3 x4 x5 (nI 0) σ)) := h
    refine v_iload hC 5 dX7_passBy_97 rfl ?_
    refine v_if_lt hC 419 dX7_passBy_99 (by decide) (fun c16 => ?_) (fun c16 => ?_)
    · replace h := h.1 c16
      refine v_aload_n hC 0 dX7_passBy_419 rfl ?_
      refine gf_X7_47 hC dX7_passBy_420 ?_
      refine v_iconst hC (nI 0) dX7_passBy_423 rfl ?_
      refine v_iald hC (Nat.le_of_ble_eq_true rfl) rfl (j := 0) (by decide) (by unfold vp_in; decide) dX7_passBy_424 ?_
      refine v_iload hC 4 dX7_passBy_425 rfl ?_
      have J18 : ∀ (v20 : Int32) (ev20 : v20 = (if (σ 95 0) ≤ x4 then (nI 0) else ((σ 95 0) - x4))), V X 18 443 [] [.int v20] σ := by
        intro v20 ev20
        replace h := h v20 ev20
        exact v_iret hC hR h dX7_passBy_443
      refine v_icmp_le hC 442 dX7_passBy_427 (by decide) (fun c18 => ?_) (fun c18 => ?_)
      · refine v_iconst hC (nI 0) dX7_passBy_442 rfl ?_
        exact V.sub [] rfl (J18 _ (by rw [if_pos c18]))
      · refine v_aload_n hC 0 dX7_passBy_430 rfl ?_
        refine gf_X7_47 hC dX7_passBy_431 ?_
        refine v_iconst hC (nI 0) dX7_passBy_434 rfl ?_
        refine v_iald hC (Nat.le_of_ble_eq_true rfl) rfl (j := 0) (by decide) (by unfold vp_in; decide) dX7_passBy_435 ?_
        refine v_iload hC 4 dX7_passBy_436 rfl ?_
        refine v_isub hC dX7_passBy_438 ?_
        refine v_goto hC 443 dX7_passBy_439 (by decide) ?_
        exact V.sub [] rfl (J18 _ (by rw [if_neg c18]))
    · replace h := h.2 c16
      refine v_iconst hC (nI 0) dX7_passBy_102 rfl ?_
      refine v_istore hC dX7_passBy_103 (by decide) rfl ?_
      obtain ⟨n75, h⟩ := h
      exact V.sub [1, 2, 3, 4, 5, 6, 0] rfl (tM_passBy_l105 hC hR ih n75 _ _ _ _ _ _ _ h)
set_option maxHeartbeats 4000000 in
set_option maxRecDepth 100000 in
theorem tM_passBy_l34 {X : gX} {Q : Int32 → gM → Prop} (hC : VC X cX7_passBy RX7 18 rmM_passBy) (hR : VR X (some .int) (gPi Q))  : ∀ (n : Nat) (x1 : Int32) (x2 : Int32) (x3 : Int32) (x4 : Int32) (σ : gM), wM_passBy_l34 Q  n x1 x2 x3 x4 σ → V X 18 34 [(0, .ref (xad X 82)), (1, .int x1), (2, .int x2), (3, .int x3), (4, .int x4)] [] σ := by
  intro n
  induction n with
  | zero => intro x1 x2 x3 x4 σ h; exact h.elim
  | succ n ih =>
    intro x1 x2 x3 x4 σ h
    replace h : ((nI 289) ≤ x4 → (wM_layBest x3 x1 x2 (nI 0) σ (fun (σ12 : gM) => ∀ x4_14 : Int32, x4_14 = (σ12 95 0) → (∀ x5_15 : Int32, x5_15 = (x3 - (nI 1)) → (∃ n76 : Nat, wM_passBy_l97 Q n76 x1 x2 x3 x4_14 x5_15 σ12))))) ∧ (¬ ((nI 289) ≤ x4) → (vp_in x4 289 ∧ (vp_in x4 289 ∧ (∀ σ78 : gM, σ78 = gU σ 97 x4.toNatClampNeg (σ 95 x4.toNatClampNeg) → (vp_in x4 289 ∧ (vp_in x4 289 ∧ (∀ σ80 : gM, σ80 = gU σ78 98 x4.toNatClampNeg (σ78 96 x4.toNatClampNeg) → (∀ x4_81 : Int32, x4_81 = x4 + (nI 1) → (wM_passBy_l34 Q n x1 x2 x3 x4_81 σ80))))))))) := h
    refine v_iload hC 4 dX7_passBy_34 rfl ?_
    refine v_sipush hC (nI 289) dX7_passBy_36 rfl ?_
    refine v_icmp_ge hC 76 dX7_passBy_39 (by decide) (fun c10 => ?_) (fun c10 => ?_)
    · replace h := h.1 c10
      refine v_aload_n hC 0 dX7_passBy_76 rfl ?_
      refine v_iload_n hC 3 dX7_passBy_77 rfl ?_
      refine v_iload_n hC 1 dX7_passBy_78 rfl ?_
      refine v_iload_n hC 2 dX7_passBy_79 rfl ?_
      refine v_iconst hC (nI 0) dX7_passBy_80 rfl ?_
      refine v_callV hC (kM_layBest _ _ _ _ _ _ h) cmM_layBest ⟨kw1231, kw65⟩ kw1229 ⟨Nat.le_of_ble_eq_true rfl, Nat.le_of_ble_eq_true rfl⟩ (Nat.le_of_ble_eq_true rfl) rfl (ci := 7) (T := TX7) (N := 30) rfl (As := fun G => [.int x3, .int x1, .int x2, .int (nI 0)]) (fun _ => rfl) (fun _ => rfl) (st := []) (Nat.le_of_ble_eq_true rfl) rfl dX7_passBy_81 (kk_v (fun σ12 h => ?_))
      refine v_aload_n hC 0 dX7_passBy_84 rfl ?_
      refine gf_X7_47 hC dX7_passBy_85 ?_
      refine v_iconst hC (nI 0) dX7_passBy_88 rfl ?_
      refine v_iald hC (Nat.le_of_ble_eq_true rfl) rfl (j := 0) (by decide) (by unfold vp_in; decide) dX7_passBy_89 ?_
      refine v_istoreN hC dX7_passBy_90 (by decide) (lo2 := fun x4_14 => [(4, .int x4_14), (0, .ref (xad X 82)), (1, .int x1), (2, .int x2), (3, .int x3)]) (fun _ => rfl) (fun x4_14 e14 => ?_)
      replace h := h x4_14 e14
      refine v_iload_n hC 4 dX7_passBy_92 rfl ?_
      refine v_iconst hC (nI 1) dX7_passBy_93 rfl ?_
      refine v_isub hC dX7_passBy_94 ?_
      refine v_istoreN hC dX7_passBy_95 (by decide) (lo2 := fun x5_15 => [(5, .int x5_15), (4, .int x4_14), (0, .ref (xad X 82)), (1, .int x1), (2, .int x2), (3, .int x3)]) (fun _ => rfl) (fun x5_15 e15 => ?_)
      replace h := h x5_15 e15
      obtain ⟨n76, h⟩ := h
      exact V.sub [2, 3, 4, 5, 1, 0] rfl (tM_passBy_l97 hC hR  n76 _ _ _ _ _ _ h)
    · replace h := h.2 c10
      refine v_aload_n hC 0 dX7_passBy_42 rfl ?_
      refine gf_X7_53 hC dX7_passBy_43 ?_
      refine v_iload hC 4 dX7_passBy_46 rfl ?_
      refine v_aload_n hC 0 dX7_passBy_48 rfl ?_
      refine gf_X7_47 hC dX7_passBy_49 ?_
      refine v_iload hC 4 dX7_passBy_52 rfl ?_
      obtain ⟨hi77, h⟩ := h
      refine v_iald hC (Nat.le_of_ble_eq_true rfl) rfl rfl hi77 dX7_passBy_54 ?_
      obtain ⟨hi78, h⟩ := h
      refine v_iast hC (Nat.le_of_ble_eq_true rfl) rfl rfl hi78 dX7_passBy_55 (fun σ78 e78 => ?_)
      replace h := h σ78 e78
      refine v_aload_n hC 0 dX7_passBy_56 rfl ?_
      refine gf_X7_56 hC dX7_passBy_57 ?_
      refine v_iload hC 4 dX7_passBy_60 rfl ?_
      refine v_aload_n hC 0 dX7_passBy_62 rfl ?_
      refine gf_X7_50 hC dX7_passBy_63 ?_
      refine v_iload hC 4 dX7_passBy_66 rfl ?_
      obtain ⟨hi79, h⟩ := h
      refine v_iald hC (Nat.le_of_ble_eq_true rfl) rfl rfl hi79 dX7_passBy_68 ?_
      obtain ⟨hi80, h⟩ := h
      refine v_iast hC (Nat.le_of_ble_eq_true rfl) rfl rfl hi80 dX7_passBy_69 (fun σ80 e80 => ?_)
      replace h := h σ80 e80
      refine v_iincN hC (nI 1) 4 dX7_passBy_70 rfl rfl (by decide) (lo2 := fun x4_81 => [(4, .int x4_81), (0, .ref (xad X 82)), (1, .int x1), (2, .int x2), (3, .int x3)]) (fun _ => rfl) (fun x4_81 e81 => ?_)
      replace h := h x4_81 e81
      refine v_goto hC 34 dX7_passBy_73 (by decide) ?_
      exact V.sub [1, 2, 3, 4, 0] rfl (ih _ _ _ _ _ h)
set_option maxHeartbeats 4000000 in
set_option maxRecDepth 100000 in
theorem kM_passBy (x1 : Int32) (x2 : Int32) (σ : gM) (Q : Int32 → gM → Prop) (h : wM_passBy x1 x2 σ Q) : CT yX7_passBy cX7_passBy 18 (some .int) rmM_passBy (fun G => [.ref (gad G 82), .int x1, .int x2]) σ (gPi Q) := by
  refine c_enter (by decide) (fun _ => Nat.le_of_ble_eq_true rfl) (fun X hC hR => ?_)
  show V X 18 0 [(0, .ref (xad X 82)), (1, .int x1), (2, .int x2)] [] σ
  replace h : wM_areUnlike x1 x2 σ (fun (r2 : Int32) (σ2 : gM) => (r2 = nI 0 → (Q (-1000001 : Int32) σ2)) ∧ (¬ (r2 = nI 0) → (∀ x3_5 : Int32, x3_5 = (σ2 89 5) → (wM_layHeap  σ2 (fun (σ7 : gM) => wM_layBest x3_5 x1 x2 (nI 1) σ7 (fun (σ9 : gM) => ∃ n82 : Nat, wM_passBy_l34 Q n82 x1 x2 x3_5 (nI 0) σ9)))))) := h
  refine v_aload_n hC 0 dX7_passBy_0 rfl ?_
  refine v_iload_n hC 1 dX7_passBy_1 rfl ?_
  refine v_iload_n hC 2 dX7_passBy_2 rfl ?_
  refine v_callV hC (kM_areUnlike _ _ _ _ h) cmM_areUnlike ⟨kw1223, kw63⟩ kw1221 ⟨Nat.le_of_ble_eq_true rfl, Nat.le_of_ble_eq_true rfl⟩ (Nat.le_of_ble_eq_true rfl) rfl (ci := 7) (T := TX7) (N := 30) rfl (As := fun G => [.int x1, .int x2]) (fun _ => rfl) (fun _ => rfl) (st := []) (Nat.le_of_ble_eq_true rfl) rfl dX7_passBy_3 (kk_i (fun r2 σ2 h => ?_))
  refine v_if_ne hC 12 dX7_passBy_6 (by decide) (fun c3 => ?_) (fun c3 => ?_)
  · replace h := h.2 c3
    refine v_aload_n hC 0 dX7_passBy_12 rfl ?_
    refine gf_X7_28 hC dX7_passBy_13 ?_
    refine v_iconst hC (nI 5) dX7_passBy_16 rfl ?_
    refine v_iald hC (Nat.le_of_ble_eq_true rfl) rfl (j := 5) (by decide) (by unfold vp_in; decide) dX7_passBy_17 ?_
    refine v_istore_nN hC dX7_passBy_18 (by decide) (lo2 := fun x3_5 => [(3, .int x3_5), (0, .ref (xad X 82)), (1, .int x1), (2, .int x2)]) (fun _ => rfl) (fun x3_5 e5 => ?_)
    replace h := h x3_5 e5
    refine v_aload_n hC 1 dX7_passBy_19 rfl ?_
    refine v_callV hC (kM_layHeap  _ _ h) cmM_layHeap ⟨kw1227, kw64⟩ kw1225 ⟨Nat.le_of_ble_eq_true rfl, Nat.le_of_ble_eq_true rfl⟩ (Nat.le_of_ble_eq_true rfl) rfl (ci := 7) (T := TX7) (N := 30) rfl (As := fun G => []) (fun _ => rfl) (fun _ => rfl) (st := []) (Nat.le_of_ble_eq_true rfl) rfl dX7_passBy_20 (kk_v (fun σ7 h => ?_))
    refine v_aload_n hC 1 dX7_passBy_23 rfl ?_
    refine v_iload_n hC 0 dX7_passBy_24 rfl ?_
    refine v_iload_n hC 2 dX7_passBy_25 rfl ?_
    refine v_iload_n hC 3 dX7_passBy_26 rfl ?_
    refine v_iconst hC (nI 1) dX7_passBy_27 rfl ?_
    refine v_callV hC (kM_layBest _ _ _ _ _ _ h) cmM_layBest ⟨kw1231, kw65⟩ kw1229 ⟨Nat.le_of_ble_eq_true rfl, Nat.le_of_ble_eq_true rfl⟩ (Nat.le_of_ble_eq_true rfl) rfl (ci := 7) (T := TX7) (N := 30) rfl (As := fun G => [.int x3_5, .int x1, .int x2, .int (nI 1)]) (fun _ => rfl) (fun _ => rfl) (st := []) (Nat.le_of_ble_eq_true rfl) rfl dX7_passBy_28 (kk_v (fun σ9 h => ?_))
    refine v_iconst hC (nI 0) dX7_passBy_31 rfl ?_
    refine v_istore hC dX7_passBy_32 (by decide) rfl ?_
    obtain ⟨n82, h⟩ := h
    exact V.sub [2, 3, 4, 1, 0] rfl (tM_passBy_l34 hC hR  n82 _ _ _ _ _ h)
  · replace h := h.1 c3
    refine v_ldc hC kw1053 dX7_passBy_9 ?_
    exact v_iret hC hR h dX7_passBy_11
theorem cmM_passBy : CM yX7_passBy cX7_passBy 18 (some .int) rmM_passBy 2 := ⟨kw82, kw1240, rfl, rfl, by decide, by decide, by decide +kernel⟩
def rmM_mostLaid : Room := { frames := 4, cells := 0, slots := 0, locals := 104 }
def wM_mostLaid_l114 (Q : Int32 → gM → Prop) (K94 : Int32 → Int32 → Int32 → Int32 → Int32 → Int32 → Int32 → Int32 → gM → Prop) : Nat → Int32 → Int32 → Int32 → Int32 → Int32 → Int32 → Int32 → Int32 → Int32 → Int32 → Int32 → gM → Prop
  | 0, _, _, _, _, _, _, _, _, _, _, _, _ => False
  | n + 1, x1, x2, x3, x4, x5, x8, x9, x10, x11, x12, x13, σ =>
    (x13 < nI 0 → ((x12 = (((nI 1) <<< (x4 &&& 31)) - (nI 1)) → (wM_layBest x4 x1 x2 (nI 0) σ (fun (σ13 : gM) => ((σ13 95 0) ≤ x8 → (∀ x10_16 : Int32, x10_16 = x10 + (nI 1) → (K94 x1 x2 x3 x4 x5 x8 x9 x10_16 σ13))) ∧ (¬ ((σ13 95 0) ≤ x8) → (∀ x8_18 : Int32, x8_18 = (σ13 95 0) → (wM_in x3 (nI 0) (x4 - (nI 1)) σ13 (fun (r20 : Int32) (σ20 : gM) => ((r20 = nI 0 → (True)) ∧ (¬ (r20 = nI 0) → (vp_in x3 16 ∧ True))) ∧ (∀ v23 : Int32, v23 = (if r20 = nI 0 then (-1000000 : Int32) else (σ20 94 x3.toNatClampNeg)) → (∀ x10_24 : Int32, x10_24 = x10 + (nI 1) → (K94 x1 x2 x3 x4 x5 x8_18 v23 x10_24 σ20)))))))))) ∧ (¬ (x12 = (((nI 1) <<< (x4 &&& 31)) - (nI 1))) → (∀ x10_26 : Int32, x10_26 = x10 + (nI 1) → (K94 x1 x2 x3 x4 x5 x8 x9 x10_26 σ))))) ∧ (¬ (x13 < nI 0) → (¬ x4 = nI 0 ∧ (vp_in (x11 - x11 / x4 * x4) 7 ∧ (vp_in x13 16 ∧ (∀ σ29 : gM, σ29 = gU σ 94 x13.toNatClampNeg (σ 99 (x11 - x11 / x4 * x4).toNatClampNeg) → (¬ x4 = nI 0 ∧ (∀ x12_31 : Int32, x12_31 = (x12 ||| ((nI 1) <<< ((x11 - x11 / x4 * x4) &&& 31))) → (¬ x4 = nI 0 ∧ (∀ x11_33 : Int32, x11_33 = (x11 / x4) → (∀ x13_34 : Int32, x13_34 = x13 + (-1 : Int32) → (wM_mostLaid_l114 Q K94 n x1 x2 x3 x4 x5 x8 x9 x10 x11_33 x12_31 x13_34 σ29)))))))))))
def wM_mostLaid_l94 (Q : Int32 → gM → Prop)  : Nat → Int32 → Int32 → Int32 → Int32 → Int32 → Int32 → Int32 → Int32 → gM → Prop
  | 0, _, _, _, _, _, _, _, _, _ => False
  | n + 1, x1, x2, x3, x4, x5, x8, x9, x10, σ =>
    (x5 ≤ x10 → (∀ v8 : Int32, v8 = (if x3 = (-1 : Int32) then x8 else x9) → (Q v8 σ))) ∧ (¬ (x5 ≤ x10) → (∀ x13_9 : Int32, x13_9 = (x4 - (nI 1)) → (∃ n35 : Nat, wM_mostLaid_l114 Q (wM_mostLaid_l94 Q n) n35 x1 x2 x3 x4 x5 x8 x9 x10 x10 (nI 0) x13_9 σ)))
def wM_mostLaid_l46 (Q : Int32 → gM → Prop)  : Nat → Int32 → Int32 → Int32 → Int32 → Int32 → Int32 → Int32 → gM → Prop
  | 0, _, _, _, _, _, _, _, _ => False
  | n + 1, x1, x2, x3, x4, x5, x7, x8, σ =>
    ((σ 89 3) ≤ x8 → (∃ n36 : Nat, wM_mostLaid_l94 Q n36 x1 x2 x3 x4 x5 (-1 : Int32) (-1000000 : Int32) (nI 0) σ)) ∧ (¬ ((σ 89 3) ≤ x8) → (wM_placeOf x8 σ (fun (r38 : Int32) (σ38 : gM) => (r38 = (-1000000 : Int32) → (∀ x8_40 : Int32, x8_40 = x8 + (nI 1) → (wM_mostLaid_l46 Q n x1 x2 x3 x4 x5 x7 x8_40 σ38))) ∧ (¬ (r38 = (-1000000 : Int32)) → (vp_in x7 7 ∧ (∀ σ41 : gM, σ41 = gU σ38 99 x7.toNatClampNeg x8 → (∀ x7_42 : Int32, x7_42 = x7 + (nI 1) → (∀ x8_43 : Int32, x8_43 = x8 + (nI 1) → (wM_mostLaid_l46 Q n x1 x2 x3 x4 x5 x7_42 x8_43 σ41)))))))))
def wM_mostLaid_l14 (Q : Int32 → gM → Prop)  : Nat → Int32 → Int32 → Int32 → Int32 → Int32 → Int32 → gM → Prop
  | 0, _, _, _, _, _, _, _ => False
  | n + 1, x1, x2, x3, x4, x5, x6, σ =>
    (x4 ≤ x6 → (∃ n44 : Nat, wM_mostLaid_l46 Q n44 x1 x2 x3 x4 x5 (nI 0) (nI 0) σ)) ∧ (¬ (x4 ≤ x6) → (∀ x5_45 : Int32, x5_45 = (x5 * x4) → (∀ x6_46 : Int32, x6_46 = x6 + (nI 1) → (wM_mostLaid_l14 Q n x1 x2 x3 x4 x5_45 x6_46 σ))))
def wM_mostLaid (x1 : Int32) (x2 : Int32) (x3 : Int32) (σ : gM) (Q : Int32 → gM → Prop) : Prop :=
    ∀ x4_2 : Int32, x4_2 = (σ 89 5) → (∃ n47 : Nat, wM_mostLaid_l14 Q n47 x1 x2 x3 x4_2 (nI 1) (nI 0) σ)
set_option maxHeartbeats 4000000 in
set_option maxRecDepth 100000 in
theorem tM_mostLaid_l114 {X : gX} {Q : Int32 → gM → Prop} (hC : VC X cX7_mostLaid RX7 14 rmM_mostLaid) (hR : VR X (some .int) (gPi Q)) {K94 : Int32 → Int32 → Int32 → Int32 → Int32 → Int32 → Int32 → Int32 → gM → Prop} (hK94 : ∀ (x1 : Int32) (x2 : Int32) (x3 : Int32) (x4 : Int32) (x5 : Int32) (x8 : Int32) (x9 : Int32) (x10 : Int32) (σ : gM), K94 x1 x2 x3 x4 x5 x8 x9 x10 σ → V X 14 94 [(0, .ref (xad X 82)), (1, .int x1), (2, .int x2), (3, .int x3), (4, .int x4), (5, .int x5), (6, .ref (xad X 99)), (8, .int x8), (9, .int x9), (10, .int x10)] [] σ) : ∀ (n : Nat) (x1 : Int32) (x2 : Int32) (x3 : Int32) (x4 : Int32) (x5 : Int32) (x8 : Int32) (x9 : Int32) (x10 : Int32) (x11 : Int32) (x12 : Int32) (x13 : Int32) (σ : gM), wM_mostLaid_l114 Q K94 n x1 x2 x3 x4 x5 x8 x9 x10 x11 x12 x13 σ → V X 14 114 [(0, .ref (xad X 82)), (1, .int x1), (2, .int x2), (3, .int x3), (4, .int x4), (5, .int x5), (6, .ref (xad X 99)), (8, .int x8), (9, .int x9), (10, .int x10), (11, .int x11), (12, .int x12), (13, .int x13)] [] σ := by
  intro n
  induction n with
  | zero => intro x1 x2 x3 x4 x5 x8 x9 x10 x11 x12 x13 σ h; exact h.elim
  | succ n ih =>
    intro x1 x2 x3 x4 x5 x8 x9 x10 x11 x12 x13 σ h
    replace h : (x13 < nI 0 → ((x12 = (((nI 1) <<< (x4 &&& 31)) - (nI 1)) → (wM_layBest x4 x1 x2 (nI 0) σ (fun (σ13 : gM) => ((σ13 95 0) ≤ x8 → (∀ x10_16 : Int32, x10_16 = x10 + (nI 1) → (K94 x1 x2 x3 x4 x5 x8 x9 x10_16 σ13))) ∧ (¬ ((σ13 95 0) ≤ x8) → (∀ x8_18 : Int32, x8_18 = (σ13 95 0) → (wM_in x3 (nI 0) (x4 - (nI 1)) σ13 (fun (r20 : Int32) (σ20 : gM) => ((r20 = nI 0 → (True)) ∧ (¬ (r20 = nI 0) → (vp_in x3 16 ∧ True))) ∧ (∀ v23 : Int32, v23 = (if r20 = nI 0 then (-1000000 : Int32) else (σ20 94 x3.toNatClampNeg)) → (∀ x10_24 : Int32, x10_24 = x10 + (nI 1) → (K94 x1 x2 x3 x4 x5 x8_18 v23 x10_24 σ20)))))))))) ∧ (¬ (x12 = (((nI 1) <<< (x4 &&& 31)) - (nI 1))) → (∀ x10_26 : Int32, x10_26 = x10 + (nI 1) → (K94 x1 x2 x3 x4 x5 x8 x9 x10_26 σ))))) ∧ (¬ (x13 < nI 0) → (¬ x4 = nI 0 ∧ (vp_in (x11 - x11 / x4 * x4) 7 ∧ (vp_in x13 16 ∧ (∀ σ29 : gM, σ29 = gU σ 94 x13.toNatClampNeg (σ 99 (x11 - x11 / x4 * x4).toNatClampNeg) → (¬ x4 = nI 0 ∧ (∀ x12_31 : Int32, x12_31 = (x12 ||| ((nI 1) <<< ((x11 - x11 / x4 * x4) &&& 31))) → (¬ x4 = nI 0 ∧ (∀ x11_33 : Int32, x11_33 = (x11 / x4) → (∀ x13_34 : Int32, x13_34 = x13 + (-1 : Int32) → (wM_mostLaid_l114 Q K94 n x1 x2 x3 x4 x5 x8 x9 x10 x11_33 x12_31 x13_34 σ29))))))))))) := h
    refine v_iload hC 12 dX7_mostLaid_114 rfl ?_
    refine v_if_lt hC 159 dX7_mostLaid_116 (by decide) (fun c10 => ?_) (fun c10 => ?_)
    · replace h := h.1 c10
      refine v_iload hC 11 dX7_mostLaid_159 rfl ?_
      refine v_iconst hC (nI 1) dX7_mostLaid_161 rfl ?_
      refine v_iload hC 4 dX7_mostLaid_162 rfl ?_
      refine v_ishl hC dX7_mostLaid_164 ?_
      refine v_iconst hC (nI 1) dX7_mostLaid_165 rfl ?_
      refine v_isub hC dX7_mostLaid_166 ?_
      refine v_icmp_ne hC 223 dX7_mostLaid_167 (by decide) (fun c11 => ?_) (fun c11 => ?_)
      · replace h := h.2 c11
        refine v_iincN hC (nI 1) 9 dX7_mostLaid_223 rfl rfl (by decide) (lo2 := fun x10_26 => [(10, .int x10_26), (0, .ref (xad X 82)), (1, .int x1), (2, .int x2), (3, .int x3), (4, .int x4), (5, .int x5), (6, .ref (xad X 99)), (8, .int x8), (9, .int x9), (11, .int x11), (12, .int x12), (13, .int x13)]) (fun _ => rfl) (fun x10_26 e26 => ?_)
        replace h := h x10_26 e26
        refine v_goto hC 94 dX7_mostLaid_226 (by decide) ?_
        exact V.sub [1, 2, 3, 4, 5, 6, 7, 8, 9, 0] rfl (hK94 _ _ _ _ _ _ _ _ _ h)
      · replace h := h.1 c11
        refine v_aload_n hC 0 dX7_mostLaid_170 rfl ?_
        refine v_iload hC 4 dX7_mostLaid_171 rfl ?_
        refine v_iload_n hC 1 dX7_mostLaid_173 rfl ?_
        refine v_iload_n hC 2 dX7_mostLaid_174 rfl ?_
        refine v_iconst hC (nI 0) dX7_mostLaid_175 rfl ?_
        refine v_callV hC (kM_layBest _ _ _ _ _ _ h) cmM_layBest ⟨kw1231, kw65⟩ kw1229 ⟨Nat.le_of_ble_eq_true rfl, Nat.le_of_ble_eq_true rfl⟩ (Nat.le_of_ble_eq_true rfl) rfl (ci := 7) (T := TX7) (N := 30) rfl (As := fun G => [.int x4, .int x1, .int x2, .int (nI 0)]) (fun _ => rfl) (fun _ => rfl) (st := []) (Nat.le_of_ble_eq_true rfl) rfl dX7_mostLaid_176 (kk_v (fun σ13 h => ?_))
        refine v_aload_n hC 0 dX7_mostLaid_179 rfl ?_
        refine gf_X7_47 hC dX7_mostLaid_180 ?_
        refine v_iconst hC (nI 0) dX7_mostLaid_183 rfl ?_
        refine v_iald hC (Nat.le_of_ble_eq_true rfl) rfl (j := 0) (by decide) (by unfold vp_in; decide) dX7_mostLaid_184 ?_
        refine v_iload hC 7 dX7_mostLaid_185 rfl ?_
        refine v_icmp_le hC 223 dX7_mostLaid_187 (by decide) (fun c15 => ?_) (fun c15 => ?_)
        · replace h := h.1 c15
          refine v_iincN hC (nI 1) 9 dX7_mostLaid_223 rfl rfl (by decide) (lo2 := fun x10_16 => [(10, .int x10_16), (0, .ref (xad X 82)), (1, .int x1), (2, .int x2), (3, .int x3), (4, .int x4), (5, .int x5), (6, .ref (xad X 99)), (8, .int x8), (9, .int x9), (11, .int x11), (12, .int x12), (13, .int x13)]) (fun _ => rfl) (fun x10_16 e16 => ?_)
          replace h := h x10_16 e16
          refine v_goto hC 94 dX7_mostLaid_226 (by decide) ?_
          exact V.sub [1, 2, 3, 4, 5, 6, 7, 8, 9, 0] rfl (hK94 _ _ _ _ _ _ _ _ _ h)
        · replace h := h.2 c15
          refine v_aload_n hC 0 dX7_mostLaid_190 rfl ?_
          refine gf_X7_47 hC dX7_mostLaid_191 ?_
          refine v_iconst hC (nI 0) dX7_mostLaid_194 rfl ?_
          refine v_iald hC (Nat.le_of_ble_eq_true rfl) rfl (j := 0) (by decide) (by unfold vp_in; decide) dX7_mostLaid_195 ?_
          refine v_istoreN hC dX7_mostLaid_196 (by decide) (lo2 := fun x8_18 => [(8, .int x8_18), (0, .ref (xad X 82)), (1, .int x1), (2, .int x2), (3, .int x3), (4, .int x4), (5, .int x5), (6, .ref (xad X 99)), (9, .int x9), (10, .int x10), (11, .int x11), (12, .int x12), (13, .int x13)]) (fun _ => rfl) (fun x8_18 e18 => ?_)
          replace h := h x8_18 e18
          refine v_iload_n hC 4 dX7_mostLaid_198 rfl ?_
          refine v_iconst hC (nI 0) dX7_mostLaid_199 rfl ?_
          refine v_iload hC 5 dX7_mostLaid_200 rfl ?_
          refine v_iconst hC (nI 1) dX7_mostLaid_202 rfl ?_
          refine v_isub hC dX7_mostLaid_203 ?_
          refine v_callS hC (kM_in _ _ _ _ _ h) cmM_in kw1051 kw1050 ⟨Nat.le_of_ble_eq_true rfl, Nat.le_of_ble_eq_true rfl⟩ (fun _ => rfl) (st := []) (Nat.le_of_ble_eq_true rfl) rfl dX7_mostLaid_204 (kk_i (fun r20 σ20 h => ?_))
          obtain ⟨hO21, h⟩ := h
          have J21 : ∀ (v23 : Int32) (ev23 : v23 = (if r20 = nI 0 then (-1000000 : Int32) else (σ20 94 x3.toNatClampNeg))), V X 14 221 [(0, .ref (xad X 82)), (1, .int x1), (2, .int x2), (3, .int x3), (4, .int x4), (5, .int x5), (6, .ref (xad X 99)), (8, .int x8_18), (10, .int x10)] [.int v23] σ20 := by
            intro v23 ev23
            replace h := h v23 ev23
            refine v_istore hC dX7_mostLaid_221 (by decide) rfl ?_
            refine v_iincN hC (nI 1) 9 dX7_mostLaid_223 rfl rfl (by decide) (lo2 := fun x10_24 => [(10, .int x10_24), (9, .int v23), (0, .ref (xad X 82)), (1, .int x1), (2, .int x2), (3, .int x3), (4, .int x4), (5, .int x5), (6, .ref (xad X 99)), (8, .int x8_18)]) (fun _ => rfl) (fun x10_24 e24 => ?_)
            replace h := h x10_24 e24
            refine v_goto hC 94 dX7_mostLaid_226 (by decide) ?_
            exact V.sub [2, 3, 4, 5, 6, 7, 8, 9, 1, 0] rfl (hK94 _ _ _ _ _ _ _ _ _ h)
          refine v_if_eq hC 219 dX7_mostLaid_207 (by decide) (fun c21 => ?_) (fun c21 => ?_)
          · replace h := hO21.1 c21
            refine v_ldc hC kw1132 dX7_mostLaid_219 ?_
            exact V.sub [1, 2, 3, 4, 5, 6, 7, 0, 9] rfl (J21 _ (by rw [if_pos c21]))
          · replace h := hO21.2 c21
            refine v_aload_n hC 1 dX7_mostLaid_210 rfl ?_
            refine gf_X7_44 hC dX7_mostLaid_211 ?_
            refine v_iload_n hC 4 dX7_mostLaid_214 rfl ?_
            obtain ⟨hi25, h⟩ := h
            refine v_iald hC (Nat.le_of_ble_eq_true rfl) rfl rfl hi25 dX7_mostLaid_215 ?_
            refine v_goto hC 221 dX7_mostLaid_216 (by decide) ?_
            exact V.sub [1, 2, 3, 4, 5, 6, 7, 0, 9] rfl (J21 _ (by rw [if_neg c21]))
    · replace h := h.2 c10
      refine v_aload_n hC 0 dX7_mostLaid_119 rfl ?_
      refine gf_X7_44 hC dX7_mostLaid_120 ?_
      refine v_iload hC 12 dX7_mostLaid_123 rfl ?_
      refine v_aload hC 6 dX7_mostLaid_125 rfl ?_
      refine v_iload hC 10 dX7_mostLaid_127 rfl ?_
      refine v_iload hC 4 dX7_mostLaid_129 rfl ?_
      obtain ⟨hz27, h⟩ := h
      refine v_irem hC dX7_mostLaid_131 hz27 ?_
      obtain ⟨hi28, h⟩ := h
      refine v_iald hC (Nat.le_of_ble_eq_true rfl) rfl rfl hi28 dX7_mostLaid_132 ?_
      obtain ⟨hi29, h⟩ := h
      refine v_iast hC (Nat.le_of_ble_eq_true rfl) rfl rfl hi29 dX7_mostLaid_133 (fun σ29 e29 => ?_)
      replace h := h σ29 e29
      refine v_iload hC 11 dX7_mostLaid_134 rfl ?_
      refine v_iconst hC (nI 1) dX7_mostLaid_136 rfl ?_
      refine v_iload hC 10 dX7_mostLaid_137 rfl ?_
      refine v_iload hC 4 dX7_mostLaid_139 rfl ?_
      obtain ⟨hz30, h⟩ := h
      refine v_irem hC dX7_mostLaid_141 hz30 ?_
      refine v_ishl hC dX7_mostLaid_142 ?_
      refine v_ior hC dX7_mostLaid_143 ?_
      refine v_istoreN hC dX7_mostLaid_144 (by decide) (lo2 := fun x12_31 => [(12, .int x12_31), (0, .ref (xad X 82)), (1, .int x1), (2, .int x2), (3, .int x3), (4, .int x4), (5, .int x5), (6, .ref (xad X 99)), (8, .int x8), (9, .int x9), (10, .int x10), (11, .int x11), (13, .int x13)]) (fun _ => rfl) (fun x12_31 e31 => ?_)
      replace h := h x12_31 e31
      refine v_iload hC 11 dX7_mostLaid_146 rfl ?_
      refine v_iload hC 5 dX7_mostLaid_148 rfl ?_
      obtain ⟨hz32, h⟩ := h
      refine v_idiv hC dX7_mostLaid_150 hz32 ?_
      refine v_istoreN hC dX7_mostLaid_151 (by decide) (lo2 := fun x11_33 => [(11, .int x11_33), (12, .int x12_31), (0, .ref (xad X 82)), (1, .int x1), (2, .int x2), (3, .int x3), (4, .int x4), (5, .int x5), (6, .ref (xad X 99)), (8, .int x8), (9, .int x9), (10, .int x10), (13, .int x13)]) (fun _ => rfl) (fun x11_33 e33 => ?_)
      replace h := h x11_33 e33
      refine v_iincN hC (-1 : Int32) 12 dX7_mostLaid_153 rfl rfl (by decide) (lo2 := fun x13_34 => [(13, .int x13_34), (11, .int x11_33), (12, .int x12_31), (0, .ref (xad X 82)), (1, .int x1), (2, .int x2), (3, .int x3), (4, .int x4), (5, .int x5), (6, .ref (xad X 99)), (8, .int x8), (9, .int x9), (10, .int x10)]) (fun _ => rfl) (fun x13_34 e34 => ?_)
      replace h := h x13_34 e34
      refine v_goto hC 114 dX7_mostLaid_156 (by decide) ?_
      exact V.sub [3, 4, 5, 6, 7, 8, 9, 10, 11, 12, 1, 2, 0] rfl (ih _ _ _ _ _ _ _ _ _ _ _ _ h)
set_option maxHeartbeats 4000000 in
set_option maxRecDepth 100000 in
theorem tM_mostLaid_l94 {X : gX} {Q : Int32 → gM → Prop} (hC : VC X cX7_mostLaid RX7 14 rmM_mostLaid) (hR : VR X (some .int) (gPi Q))  : ∀ (n : Nat) (x1 : Int32) (x2 : Int32) (x3 : Int32) (x4 : Int32) (x5 : Int32) (x8 : Int32) (x9 : Int32) (x10 : Int32) (σ : gM), wM_mostLaid_l94 Q  n x1 x2 x3 x4 x5 x8 x9 x10 σ → V X 14 94 [(0, .ref (xad X 82)), (1, .int x1), (2, .int x2), (3, .int x3), (4, .int x4), (5, .int x5), (6, .ref (xad X 99)), (8, .int x8), (9, .int x9), (10, .int x10)] [] σ := by
  intro n
  induction n with
  | zero => intro x1 x2 x3 x4 x5 x8 x9 x10 σ h; exact h.elim
  | succ n ih =>
    intro x1 x2 x3 x4 x5 x8 x9 x10 σ h
    replace h : (x5 ≤ x10 → (∀ v8 : Int32, v8 = (if x3 = (-1 : Int32) then x8 else x9) → (Q v8 σ))) ∧ (¬ (x5 ≤ x10) → (∀ x13_9 : Int32, x13_9 = (x4 - (nI 1)) → (∃ n35 : Nat, wM_mostLaid_l114 Q (wM_mostLaid_l94 Q n) n35 x1 x2 x3 x4 x5 x8 x9 x10 x10 (nI 0) x13_9 σ))) := h
    refine v_iload hC 9 dX7_mostLaid_94 rfl ?_
    refine v_iload hC 5 dX7_mostLaid_96 rfl ?_
    refine v_icmp_ge hC 229 dX7_mostLaid_98 (by decide) (fun c6 => ?_) (fun c6 => ?_)
    · replace h := h.1 c6
      refine v_iload_n hC 3 dX7_mostLaid_229 rfl ?_
      refine v_iconst hC (-1 : Int32) dX7_mostLaid_230 rfl ?_
      have J7 : ∀ (v8 : Int32) (ev8 : v8 = (if x3 = (-1 : Int32) then x8 else x9)), V X 14 241 [] [.int v8] σ := by
        intro v8 ev8
        replace h := h v8 ev8
        exact v_iret hC hR h dX7_mostLaid_241
      refine v_icmp_ne hC 239 dX7_mostLaid_231 (by decide) (fun c7 => ?_) (fun c7 => ?_)
      · refine v_iload hC 8 dX7_mostLaid_239 rfl ?_
        exact V.sub [] rfl (J7 _ (by rw [if_neg c7]))
      · refine v_iload hC 7 dX7_mostLaid_234 rfl ?_
        refine v_goto hC 241 dX7_mostLaid_236 (by decide) ?_
        exact V.sub [] rfl (J7 _ (by rw [if_pos c7]))
    · replace h := h.2 c6
      refine v_iload hC 9 dX7_mostLaid_101 rfl ?_
      refine v_istore hC dX7_mostLaid_103 (by decide) rfl ?_
      refine v_iconst hC (nI 0) dX7_mostLaid_105 rfl ?_
      refine v_istore hC dX7_mostLaid_106 (by decide) rfl ?_
      refine v_iload hC 6 dX7_mostLaid_108 rfl ?_
      refine v_iconst hC (nI 1) dX7_mostLaid_110 rfl ?_
      refine v_isub hC dX7_mostLaid_111 ?_
      refine v_istoreN hC dX7_mostLaid_112 (by decide) (lo2 := fun x13_9 => [(13, .int x13_9), (12, .int (nI 0)), (11, .int x10), (0, .ref (xad X 82)), (1, .int x1), (2, .int x2), (3, .int x3), (4, .int x4), (5, .int x5), (6, .ref (xad X 99)), (8, .int x8), (9, .int x9), (10, .int x10)]) (fun _ => rfl) (fun x13_9 e9 => ?_)
      replace h := h x13_9 e9
      obtain ⟨n35, h⟩ := h
      exact V.sub [3, 4, 5, 6, 7, 8, 9, 10, 11, 12, 2, 1, 0] rfl (tM_mostLaid_l114 hC hR ih n35 _ _ _ _ _ _ _ _ _ _ _ _ h)
set_option maxHeartbeats 4000000 in
set_option maxRecDepth 100000 in
theorem tM_mostLaid_l46 {X : gX} {Q : Int32 → gM → Prop} (hC : VC X cX7_mostLaid RX7 14 rmM_mostLaid) (hR : VR X (some .int) (gPi Q))  : ∀ (n : Nat) (x1 : Int32) (x2 : Int32) (x3 : Int32) (x4 : Int32) (x5 : Int32) (x7 : Int32) (x8 : Int32) (σ : gM), wM_mostLaid_l46 Q  n x1 x2 x3 x4 x5 x7 x8 σ → V X 14 46 [(0, .ref (xad X 82)), (1, .int x1), (2, .int x2), (3, .int x3), (4, .int x4), (5, .int x5), (6, .ref (xad X 99)), (7, .int x7), (8, .int x8)] [] σ := by
  intro n
  induction n with
  | zero => intro x1 x2 x3 x4 x5 x7 x8 σ h; exact h.elim
  | succ n ih =>
    intro x1 x2 x3 x4 x5 x7 x8 σ h
    replace h : ((σ 89 3) ≤ x8 → (∃ n36 : Nat, wM_mostLaid_l94 Q n36 x1 x2 x3 x4 x5 (-1 : Int32) (-1000000 : Int32) (nI 0) σ)) ∧ (¬ ((σ 89 3) ≤ x8) → (wM_placeOf x8 σ (fun (r38 : Int32) (σ38 : gM) => (r38 = (-1000000 : Int32) → (∀ x8_40 : Int32, x8_40 = x8 + (nI 1) → (wM_mostLaid_l46 Q n x1 x2 x3 x4 x5 x7 x8_40 σ38))) ∧ (¬ (r38 = (-1000000 : Int32)) → (vp_in x7 7 ∧ (∀ σ41 : gM, σ41 = gU σ38 99 x7.toNatClampNeg x8 → (∀ x7_42 : Int32, x7_42 = x7 + (nI 1) → (∀ x8_43 : Int32, x8_43 = x8 + (nI 1) → (wM_mostLaid_l46 Q n x1 x2 x3 x4 x5 x7_42 x8_43 σ41))))))))) := h
    refine v_iload hC 8 dX7_mostLaid_46 rfl ?_
    refine v_aload_n hC 0 dX7_mostLaid_48 rfl ?_
    refine gf_X7_28 hC dX7_mostLaid_49 ?_
    refine v_iconst hC (nI 3) dX7_mostLaid_52 rfl ?_
    refine v_iald hC (Nat.le_of_ble_eq_true rfl) rfl (j := 3) (by decide) (by unfold vp_in; decide) dX7_mostLaid_53 ?_
    refine v_icmp_ge hC 84 dX7_mostLaid_54 (by decide) (fun c5 => ?_) (fun c5 => ?_)
    · replace h := h.1 c5
      refine v_iconst hC (-1 : Int32) dX7_mostLaid_84 rfl ?_
      refine v_istore hC dX7_mostLaid_85 (by decide) rfl ?_
      refine v_ldc hC kw1132 dX7_mostLaid_87 ?_
      refine v_istore hC dX7_mostLaid_89 (by decide) rfl ?_
      refine v_iconst hC (nI 0) dX7_mostLaid_91 rfl ?_
      refine v_istore hC dX7_mostLaid_92 (by decide) rfl ?_
      obtain ⟨n36, h⟩ := h
      exact V.sub [3, 4, 5, 6, 7, 8, 9, 2, 1, 0] rfl (tM_mostLaid_l94 hC hR  n36 _ _ _ _ _ _ _ _ _ h)
    · replace h := h.2 c5
      refine v_aload_n hC 0 dX7_mostLaid_57 rfl ?_
      refine v_iload hC 8 dX7_mostLaid_58 rfl ?_
      refine v_callV hC (kM_placeOf _ _ _ h) cmM_placeOf ⟨kw1207, kw62⟩ kw1205 ⟨Nat.le_of_ble_eq_true rfl, Nat.le_of_ble_eq_true rfl⟩ (Nat.le_of_ble_eq_true rfl) rfl (ci := 7) (T := TX7) (N := 30) rfl (As := fun G => [.int x8]) (fun _ => rfl) (fun _ => rfl) (st := []) (Nat.le_of_ble_eq_true rfl) rfl dX7_mostLaid_60 (kk_i (fun r38 σ38 h => ?_))
      refine v_ldc hC kw1132 dX7_mostLaid_63 ?_
      refine v_icmp_eq hC 78 dX7_mostLaid_65 (by decide) (fun c39 => ?_) (fun c39 => ?_)
      · replace h := h.1 c39
        refine v_iincN hC (nI 1) 8 dX7_mostLaid_78 rfl rfl (by decide) (lo2 := fun x8_40 => [(8, .int x8_40), (0, .ref (xad X 82)), (1, .int x1), (2, .int x2), (3, .int x3), (4, .int x4), (5, .int x5), (6, .ref (xad X 99)), (7, .int x7)]) (fun _ => rfl) (fun x8_40 e40 => ?_)
        replace h := h x8_40 e40
        refine v_goto hC 46 dX7_mostLaid_81 (by decide) ?_
        exact V.sub [1, 2, 3, 4, 5, 6, 7, 8, 0] rfl (ih _ _ _ _ _ _ _ _ h)
      · replace h := h.2 c39
        refine v_aload hC 6 dX7_mostLaid_68 rfl ?_
        refine v_iload hC 7 dX7_mostLaid_70 rfl ?_
        refine v_iload hC 8 dX7_mostLaid_72 rfl ?_
        obtain ⟨hi41, h⟩ := h
        refine v_iast hC (Nat.le_of_ble_eq_true rfl) rfl rfl hi41 dX7_mostLaid_74 (fun σ41 e41 => ?_)
        replace h := h σ41 e41
        refine v_iincN hC (nI 1) 7 dX7_mostLaid_75 rfl rfl (by decide) (lo2 := fun x7_42 => [(7, .int x7_42), (0, .ref (xad X 82)), (1, .int x1), (2, .int x2), (3, .int x3), (4, .int x4), (5, .int x5), (6, .ref (xad X 99)), (8, .int x8)]) (fun _ => rfl) (fun x7_42 e42 => ?_)
        replace h := h x7_42 e42
        refine v_iincN hC (nI 1) 8 dX7_mostLaid_78 rfl rfl (by decide) (lo2 := fun x8_43 => [(8, .int x8_43), (7, .int x7_42), (0, .ref (xad X 82)), (1, .int x1), (2, .int x2), (3, .int x3), (4, .int x4), (5, .int x5), (6, .ref (xad X 99))]) (fun _ => rfl) (fun x8_43 e43 => ?_)
        replace h := h x8_43 e43
        refine v_goto hC 46 dX7_mostLaid_81 (by decide) ?_
        exact V.sub [2, 3, 4, 5, 6, 7, 8, 1, 0] rfl (ih _ _ _ _ _ _ _ _ h)
set_option maxHeartbeats 4000000 in
set_option maxRecDepth 100000 in
theorem tM_mostLaid_l14 {X : gX} {Q : Int32 → gM → Prop} (hC : VC X cX7_mostLaid RX7 14 rmM_mostLaid) (hR : VR X (some .int) (gPi Q))  : ∀ (n : Nat) (x1 : Int32) (x2 : Int32) (x3 : Int32) (x4 : Int32) (x5 : Int32) (x6 : Int32) (σ : gM), wM_mostLaid_l14 Q  n x1 x2 x3 x4 x5 x6 σ → V X 14 14 [(0, .ref (xad X 82)), (1, .int x1), (2, .int x2), (3, .int x3), (4, .int x4), (5, .int x5), (6, .int x6)] [] σ := by
  intro n
  induction n with
  | zero => intro x1 x2 x3 x4 x5 x6 σ h; exact h.elim
  | succ n ih =>
    intro x1 x2 x3 x4 x5 x6 σ h
    replace h : (x4 ≤ x6 → (∃ n44 : Nat, wM_mostLaid_l46 Q n44 x1 x2 x3 x4 x5 (nI 0) (nI 0) σ)) ∧ (¬ (x4 ≤ x6) → (∀ x5_45 : Int32, x5_45 = (x5 * x4) → (∀ x6_46 : Int32, x6_46 = x6 + (nI 1) → (wM_mostLaid_l14 Q n x1 x2 x3 x4 x5_45 x6_46 σ)))) := h
    refine v_iload hC 6 dX7_mostLaid_14 rfl ?_
    refine v_iload hC 4 dX7_mostLaid_16 rfl ?_
    refine v_icmp_ge hC 34 dX7_mostLaid_18 (by decide) (fun c3 => ?_) (fun c3 => ?_)
    · replace h := h.1 c3
      refine v_aload_n hC 0 dX7_mostLaid_34 rfl ?_
      refine gf_X7_59 hC dX7_mostLaid_35 ?_
      refine v_astore hC dX7_mostLaid_38 (by decide) rfl ?_
      refine v_iconst hC (nI 0) dX7_mostLaid_40 rfl ?_
      refine v_istore hC dX7_mostLaid_41 (by decide) rfl ?_
      refine v_iconst hC (nI 0) dX7_mostLaid_43 rfl ?_
      refine v_istore hC dX7_mostLaid_44 (by decide) rfl ?_
      obtain ⟨n44, h⟩ := h
      exact V.sub [3, 4, 5, 6, 7, 8, 2, 1, 0] rfl (tM_mostLaid_l46 hC hR  n44 _ _ _ _ _ _ _ _ h)
    · replace h := h.2 c3
      refine v_iload hC 5 dX7_mostLaid_21 rfl ?_
      refine v_iload hC 4 dX7_mostLaid_23 rfl ?_
      refine v_imul hC dX7_mostLaid_25 ?_
      refine v_istoreN hC dX7_mostLaid_26 (by decide) (lo2 := fun x5_45 => [(5, .int x5_45), (0, .ref (xad X 82)), (1, .int x1), (2, .int x2), (3, .int x3), (4, .int x4), (6, .int x6)]) (fun _ => rfl) (fun x5_45 e45 => ?_)
      replace h := h x5_45 e45
      refine v_iincN hC (nI 1) 6 dX7_mostLaid_28 rfl rfl (by decide) (lo2 := fun x6_46 => [(6, .int x6_46), (5, .int x5_45), (0, .ref (xad X 82)), (1, .int x1), (2, .int x2), (3, .int x3), (4, .int x4)]) (fun _ => rfl) (fun x6_46 e46 => ?_)
      replace h := h x6_46 e46
      refine v_goto hC 14 dX7_mostLaid_31 (by decide) ?_
      exact V.sub [2, 3, 4, 5, 6, 1, 0] rfl (ih _ _ _ _ _ _ _ h)
set_option maxHeartbeats 4000000 in
set_option maxRecDepth 100000 in
theorem kM_mostLaid (x1 : Int32) (x2 : Int32) (x3 : Int32) (σ : gM) (Q : Int32 → gM → Prop) (h : wM_mostLaid x1 x2 x3 σ Q) : CT yX7_mostLaid cX7_mostLaid 14 (some .int) rmM_mostLaid (fun G => [.ref (gad G 82), .int x1, .int x2, .int x3]) σ (gPi Q) := by
  refine c_enter (by decide) (fun _ => Nat.le_of_ble_eq_true rfl) (fun X hC hR => ?_)
  show V X 14 0 [(0, .ref (xad X 82)), (1, .int x1), (2, .int x2), (3, .int x3)] [] σ
  replace h : ∀ x4_2 : Int32, x4_2 = (σ 89 5) → (∃ n47 : Nat, wM_mostLaid_l14 Q n47 x1 x2 x3 x4_2 (nI 1) (nI 0) σ) := h
  refine v_aload_n hC 0 dX7_mostLaid_0 rfl ?_
  refine gf_X7_28 hC dX7_mostLaid_1 ?_
  refine v_iconst hC (nI 5) dX7_mostLaid_4 rfl ?_
  refine v_iald hC (Nat.le_of_ble_eq_true rfl) rfl (j := 5) (by decide) (by unfold vp_in; decide) dX7_mostLaid_5 ?_
  refine v_istoreN hC dX7_mostLaid_6 (by decide) (lo2 := fun x4_2 => [(4, .int x4_2), (0, .ref (xad X 82)), (1, .int x1), (2, .int x2), (3, .int x3)]) (fun _ => rfl) (fun x4_2 e2 => ?_)
  replace h := h x4_2 e2
  refine v_iconst hC (nI 1) dX7_mostLaid_8 rfl ?_
  refine v_istore hC dX7_mostLaid_9 (by decide) rfl ?_
  refine v_iconst hC (nI 0) dX7_mostLaid_11 rfl ?_
  refine v_istore hC dX7_mostLaid_12 (by decide) rfl ?_
  obtain ⟨n47, h⟩ := h
  exact V.sub [3, 4, 5, 6, 2, 1, 0] rfl (tM_mostLaid_l14 hC hR  n47 _ _ _ _ _ _ _ h)
theorem cmM_mostLaid : CM yX7_mostLaid cX7_mostLaid 14 (some .int) rmM_mostLaid 3 := ⟨kw82, kw1248, rfl, rfl, by decide, by decide, by decide +kernel⟩
def rmM_laid : Room := { frames := 5, cells := 0, slots := 0, locals := 137 }
def wM_laid (x1 : Int32) (x2 : Int32) (x3 : Int32) (σ : gM) (Q : Int32 → gM → Prop) : Prop :=
    wM_areUnlike x1 x2 σ (fun (r2 : Int32) (σ2 : gM) => (r2 = nI 0 → (Q (-1000001 : Int32) σ2)) ∧ (¬ (r2 = nI 0) → (((-1 : Int32) ≤ x3 → (((σ2 89 5) ≤ (nI 6) → (wM_mostLaid x1 x2 x3 σ2 (fun (r8 : Int32) (σ8 : gM) => Q r8 σ8))) ∧ (¬ ((σ2 89 5) ≤ (nI 6)) → (Q (-1000003 : Int32) σ2)))) ∧ (¬ ((-1 : Int32) ≤ x3) → (Q (-1000001 : Int32) σ2)))))
set_option maxHeartbeats 4000000 in
set_option maxRecDepth 100000 in
theorem kM_laid (x1 : Int32) (x2 : Int32) (x3 : Int32) (σ : gM) (Q : Int32 → gM → Prop) (h : wM_laid x1 x2 x3 σ Q) : CT yX7_laid cX7_laid 4 (some .int) rmM_laid (fun G => [.ref (gad G 82), .int x1, .int x2, .int x3]) σ (gPi Q) := by
  refine c_enter (by decide) (fun _ => Nat.le_of_ble_eq_true rfl) (fun X hC hR => ?_)
  show V X 4 0 [(0, .ref (xad X 82)), (1, .int x1), (2, .int x2), (3, .int x3)] [] σ
  replace h : wM_areUnlike x1 x2 σ (fun (r2 : Int32) (σ2 : gM) => (r2 = nI 0 → (Q (-1000001 : Int32) σ2)) ∧ (¬ (r2 = nI 0) → (((-1 : Int32) ≤ x3 → (((σ2 89 5) ≤ (nI 6) → (wM_mostLaid x1 x2 x3 σ2 (fun (r8 : Int32) (σ8 : gM) => Q r8 σ8))) ∧ (¬ ((σ2 89 5) ≤ (nI 6)) → (Q (-1000003 : Int32) σ2)))) ∧ (¬ ((-1 : Int32) ≤ x3) → (Q (-1000001 : Int32) σ2))))) := h
  refine v_aload_n hC 0 dX7_laid_0 rfl ?_
  refine v_iload_n hC 1 dX7_laid_1 rfl ?_
  refine v_iload_n hC 2 dX7_laid_2 rfl ?_
  refine v_callV hC (kM_areUnlike _ _ _ _ h) cmM_areUnlike ⟨kw1223, kw63⟩ kw1221 ⟨Nat.le_of_ble_eq_true rfl, Nat.le_of_ble_eq_true rfl⟩ (Nat.le_of_ble_eq_true rfl) rfl (ci := 7) (T := TX7) (N := 30) rfl (As := fun G => [.int x1, .int x2]) (fun _ => rfl) (fun _ => rfl) (st := []) (Nat.le_of_ble_eq_true rfl) rfl dX7_laid_3 (kk_i (fun r2 σ2 h => ?_))
  refine v_if_eq hC 14 dX7_laid_6 (by decide) (fun c3 => ?_) (fun c3 => ?_)
  · replace h := h.1 c3
    refine v_ldc hC kw1053 dX7_laid_14 ?_
    exact v_iret hC hR h dX7_laid_16
  · replace h := h.2 c3
    refine v_iload_n hC 3 dX7_laid_9 rfl ?_
    refine v_iconst hC (-1 : Int32) dX7_laid_10 rfl ?_
    refine v_icmp_ge hC 17 dX7_laid_11 (by decide) (fun c4 => ?_) (fun c4 => ?_)
    · replace h := h.1 c4
      refine v_aload_n hC 0 dX7_laid_17 rfl ?_
      refine gf_X7_28 hC dX7_laid_18 ?_
      refine v_iconst hC (nI 5) dX7_laid_21 rfl ?_
      refine v_iald hC (Nat.le_of_ble_eq_true rfl) rfl (j := 5) (by decide) (by unfold vp_in; decide) dX7_laid_22 ?_
      refine v_bipush hC (nI 6) dX7_laid_23 rfl ?_
      refine v_icmp_le hC 31 dX7_laid_25 (by decide) (fun c6 => ?_) (fun c6 => ?_)
      · replace h := h.1 c6
        refine v_aload_n hC 0 dX7_laid_31 rfl ?_
        refine v_iload_n hC 1 dX7_laid_32 rfl ?_
        refine v_iload_n hC 2 dX7_laid_33 rfl ?_
        refine v_iload_n hC 3 dX7_laid_34 rfl ?_
        refine v_callV hC (kM_mostLaid _ _ _ _ _ h) cmM_mostLaid ⟨kw1247, kw67⟩ kw1245 ⟨Nat.le_of_ble_eq_true rfl, Nat.le_of_ble_eq_true rfl⟩ (Nat.le_of_ble_eq_true rfl) rfl (ci := 7) (T := TX7) (N := 30) rfl (As := fun G => [.int x1, .int x2, .int x3]) (fun _ => rfl) (fun _ => rfl) (st := []) (Nat.le_of_ble_eq_true rfl) rfl dX7_laid_35 (kk_i (fun r8 σ8 h => ?_))
        exact v_iret hC hR h dX7_laid_38
      · replace h := h.2 c6
        refine v_ldc hC kw1083 dX7_laid_28 ?_
        exact v_iret hC hR h dX7_laid_30
    · replace h := h.2 c4
      refine v_ldc hC kw1053 dX7_laid_14 ?_
      exact v_iret hC hR h dX7_laid_16
theorem cmM_laid : CM yX7_laid cX7_laid 4 (some .int) rmM_laid 3 := ⟨kw82, kw1244, rfl, rfl, by decide, by decide, by decide +kernel⟩
