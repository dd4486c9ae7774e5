def rmM_nextToken : Room := { frames := 1, cells := 0, slots := 0, locals := 22 }
def wM_nextToken_l255 (Q : gM → Prop)  : Nat → gM → Prop
  | 0, _ => False
  | n + 1, σ =>
    ((σ 82 4) ≤ (σ 82 6) → (((σ 82 9) ≤ (nI 3) → (∀ σ23 : gM, σ23 = gUL σ 82 8 (-1 : Int64) → (Q σ23))) ∧ (¬ ((σ 82 9) ≤ (nI 3)) → (∀ σ24 : gM, σ24 = gUL σ 82 8 (-4 : Int64) → (Q σ24))))) ∧ (¬ ((σ 82 4) ≤ (σ 82 6)) → (vp_in (σ 82 6) 400 ∧ (wM_in (σ 86 (σ 82 6).toNatClampNeg) (nI 48) (nI 57) σ (fun (r27 : Int32) (σ27 : gM) => (r27 = nI 0 → (((σ27 82 9) ≤ (nI 3) → (∀ σ30 : gM, σ30 = gUL σ27 82 8 (-1 : Int64) → (Q σ30))) ∧ (¬ ((σ27 82 9) ≤ (nI 3)) → (∀ σ31 : gM, σ31 = gUL σ27 82 8 (-4 : Int64) → (Q σ31))))) ∧ (¬ (r27 = nI 0) → ((((nI 3) ≤ (σ27 82 9) → (True)) ∧ (¬ ((nI 3) ≤ (σ27 82 9)) → (vp_in (σ27 82 6) 400 ∧ True))) ∧ (∀ v34 : Int32, v34 = (if (nI 3) ≤ (σ27 82 9) then (σ27 82 10) else ((((nI 10) * (σ27 82 10)) + (σ27 86 (σ27 82 6).toNatClampNeg)) - (nI 48))) → (∀ σ35 : gM, σ35 = gU σ27 82 10 v34 → (∀ σ36 : gM, σ36 = gU σ35 82 9 ((σ35 82 9) + (nI 1)) → (∀ σ37 : gM, σ37 = gU σ36 82 6 ((σ36 82 6) + (nI 1)) → (wM_nextToken_l255 Q n σ37)))))))))))
def wM_nextToken_b205 (Q : gM → Prop)  (σ : gM) : Prop :=
    (((σ 82 6) - (σ 82 7)) ≤ (nI 9) → (∀ σ43 : gM, σ43 = gUL σ 82 8 (gLg (σ 82 8) (σ 82 108)) → (Q σ43))) ∧ (¬ (((σ 82 6) - (σ 82 7)) ≤ (nI 9)) → (∀ σ44 : gM, σ44 = gUL σ 82 8 (-4 : Int64) → (Q σ44)))
def wM_nextToken_l115 (Q : gM → Prop)  : Nat → gM → Prop
  | 0, _ => False
  | n + 1, σ =>
    ((σ 82 4) ≤ (σ 82 6) → (wM_nextToken_b205 Q σ)) ∧ (¬ ((σ 82 4) ≤ (σ 82 6)) → (vp_in (σ 82 6) 400 ∧ (wM_in (σ 86 (σ 82 6).toNatClampNeg) (nI 97) (nI 122) σ (fun (r47 : Int32) (σ47 : gM) => (r47 = nI 0 → (wM_nextToken_b205 Q σ47)) ∧ (¬ (r47 = nI 0) → (((nI 9) ≤ ((σ47 82 6) - (σ47 82 7)) → (∀ σ50 : gM, σ50 = gUL σ47 82 8 (-4 : Int64) → (∀ σ51 : gM, σ51 = gU σ50 82 6 ((σ50 82 6) + (nI 1)) → (wM_nextToken_l115 Q n σ51)))) ∧ (¬ ((nI 9) ≤ ((σ47 82 6) - (σ47 82 7))) → (vp_in (σ47 82 6) 400 ∧ (∀ σ53 : gM, σ53 = gUL σ47 82 8 ((((27 : Int64) * (gLg (σ47 82 8) (σ47 82 108))) + ((σ47 86 (σ47 82 6).toNatClampNeg).toInt64)) - (96 : Int64)) → (∀ σ54 : gM, σ54 = gU σ53 82 6 ((σ53 82 6) + (nI 1)) → (wM_nextToken_l115 Q n σ54)))))))))))
def wM_nextToken_b52 (Q : gM → Prop)  (σ : gM) : Prop :=
    ∀ σ2 : gM, σ2 = gU σ 82 7 (σ 82 6) → (∀ σ3 : gM, σ3 = gU σ2 82 9 (nI 0) → (∀ σ4 : gM, σ4 = gU σ3 82 10 (nI 0) → (((σ4 82 6) = (σ4 82 4) → (∀ σ6 : gM, σ6 = gUL σ4 82 8 (-2 : Int64) → (Q σ6))) ∧ (¬ ((σ4 82 6) = (σ4 82 4)) → (vp_in (σ4 82 6) 400 ∧ (wM_in (σ4 86 (σ4 82 6).toNatClampNeg) (nI 97) (nI 122) σ4 (fun (r9 : Int32) (σ9 : gM) => (r9 = nI 0 → (vp_in (σ9 82 6) 400 ∧ (wM_in (σ9 86 (σ9 82 6).toNatClampNeg) (nI 48) (nI 57) σ9 (fun (r13 : Int32) (σ13 : gM) => (r13 = nI 0 → (vp_in (σ13 82 6) 400 ∧ (((σ13 86 (σ13 82 6).toNatClampNeg) = (nI 59) → (∀ σ17 : gM, σ17 = gUL σ13 82 8 (-3 : Int64) → (∀ σ18 : gM, σ18 = gU σ17 82 6 ((σ17 82 6) + (nI 1)) → (Q σ18)))) ∧ (¬ ((σ13 86 (σ13 82 6).toNatClampNeg) = (nI 59)) → (∀ σ19 : gM, σ19 = gUL σ13 82 8 (-4 : Int64) → (∀ σ20 : gM, σ20 = gU σ19 82 6 ((σ19 82 6) + (nI 1)) → (Q σ20))))))) ∧ (¬ (r13 = nI 0) → (∃ n39 : Nat, wM_nextToken_l255 Q n39 σ13)))))) ∧ (¬ (r9 = nI 0) → (∀ σ40 : gM, σ40 = gUL σ9 82 8 (0 : Int64) → (∃ n55 : Nat, wM_nextToken_l115 Q n55 σ40))))))))))
def wM_nextToken_l0 (Q : gM → Prop)  : Nat → gM → Prop
  | 0, _ => False
  | n + 1, σ =>
    ((σ 82 4) ≤ (σ 82 6) → (wM_nextToken_b52 Q σ)) ∧ (¬ ((σ 82 4) ≤ (σ 82 6)) → (vp_in (σ 82 6) 400 ∧ (((σ 86 (σ 82 6).toNatClampNeg) = (nI 32) → (∀ σ58 : gM, σ58 = gU σ 82 6 ((σ 82 6) + (nI 1)) → (wM_nextToken_l0 Q n σ58))) ∧ (¬ ((σ 86 (σ 82 6).toNatClampNeg) = (nI 32)) → (vp_in (σ 82 6) 400 ∧ (((σ 86 (σ 82 6).toNatClampNeg) = (nI 10) → (∀ σ61 : gM, σ61 = gU σ 82 6 ((σ 82 6) + (nI 1)) → (wM_nextToken_l0 Q n σ61))) ∧ (¬ ((σ 86 (σ 82 6).toNatClampNeg) = (nI 10)) → (wM_nextToken_b52 Q σ))))))))
def wM_nextToken  (σ : gM) (Q : gM → Prop) : Prop :=
    ∃ n62 : Nat, wM_nextToken_l0 Q n62 σ
set_option maxHeartbeats 4000000 in
set_option maxRecDepth 100000 in
theorem tM_nextToken_l255 {X : gX} {Q : gM → Prop} (hC : VC X cX7_nextToken RX7 1 rmM_nextToken) (hR : VR X none (gPv Q))  : ∀ (n : Nat) (σ : gM), wM_nextToken_l255 Q  n  σ → V X 1 255 [(0, .ref (xad X 82))] [] σ := by
  intro n
  induction n with
  | zero => intro  σ h; exact h.elim
  | succ n ih =>
    intro  σ h
    replace h : ((σ 82 4) ≤ (σ 82 6) → (((σ 82 9) ≤ (nI 3) → (∀ σ23 : gM, σ23 = gUL σ 82 8 (-1 : Int64) → (Q σ23))) ∧ (¬ ((σ 82 9) ≤ (nI 3)) → (∀ σ24 : gM, σ24 = gUL σ 82 8 (-4 : Int64) → (Q σ24))))) ∧ (¬ ((σ 82 4) ≤ (σ 82 6)) → (vp_in (σ 82 6) 400 ∧ (wM_in (σ 86 (σ 82 6).toNatClampNeg) (nI 48) (nI 57) σ (fun (r27 : Int32) (σ27 : gM) => (r27 = nI 0 → (((σ27 82 9) ≤ (nI 3) → (∀ σ30 : gM, σ30 = gUL σ27 82 8 (-1 : Int64) → (Q σ30))) ∧ (¬ ((σ27 82 9) ≤ (nI 3)) → (∀ σ31 : gM, σ31 = gUL σ27 82 8 (-4 : Int64) → (Q σ31))))) ∧ (¬ (r27 = nI 0) → ((((nI 3) ≤ (σ27 82 9) → (True)) ∧ (¬ ((nI 3) ≤ (σ27 82 9)) → (vp_in (σ27 82 6) 400 ∧ True))) ∧ (∀ v34 : Int32, v34 = (if (nI 3) ≤ (σ27 82 9) then (σ27 82 10) else ((((nI 10) * (σ27 82 10)) + (σ27 86 (σ27 82 6).toNatClampNeg)) - (nI 48))) → (∀ σ35 : gM, σ35 = gU σ27 82 10 v34 → (∀ σ36 : gM, σ36 = gU σ35 82 9 ((σ35 82 9) + (nI 1)) → (∀ σ37 : gM, σ37 = gU σ36 82 6 ((σ36 82 6) + (nI 1)) → (wM_nextToken_l255 Q n σ37))))))))))) := h
    refine v_aload_n hC 0 dX7_nextToken_255 rfl ?_
    refine gf_X7_92 hC dX7_nextToken_256 ?_
    refine v_aload_n hC 0 dX7_nextToken_259 rfl ?_
    refine gf_X7_86 hC dX7_nextToken_260 ?_
    refine v_icmp_ge hC 347 dX7_nextToken_263 (by decide) (fun c21 => ?_) (fun c21 => ?_)
    · replace h := h.1 c21
      refine v_aload_n hC 0 dX7_nextToken_347 rfl ?_
      refine v_aload_n hC 0 dX7_nextToken_348 rfl ?_
      refine gf_X7_98 hC dX7_nextToken_349 ?_
      refine v_iconst hC (nI 3) dX7_nextToken_352 rfl ?_
      refine v_icmp_le hC 362 dX7_nextToken_353 (by decide) (fun c22 => ?_) (fun c22 => ?_)
      · replace h := h.1 c22
        refine v_ldc2 hC kw1101 dX7_nextToken_362 ?_
        refine pf_X7_106 hC dX7_nextToken_365 (fun σ23 e23 => ?_)
        replace h := h σ23 e23
        refine v_goto hC 408 dX7_nextToken_368 (by decide) ?_
        exact v_vret hC hR h dX7_nextToken_408
      · replace h := h.2 c22
        refine v_ldc2 hC kw1100 dX7_nextToken_356 ?_
        refine v_goto hC 365 dX7_nextToken_359 (by decide) ?_
        refine pf_X7_106 hC dX7_nextToken_365 (fun σ24 e24 => ?_)
        replace h := h σ24 e24
        refine v_goto hC 408 dX7_nextToken_368 (by decide) ?_
        exact v_vret hC hR h dX7_nextToken_408
    · replace h := h.2 c21
      refine v_aload_n hC 0 dX7_nextToken_266 rfl ?_
      refine gf_X7_19 hC dX7_nextToken_267 ?_
      refine v_aload_n hC 0 dX7_nextToken_270 rfl ?_
      refine gf_X7_92 hC dX7_nextToken_271 ?_
      obtain ⟨hi25, h⟩ := h
      refine v_iald hC (Nat.le_of_ble_eq_true rfl) rfl rfl hi25 dX7_nextToken_274 ?_
      refine v_bipush hC (nI 48) dX7_nextToken_275 rfl ?_
      refine v_bipush hC (nI 57) dX7_nextToken_277 rfl ?_
      refine v_callS hC (kM_in _ _ _ _ _ h) cmM_in kw1051 kw1050 ⟨Nat.le_of_ble_eq_true rfl, Nat.le_of_ble_eq_true rfl⟩ (fun _ => rfl) (st := []) (Nat.le_of_ble_eq_true rfl) rfl dX7_nextToken_279 (kk_i (fun r27 σ27 h => ?_))
      refine v_if_eq hC 347 dX7_nextToken_282 (by decide) (fun c28 => ?_) (fun c28 => ?_)
      · replace h := h.1 c28
        refine v_aload_n hC 0 dX7_nextToken_347 rfl ?_
        refine v_aload_n hC 0 dX7_nextToken_348 rfl ?_
        refine gf_X7_98 hC dX7_nextToken_349 ?_
        refine v_iconst hC (nI 3) dX7_nextToken_352 rfl ?_
        refine v_icmp_le hC 362 dX7_nextToken_353 (by decide) (fun c29 => ?_) (fun c29 => ?_)
        · replace h := h.1 c29
          refine v_ldc2 hC kw1101 dX7_nextToken_362 ?_
          refine pf_X7_106 hC dX7_nextToken_365 (fun σ30 e30 => ?_)
          replace h := h σ30 e30
          refine v_goto hC 408 dX7_nextToken_368 (by decide) ?_
          exact v_vret hC hR h dX7_nextToken_408
        · replace h := h.2 c29
          refine v_ldc2 hC kw1100 dX7_nextToken_356 ?_
          refine v_goto hC 365 dX7_nextToken_359 (by decide) ?_
          refine pf_X7_106 hC dX7_nextToken_365 (fun σ31 e31 => ?_)
          replace h := h σ31 e31
          refine v_goto hC 408 dX7_nextToken_368 (by decide) ?_
          exact v_vret hC hR h dX7_nextToken_408
      · replace h := h.2 c28
        refine v_aload_n hC 0 dX7_nextToken_285 rfl ?_
        refine v_aload_n hC 0 dX7_nextToken_286 rfl ?_
        refine gf_X7_98 hC dX7_nextToken_287 ?_
        refine v_iconst hC (nI 3) dX7_nextToken_290 rfl ?_
        obtain ⟨hO32, h⟩ := h
        have J32 : ∀ (v34 : Int32) (ev34 : v34 = (if (nI 3) ≤ (σ27 82 9) then (σ27 82 10) else ((((nI 10) * (σ27 82 10)) + (σ27 86 (σ27 82 6).toNatClampNeg)) - (nI 48)))), V X 1 321 [(0, .ref (xad X 82))] [.int v34, .ref (xad X 82)] σ27 := by
          intro v34 ev34
          replace h := h v34 ev34
          refine pf_X7_101 hC dX7_nextToken_321 (fun σ35 e35 => ?_)
          replace h := h σ35 e35
          refine v_aload_n hC 0 dX7_nextToken_324 rfl ?_
          refine v_dup hC dX7_nextToken_325 rfl ?_
          refine gf_X7_98 hC dX7_nextToken_326 ?_
          refine v_iconst hC (nI 1) dX7_nextToken_329 rfl ?_
          refine v_iadd hC dX7_nextToken_330 ?_
          refine pf_X7_98 hC dX7_nextToken_331 (fun σ36 e36 => ?_)
          replace h := h σ36 e36
          refine v_aload_n hC 0 dX7_nextToken_334 rfl ?_
          refine v_dup hC dX7_nextToken_335 rfl ?_
          refine gf_X7_92 hC dX7_nextToken_336 ?_
          refine v_iconst hC (nI 1) dX7_nextToken_339 rfl ?_
          refine v_iadd hC dX7_nextToken_340 ?_
          refine pf_X7_92 hC dX7_nextToken_341 (fun σ37 e37 => ?_)
          replace h := h σ37 e37
          refine v_goto hC 255 dX7_nextToken_344 (by decide) ?_
          exact V.sub [0] rfl (ih _ h)
        refine v_icmp_ge hC 317 dX7_nextToken_291 (by decide) (fun c32 => ?_) (fun c32 => ?_)
        · replace h := hO32.1 c32
          refine v_aload_n hC 0 dX7_nextToken_317 rfl ?_
          refine gf_X7_101 hC dX7_nextToken_318 ?_
          exact V.sub [0] rfl (J32 _ (by rw [if_pos c32]))
        · replace h := hO32.2 c32
          refine v_bipush hC (nI 10) dX7_nextToken_294 rfl ?_
          refine v_aload_n hC 0 dX7_nextToken_296 rfl ?_
          refine gf_X7_101 hC dX7_nextToken_297 ?_
          refine v_imul hC dX7_nextToken_300 ?_
          refine v_aload_n hC 0 dX7_nextToken_301 rfl ?_
          refine gf_X7_19 hC dX7_nextToken_302 ?_
          refine v_aload_n hC 0 dX7_nextToken_305 rfl ?_
          refine gf_X7_92 hC dX7_nextToken_306 ?_
          obtain ⟨hi38, h⟩ := h
          refine v_iald hC (Nat.le_of_ble_eq_true rfl) rfl rfl hi38 dX7_nextToken_309 ?_
          refine v_iadd hC dX7_nextToken_310 ?_
          refine v_bipush hC (nI 48) dX7_nextToken_311 rfl ?_
          refine v_isub hC dX7_nextToken_313 ?_
          refine v_goto hC 321 dX7_nextToken_314 (by decide) ?_
          exact V.sub [0] rfl (J32 _ (by rw [if_neg c32]))
set_option maxHeartbeats 4000000 in
set_option maxRecDepth 100000 in
theorem tM_nextToken_b205 {X : gX} {Q : gM → Prop} (hC : VC X cX7_nextToken RX7 1 rmM_nextToken) (hR : VR X none (gPv Q))  (σ : gM) (h : wM_nextToken_b205 Q   σ) : V X 1 205 [(0, .ref (xad X 82))] [] σ := by
  replace h : (((σ 82 6) - (σ 82 7)) ≤ (nI 9) → (∀ σ43 : gM, σ43 = gUL σ 82 8 (gLg (σ 82 8) (σ 82 108)) → (Q σ43))) ∧ (¬ (((σ 82 6) - (σ 82 7)) ≤ (nI 9)) → (∀ σ44 : gM, σ44 = gUL σ 82 8 (-4 : Int64) → (Q σ44))) := h
  refine v_aload_n hC 0 dX7_nextToken_205 rfl ?_
  refine v_aload_n hC 0 dX7_nextToken_206 rfl ?_
  refine gf_X7_92 hC dX7_nextToken_207 ?_
  refine v_aload_n hC 0 dX7_nextToken_210 rfl ?_
  refine gf_X7_95 hC dX7_nextToken_211 ?_
  refine v_isub hC dX7_nextToken_214 ?_
  refine v_bipush hC (nI 9) dX7_nextToken_215 rfl ?_
  refine v_icmp_le hC 226 dX7_nextToken_217 (by decide) (fun c42 => ?_) (fun c42 => ?_)
  · replace h := h.1 c42
    refine v_aload_n hC 0 dX7_nextToken_226 rfl ?_
    refine gf_X7_106 hC dX7_nextToken_227 ?_
    refine pf_X7_106 hC dX7_nextToken_230 (fun σ43 e43 => ?_)
    replace h := h σ43 e43
    refine v_goto hC 408 dX7_nextToken_233 (by decide) ?_
    exact v_vret hC hR h dX7_nextToken_408
  · replace h := h.2 c42
    refine v_ldc2 hC kw1100 dX7_nextToken_220 ?_
    refine v_goto hC 230 dX7_nextToken_223 (by decide) ?_
    refine pf_X7_106 hC dX7_nextToken_230 (fun σ44 e44 => ?_)
    replace h := h σ44 e44
    refine v_goto hC 408 dX7_nextToken_233 (by decide) ?_
    exact v_vret hC hR h dX7_nextToken_408
set_option maxHeartbeats 4000000 in
set_option maxRecDepth 100000 in
theorem tM_nextToken_l115 {X : gX} {Q : gM → Prop} (hC : VC X cX7_nextToken RX7 1 rmM_nextToken) (hR : VR X none (gPv Q))  : ∀ (n : Nat) (σ : gM), wM_nextToken_l115 Q  n  σ → V X 1 115 [(0, .ref (xad X 82))] [] σ := by
  intro n
  induction n with
  | zero => intro  σ h; exact h.elim
  | succ n ih =>
    intro  σ h
    replace h : ((σ 82 4) ≤ (σ 82 6) → (wM_nextToken_b205 Q σ)) ∧ (¬ ((σ 82 4) ≤ (σ 82 6)) → (vp_in (σ 82 6) 400 ∧ (wM_in (σ 86 (σ 82 6).toNatClampNeg) (nI 97) (nI 122) σ (fun (r47 : Int32) (σ47 : gM) => (r47 = nI 0 → (wM_nextToken_b205 Q σ47)) ∧ (¬ (r47 = nI 0) → (((nI 9) ≤ ((σ47 82 6) - (σ47 82 7)) → (∀ σ50 : gM, σ50 = gUL σ47 82 8 (-4 : Int64) → (∀ σ51 : gM, σ51 = gU σ50 82 6 ((σ50 82 6) + (nI 1)) → (wM_nextToken_l115 Q n σ51)))) ∧ (¬ ((nI 9) ≤ ((σ47 82 6) - (σ47 82 7))) → (vp_in (σ47 82 6) 400 ∧ (∀ σ53 : gM, σ53 = gUL σ47 82 8 ((((27 : Int64) * (gLg (σ47 82 8) (σ47 82 108))) + ((σ47 86 (σ47 82 6).toNatClampNeg).toInt64)) - (96 : Int64)) → (∀ σ54 : gM, σ54 = gU σ53 82 6 ((σ53 82 6) + (nI 1)) → (wM_nextToken_l115 Q n σ54))))))))))) := h
    refine v_aload_n hC 0 dX7_nextToken_115 rfl ?_
    refine gf_X7_92 hC dX7_nextToken_116 ?_
    refine v_aload_n hC 0 dX7_nextToken_119 rfl ?_
    refine gf_X7_86 hC dX7_nextToken_120 ?_
    refine v_icmp_ge hC 205 dX7_nextToken_123 (by decide) (fun c41 => ?_) (fun c41 => ?_)
    · replace h := h.1 c41
      exact V.sub [0] rfl (tM_nextToken_b205 hC hR  _ h)
    · replace h := h.2 c41
      refine v_aload_n hC 0 dX7_nextToken_126 rfl ?_
      refine gf_X7_19 hC dX7_nextToken_127 ?_
      refine v_aload_n hC 0 dX7_nextToken_130 rfl ?_
      refine gf_X7_92 hC dX7_nextToken_131 ?_
      obtain ⟨hi45, h⟩ := h
      refine v_iald hC (Nat.le_of_ble_eq_true rfl) rfl rfl hi45 dX7_nextToken_134 ?_
      refine v_bipush hC (nI 97) dX7_nextToken_135 rfl ?_
      refine v_bipush hC (nI 122) dX7_nextToken_137 rfl ?_
      refine v_callS hC (kM_in _ _ _ _ _ h) cmM_in kw1051 kw1050 ⟨Nat.le_of_ble_eq_true rfl, Nat.le_of_ble_eq_true rfl⟩ (fun _ => rfl) (st := []) (Nat.le_of_ble_eq_true rfl) rfl dX7_nextToken_139 (kk_i (fun r47 σ47 h => ?_))
      refine v_if_eq hC 205 dX7_nextToken_142 (by decide) (fun c48 => ?_) (fun c48 => ?_)
      · replace h := h.1 c48
        exact V.sub [0] rfl (tM_nextToken_b205 hC hR  _ h)
      · replace h := h.2 c48
        refine v_aload_n hC 0 dX7_nextToken_145 rfl ?_
        refine v_aload_n hC 0 dX7_nextToken_146 rfl ?_
        refine gf_X7_92 hC dX7_nextToken_147 ?_
        refine v_aload_n hC 0 dX7_nextToken_150 rfl ?_
        refine gf_X7_95 hC dX7_nextToken_151 ?_
        refine v_isub hC dX7_nextToken_154 ?_
        refine v_bipush hC (nI 9) dX7_nextToken_155 rfl ?_
        refine v_icmp_ge hC 186 dX7_nextToken_157 (by decide) (fun c49 => ?_) (fun c49 => ?_)
        · replace h := h.1 c49
          refine v_ldc2 hC kw1100 dX7_nextToken_186 ?_
          refine pf_X7_106 hC dX7_nextToken_189 (fun σ50 e50 => ?_)
          replace h := h σ50 e50
          refine v_aload_n hC 0 dX7_nextToken_192 rfl ?_
          refine v_dup hC dX7_nextToken_193 rfl ?_
          refine gf_X7_92 hC dX7_nextToken_194 ?_
          refine v_iconst hC (nI 1) dX7_nextToken_197 rfl ?_
          refine v_iadd hC dX7_nextToken_198 ?_
          refine pf_X7_92 hC dX7_nextToken_199 (fun σ51 e51 => ?_)
          replace h := h σ51 e51
          refine v_goto hC 115 dX7_nextToken_202 (by decide) ?_
          exact V.sub [0] rfl (ih _ h)
        · replace h := h.2 c49
          refine v_ldc2 hC kw1098 dX7_nextToken_160 ?_
          refine v_aload_n hC 0 dX7_nextToken_163 rfl ?_
          refine gf_X7_106 hC dX7_nextToken_164 ?_
          refine v_lmul hC dX7_nextToken_167 ?_
          refine v_aload_n hC 0 dX7_nextToken_168 rfl ?_
          refine gf_X7_19 hC dX7_nextToken_169 ?_
          refine v_aload_n hC 0 dX7_nextToken_172 rfl ?_
          refine gf_X7_92 hC dX7_nextToken_173 ?_
          obtain ⟨hi52, h⟩ := h
          refine v_iald hC (Nat.le_of_ble_eq_true rfl) rfl rfl hi52 dX7_nextToken_176 ?_
          refine v_i2l hC dX7_nextToken_177 ?_
          refine v_ladd hC dX7_nextToken_178 ?_
          refine v_ldc2 hC kw1099 dX7_nextToken_179 ?_
          refine v_lsub hC dX7_nextToken_182 ?_
          refine v_goto hC 189 dX7_nextToken_183 (by decide) ?_
          refine pf_X7_106 hC dX7_nextToken_189 (fun σ53 e53 => ?_)
          replace h := h σ53 e53
          refine v_aload_n hC 0 dX7_nextToken_192 rfl ?_
          refine v_dup hC dX7_nextToken_193 rfl ?_
          refine gf_X7_92 hC dX7_nextToken_194 ?_
          refine v_iconst hC (nI 1) dX7_nextToken_197 rfl ?_
          refine v_iadd hC dX7_nextToken_198 ?_
          refine pf_X7_92 hC dX7_nextToken_199 (fun σ54 e54 => ?_)
          replace h := h σ54 e54
          refine v_goto hC 115 dX7_nextToken_202 (by decide) ?_
          exact V.sub [0] rfl (ih _ h)
set_option maxHeartbeats 4000000 in
set_option maxRecDepth 100000 in
theorem tM_nextToken_b52 {X : gX} {Q : gM → Prop} (hC : VC X cX7_nextToken RX7 1 rmM_nextToken) (hR : VR X none (gPv Q))  (σ : gM) (h : wM_nextToken_b52 Q   σ) : V X 1 52 [(0, .ref (xad X 82))] [] σ := by
  replace h : ∀ σ2 : gM, σ2 = gU σ 82 7 (σ 82 6) → (∀ σ3 : gM, σ3 = gU σ2 82 9 (nI 0) → (∀ σ4 : gM, σ4 = gU σ3 82 10 (nI 0) → (((σ4 82 6) = (σ4 82 4) → (∀ σ6 : gM, σ6 = gUL σ4 82 8 (-2 : Int64) → (Q σ6))) ∧ (¬ ((σ4 82 6) = (σ4 82 4)) → (vp_in (σ4 82 6) 400 ∧ (wM_in (σ4 86 (σ4 82 6).toNatClampNeg) (nI 97) (nI 122) σ4 (fun (r9 : Int32) (σ9 : gM) => (r9 = nI 0 → (vp_in (σ9 82 6) 400 ∧ (wM_in (σ9 86 (σ9 82 6).toNatClampNeg) (nI 48) (nI 57) σ9 (fun (r13 : Int32) (σ13 : gM) => (r13 = nI 0 → (vp_in (σ13 82 6) 400 ∧ (((σ13 86 (σ13 82 6).toNatClampNeg) = (nI 59) → (∀ σ17 : gM, σ17 = gUL σ13 82 8 (-3 : Int64) → (∀ σ18 : gM, σ18 = gU σ17 82 6 ((σ17 82 6) + (nI 1)) → (Q σ18)))) ∧ (¬ ((σ13 86 (σ13 82 6).toNatClampNeg) = (nI 59)) → (∀ σ19 : gM, σ19 = gUL σ13 82 8 (-4 : Int64) → (∀ σ20 : gM, σ20 = gU σ19 82 6 ((σ19 82 6) + (nI 1)) → (Q σ20))))))) ∧ (¬ (r13 = nI 0) → (∃ n39 : Nat, wM_nextToken_l255 Q n39 σ13)))))) ∧ (¬ (r9 = nI 0) → (∀ σ40 : gM, σ40 = gUL σ9 82 8 (0 : Int64) → (∃ n55 : Nat, wM_nextToken_l115 Q n55 σ40)))))))))) := h
  refine v_aload_n hC 0 dX7_nextToken_52 rfl ?_
  refine v_aload_n hC 0 dX7_nextToken_53 rfl ?_
  refine gf_X7_92 hC dX7_nextToken_54 ?_
  refine pf_X7_95 hC dX7_nextToken_57 (fun σ2 e2 => ?_)
  replace h := h σ2 e2
  refine v_aload_n hC 0 dX7_nextToken_60 rfl ?_
  refine v_iconst hC (nI 0) dX7_nextToken_61 rfl ?_
  refine pf_X7_98 hC dX7_nextToken_62 (fun σ3 e3 => ?_)
  replace h := h σ3 e3
  refine v_aload_n hC 0 dX7_nextToken_65 rfl ?_
  refine v_iconst hC (nI 0) dX7_nextToken_66 rfl ?_
  refine pf_X7_101 hC dX7_nextToken_67 (fun σ4 e4 => ?_)
  replace h := h σ4 e4
  refine v_aload_n hC 0 dX7_nextToken_70 rfl ?_
  refine gf_X7_92 hC dX7_nextToken_71 ?_
  refine v_aload_n hC 0 dX7_nextToken_74 rfl ?_
  refine gf_X7_86 hC dX7_nextToken_75 ?_
  refine v_icmp_ne hC 91 dX7_nextToken_78 (by decide) (fun c5 => ?_) (fun c5 => ?_)
  · replace h := h.2 c5
    refine v_aload_n hC 0 dX7_nextToken_91 rfl ?_
    refine gf_X7_19 hC dX7_nextToken_92 ?_
    refine v_aload_n hC 0 dX7_nextToken_95 rfl ?_
    refine gf_X7_92 hC dX7_nextToken_96 ?_
    obtain ⟨hi7, h⟩ := h
    refine v_iald hC (Nat.le_of_ble_eq_true rfl) rfl rfl hi7 dX7_nextToken_99 ?_
    refine v_bipush hC (nI 97) dX7_nextToken_100 rfl ?_
    refine v_bipush hC (nI 122) dX7_nextToken_102 rfl ?_
    refine v_callS hC (kM_in _ _ _ _ _ h) cmM_in kw1051 kw1050 ⟨Nat.le_of_ble_eq_true rfl, Nat.le_of_ble_eq_true rfl⟩ (fun _ => rfl) (st := []) (Nat.le_of_ble_eq_true rfl) rfl dX7_nextToken_104 (kk_i (fun r9 σ9 h => ?_))
    refine v_if_eq hC 236 dX7_nextToken_107 (by decide) (fun c10 => ?_) (fun c10 => ?_)
    · replace h := h.1 c10
      refine v_aload_n hC 0 dX7_nextToken_236 rfl ?_
      refine gf_X7_19 hC dX7_nextToken_237 ?_
      refine v_aload_n hC 0 dX7_nextToken_240 rfl ?_
      refine gf_X7_92 hC dX7_nextToken_241 ?_
      obtain ⟨hi11, h⟩ := h
      refine v_iald hC (Nat.le_of_ble_eq_true rfl) rfl rfl hi11 dX7_nextToken_244 ?_
      refine v_bipush hC (nI 48) dX7_nextToken_245 rfl ?_
      refine v_bipush hC (nI 57) dX7_nextToken_247 rfl ?_
      refine v_callS hC (kM_in _ _ _ _ _ h) cmM_in kw1051 kw1050 ⟨Nat.le_of_ble_eq_true rfl, Nat.le_of_ble_eq_true rfl⟩ (fun _ => rfl) (st := []) (Nat.le_of_ble_eq_true rfl) rfl dX7_nextToken_249 (kk_i (fun r13 σ13 h => ?_))
      refine v_if_eq hC 371 dX7_nextToken_252 (by decide) (fun c14 => ?_) (fun c14 => ?_)
      · replace h := h.1 c14
        refine v_aload_n hC 0 dX7_nextToken_371 rfl ?_
        refine v_aload_n hC 0 dX7_nextToken_372 rfl ?_
        refine gf_X7_19 hC dX7_nextToken_373 ?_
        refine v_aload_n hC 0 dX7_nextToken_376 rfl ?_
        refine gf_X7_92 hC dX7_nextToken_377 ?_
        obtain ⟨hi15, h⟩ := h
        refine v_iald hC (Nat.le_of_ble_eq_true rfl) rfl rfl hi15 dX7_nextToken_380 ?_
        refine v_bipush hC (nI 59) dX7_nextToken_381 rfl ?_
        refine v_icmp_ne hC 392 dX7_nextToken_383 (by decide) (fun c16 => ?_) (fun c16 => ?_)
        · replace h := h.2 c16
          refine v_ldc2 hC kw1100 dX7_nextToken_392 ?_
          refine pf_X7_106 hC dX7_nextToken_395 (fun σ19 e19 => ?_)
          replace h := h σ19 e19
          refine v_aload_n hC 0 dX7_nextToken_398 rfl ?_
          refine v_dup hC dX7_nextToken_399 rfl ?_
          refine gf_X7_92 hC dX7_nextToken_400 ?_
          refine v_iconst hC (nI 1) dX7_nextToken_403 rfl ?_
          refine v_iadd hC dX7_nextToken_404 ?_
          refine pf_X7_92 hC dX7_nextToken_405 (fun σ20 e20 => ?_)
          replace h := h σ20 e20
          exact v_vret hC hR h dX7_nextToken_408
        · replace h := h.1 c16
          refine v_ldc2 hC kw1102 dX7_nextToken_386 ?_
          refine v_goto hC 395 dX7_nextToken_389 (by decide) ?_
          refine pf_X7_106 hC dX7_nextToken_395 (fun σ17 e17 => ?_)
          replace h := h σ17 e17
          refine v_aload_n hC 0 dX7_nextToken_398 rfl ?_
          refine v_dup hC dX7_nextToken_399 rfl ?_
          refine gf_X7_92 hC dX7_nextToken_400 ?_
          refine v_iconst hC (nI 1) dX7_nextToken_403 rfl ?_
          refine v_iadd hC dX7_nextToken_404 ?_
          refine pf_X7_92 hC dX7_nextToken_405 (fun σ18 e18 => ?_)
          replace h := h σ18 e18
          exact v_vret hC hR h dX7_nextToken_408
      · replace h := h.2 c14
        obtain ⟨n39, h⟩ := h
        exact V.sub [0] rfl (tM_nextToken_l255 hC hR  n39 _ h)
    · replace h := h.2 c10
      refine v_aload_n hC 0 dX7_nextToken_110 rfl ?_
      refine v_lconst hC (0 : Int64) dX7_nextToken_111 rfl ?_
      refine pf_X7_106 hC dX7_nextToken_112 (fun σ40 e40 => ?_)
      replace h := h σ40 e40
      obtain ⟨n55, h⟩ := h
      exact V.sub [0] rfl (tM_nextToken_l115 hC hR  n55 _ h)
  · replace h := h.1 c5
    refine v_aload_n hC 0 dX7_nextToken_81 rfl ?_
    refine v_ldc2 hC kw1097 dX7_nextToken_82 ?_
    refine pf_X7_106 hC dX7_nextToken_85 (fun σ6 e6 => ?_)
    replace h := h σ6 e6
    refine v_goto hC 408 dX7_nextToken_88 (by decide) ?_
    exact v_vret hC hR h dX7_nextToken_408
set_option maxHeartbeats 4000000 in
set_option maxRecDepth 100000 in
theorem tM_nextToken_l0 {X : gX} {Q : gM → Prop} (hC : VC X cX7_nextToken RX7 1 rmM_nextToken) (hR : VR X none (gPv Q))  : ∀ (n : Nat) (σ : gM), wM_nextToken_l0 Q  n  σ → V X 1 0 [(0, .ref (xad X 82))] [] σ := by
  intro n
  induction n with
  | zero => intro  σ h; exact h.elim
  | succ n ih =>
    intro  σ h
    replace h : ((σ 82 4) ≤ (σ 82 6) → (wM_nextToken_b52 Q σ)) ∧ (¬ ((σ 82 4) ≤ (σ 82 6)) → (vp_in (σ 82 6) 400 ∧ (((σ 86 (σ 82 6).toNatClampNeg) = (nI 32) → (∀ σ58 : gM, σ58 = gU σ 82 6 ((σ 82 6) + (nI 1)) → (wM_nextToken_l0 Q n σ58))) ∧ (¬ ((σ 86 (σ 82 6).toNatClampNeg) = (nI 32)) → (vp_in (σ 82 6) 400 ∧ (((σ 86 (σ 82 6).toNatClampNeg) = (nI 10) → (∀ σ61 : gM, σ61 = gU σ 82 6 ((σ 82 6) + (nI 1)) → (wM_nextToken_l0 Q n σ61))) ∧ (¬ ((σ 86 (σ 82 6).toNatClampNeg) = (nI 10)) → (wM_nextToken_b52 Q σ)))))))) := h
    refine v_aload_n hC 0 dX7_nextToken_0 rfl ?_
    refine gf_X7_92 hC dX7_nextToken_1 ?_
    refine v_aload_n hC 0 dX7_nextToken_4 rfl ?_
    refine gf_X7_86 hC dX7_nextToken_5 ?_
    refine v_icmp_ge hC 52 dX7_nextToken_8 (by decide) (fun c1 => ?_) (fun c1 => ?_)
    · replace h := h.1 c1
      exact V.sub [0] rfl (tM_nextToken_b52 hC hR  _ h)
    · replace h := h.2 c1
      refine v_aload_n hC 0 dX7_nextToken_11 rfl ?_
      refine gf_X7_19 hC dX7_nextToken_12 ?_
      refine v_aload_n hC 0 dX7_nextToken_15 rfl ?_
      refine gf_X7_92 hC dX7_nextToken_16 ?_
      obtain ⟨hi56, h⟩ := h
      refine v_iald hC (Nat.le_of_ble_eq_true rfl) rfl rfl hi56 dX7_nextToken_19 ?_
      refine v_bipush hC (nI 32) dX7_nextToken_20 rfl ?_
      refine v_icmp_eq hC 39 dX7_nextToken_22 (by decide) (fun c57 => ?_) (fun c57 => ?_)
      · replace h := h.1 c57
        refine v_aload_n hC 0 dX7_nextToken_39 rfl ?_
        refine v_dup hC dX7_nextToken_40 rfl ?_
        refine gf_X7_92 hC dX7_nextToken_41 ?_
        refine v_iconst hC (nI 1) dX7_nextToken_44 rfl ?_
        refine v_iadd hC dX7_nextToken_45 ?_
        refine pf_X7_92 hC dX7_nextToken_46 (fun σ58 e58 => ?_)
        replace h := h σ58 e58
        refine v_goto hC 0 dX7_nextToken_49 (by decide) ?_
        exact V.sub [0] rfl (ih _ h)
      · replace h := h.2 c57
        refine v_aload_n hC 0 dX7_nextToken_25 rfl ?_
        refine gf_X7_19 hC dX7_nextToken_26 ?_
        refine v_aload_n hC 0 dX7_nextToken_29 rfl ?_
        refine gf_X7_92 hC dX7_nextToken_30 ?_
        obtain ⟨hi59, h⟩ := h
        refine v_iald hC (Nat.le_of_ble_eq_true rfl) rfl rfl hi59 dX7_nextToken_33 ?_
        refine v_bipush hC (nI 10) dX7_nextToken_34 rfl ?_
        refine v_icmp_ne hC 52 dX7_nextToken_36 (by decide) (fun c60 => ?_) (fun c60 => ?_)
        · replace h := h.2 c60
          exact V.sub [0] rfl (tM_nextToken_b52 hC hR  _ h)
        · replace h := h.1 c60
          refine v_aload_n hC 0 dX7_nextToken_39 rfl ?_
          refine v_dup hC dX7_nextToken_40 rfl ?_
          refine gf_X7_92 hC dX7_nextToken_41 ?_
          refine v_iconst hC (nI 1) dX7_nextToken_44 rfl ?_
          refine v_iadd hC dX7_nextToken_45 ?_
          refine pf_X7_92 hC dX7_nextToken_46 (fun σ61 e61 => ?_)
          replace h := h σ61 e61
          refine v_goto hC 0 dX7_nextToken_49 (by decide) ?_
          exact V.sub [0] rfl (ih _ h)
set_option maxHeartbeats 4000000 in
set_option maxRecDepth 100000 in
theorem kM_nextToken  (σ : gM) (Q : gM → Prop) (h : wM_nextToken  σ Q) : CT yX7_nextToken cX7_nextToken 1 none rmM_nextToken (fun G => [.ref (gad G 82)]) σ (gPv Q) := by
  refine c_enter (by decide) (fun _ => Nat.le_of_ble_eq_true rfl) (fun X hC hR => ?_)
  show V X 1 0 [(0, .ref (xad X 82))] [] σ
  replace h : ∃ n62 : Nat, wM_nextToken_l0 Q n62 σ := h
  obtain ⟨n62, h⟩ := h
  exact V.sub [0] rfl (tM_nextToken_l0 hC hR  n62 _ h)
theorem cmM_nextToken : CM yX7_nextToken cX7_nextToken 1 none rmM_nextToken 0 := ⟨kw82, kw1096, rfl, rfl, by decide, by decide, by decide +kernel⟩
def rmM_fails : Room := { frames := 0, cells := 0, slots := 0, locals := 0 }
def wM_fails (x1 : Int32) (σ : gM) (Q : Int32 → gM → Prop) : Prop :=
    ∀ σ1 : gM, σ1 = gU σ 82 11 x1 → (Q (nI 0) σ1)
set_option maxHeartbeats 4000000 in
set_option maxRecDepth 100000 in
theorem kM_fails (x1 : Int32) (σ : gM) (Q : Int32 → gM → Prop) (h : wM_fails x1 σ Q) : CT yX7_fails cX7_fails 2 (some .boolean) rmM_fails (fun G => [.ref (gad G 82), .int x1]) σ (gPi Q) := by
  refine c_enter (by decide) (fun _ => Nat.le_of_ble_eq_true rfl) (fun X hC hR => ?_)
  show V X 2 0 [(0, .ref (xad X 82)), (1, .int x1)] [] σ
  replace h : ∀ σ1 : gM, σ1 = gU σ 82 11 x1 → (Q (nI 0) σ1) := h
  refine v_aload_n hC 0 dX7_fails_0 rfl ?_
  refine v_iload_n hC 1 dX7_fails_1 rfl ?_
  refine pf_X7_120 hC dX7_fails_2 (fun σ1 e1 => ?_)
  replace h := h σ1 e1
  refine v_iconst hC (nI 0) dX7_fails_5 rfl ?_
  exact v_zret hC hR rfl h dX7_fails_6
theorem cmM_fails : CM yX7_fails cX7_fails 2 (some .boolean) rmM_fails 1 := ⟨kw82, kw1107, rfl, rfl, by decide, by decide, by decide +kernel⟩
def rmM_isNext : Room := { frames := 2, cells := 0, slots := 0, locals := 42 }
def wM_isNext (x1 : Int32) (x2 : Int32) (σ : gM) (Q : Int32 → gM → Prop) : Prop :=
    wM_nextToken  σ (fun (σ2 : gM) => ((lg_cmp (gLg (σ2 82 8) (σ2 82 108)) (-1 : Int64)) = nI 0 → (wM_in (σ2 82 10) x1 x2 σ2 (fun (r5 : Int32) (σ5 : gM) => (r5 = nI 0 → (wM_fails (nI 2) σ5 (fun (r8 : Int32) (σ8 : gM) => ∀ v10 : Int32, v10 = (if r8 = nI 0 then (nI 0) else (nI 1)) → ((v10 = nI 0 ∨ v10 = nI 1) ∧ Q v10 σ8)))) ∧ (¬ (r5 = nI 0) → (Q (nI 1) σ5))))) ∧ (¬ ((lg_cmp (gLg (σ2 82 8) (σ2 82 108)) (-1 : Int64)) = nI 0) → (wM_fails (nI 1) σ2 (fun (r12 : Int32) (σ12 : gM) => (r12 = nI 0 ∨ r12 = nI 1) ∧ Q r12 σ12))))
set_option maxHeartbeats 4000000 in
set_option maxRecDepth 100000 in
theorem kM_isNext (x1 : Int32) (x2 : Int32) (σ : gM) (Q : Int32 → gM → Prop) (h : wM_isNext x1 x2 σ Q) : CT yX7_isNext cX7_isNext 3 (some .boolean) rmM_isNext (fun G => [.ref (gad G 82), .int x1, .int x2]) σ (gPi Q) := by
  refine c_enter (by decide) (fun _ => Nat.le_of_ble_eq_true rfl) (fun X hC hR => ?_)
  show V X 3 0 [(0, .ref (xad X 82)), (1, .int x1), (2, .int x2)] [] σ
  replace h : wM_nextToken  σ (fun (σ2 : gM) => ((lg_cmp (gLg (σ2 82 8) (σ2 82 108)) (-1 : Int64)) = nI 0 → (wM_in (σ2 82 10) x1 x2 σ2 (fun (r5 : Int32) (σ5 : gM) => (r5 = nI 0 → (wM_fails (nI 2) σ5 (fun (r8 : Int32) (σ8 : gM) => ∀ v10 : Int32, v10 = (if r8 = nI 0 then (nI 0) else (nI 1)) → ((v10 = nI 0 ∨ v10 = nI 1) ∧ Q v10 σ8)))) ∧ (¬ (r5 = nI 0) → (Q (nI 1) σ5))))) ∧ (¬ ((lg_cmp (gLg (σ2 82 8) (σ2 82 108)) (-1 : Int64)) = nI 0) → (wM_fails (nI 1) σ2 (fun (r12 : Int32) (σ12 : gM) => (r12 = nI 0 ∨ r12 = nI 1) ∧ Q r12 σ12)))) := h
  refine v_aload_n hC 0 dX7_isNext_0 rfl ?_
  refine v_callV hC (kM_nextToken  _ _ h) cmM_nextToken ⟨kw1095, kw45⟩ kw1093 ⟨Nat.le_of_ble_eq_true rfl, Nat.le_of_ble_eq_true rfl⟩ (Nat.le_of_ble_eq_true rfl) rfl (ci := 7) (T := TX7) (N := 30) rfl (As := fun G => []) (fun _ => rfl) (fun _ => rfl) (st := []) (Nat.le_of_ble_eq_true rfl) rfl dX7_isNext_1 (kk_v (fun σ2 h => ?_))
  refine v_aload_n hC 0 dX7_isNext_4 rfl ?_
  refine gf_X7_106 hC dX7_isNext_5 ?_
  refine v_ldc2 hC kw1101 dX7_isNext_8 ?_
  refine v_lcmp hC dX7_isNext_11 ?_
  refine v_if_eq hC 21 dX7_isNext_12 (by decide) (fun c3 => ?_) (fun c3 => ?_)
  · replace h := h.1 c3
    refine v_aload_n hC 0 dX7_isNext_21 rfl ?_
    refine gf_X7_101 hC dX7_isNext_22 ?_
    refine v_iload_n hC 1 dX7_isNext_25 rfl ?_
    refine v_iload_n hC 2 dX7_isNext_26 rfl ?_
    refine v_callS hC (kM_in _ _ _ _ _ h) cmM_in kw1051 kw1050 ⟨Nat.le_of_ble_eq_true rfl, Nat.le_of_ble_eq_true rfl⟩ (fun _ => rfl) (st := []) (Nat.le_of_ble_eq_true rfl) rfl dX7_isNext_27 (kk_i (fun r5 σ5 h => ?_))
    refine v_if_ne hC 41 dX7_isNext_30 (by decide) (fun c6 => ?_) (fun c6 => ?_)
    · replace h := h.2 c6
      refine v_iconst hC (nI 1) dX7_isNext_41 rfl ?_
      refine v_goto hC 46 dX7_isNext_42 (by decide) ?_
      exact v_zret hC hR rfl h dX7_isNext_46
    · replace h := h.1 c6
      refine v_aload_n hC 0 dX7_isNext_33 rfl ?_
      refine v_iconst hC (nI 2) dX7_isNext_34 rfl ?_
      refine v_callV hC (kM_fails _ _ _ h) cmM_fails ⟨kw1106, kw46⟩ kw1104 ⟨Nat.le_of_ble_eq_true rfl, Nat.le_of_ble_eq_true rfl⟩ (Nat.le_of_ble_eq_true rfl) rfl (ci := 7) (T := TX7) (N := 30) rfl (As := fun G => [.int (nI 2)]) (fun _ => rfl) (fun _ => rfl) (st := []) (Nat.le_of_ble_eq_true rfl) rfl dX7_isNext_35 (kk_i (fun r8 σ8 h => ?_))
      have J9 : ∀ (v10 : Int32) (ev10 : v10 = (if r8 = nI 0 then (nI 0) else (nI 1))), V X 3 46 [] [.int v10] σ8 := by
        intro v10 ev10
        replace h := h v10 ev10
        obtain ⟨hb, h⟩ := h
        exact v_zret hC hR (nar_bool hb) h dX7_isNext_46
      refine v_if_eq hC 45 dX7_isNext_38 (by decide) (fun c9 => ?_) (fun c9 => ?_)
      · refine v_iconst hC (nI 0) dX7_isNext_45 rfl ?_
        exact V.sub [] rfl (J9 _ (by rw [if_pos c9]))
      · refine v_iconst hC (nI 1) dX7_isNext_41 rfl ?_
        refine v_goto hC 46 dX7_isNext_42 (by decide) ?_
        exact V.sub [] rfl (J9 _ (by rw [if_neg c9]))
  · replace h := h.2 c3
    refine v_aload_n hC 0 dX7_isNext_15 rfl ?_
    refine v_iconst hC (nI 1) dX7_isNext_16 rfl ?_
    refine v_callV hC (kM_fails _ _ _ h) cmM_fails ⟨kw1106, kw46⟩ kw1104 ⟨Nat.le_of_ble_eq_true rfl, Nat.le_of_ble_eq_true rfl⟩ (Nat.le_of_ble_eq_true rfl) rfl (ci := 7) (T := TX7) (N := 30) rfl (As := fun G => [.int (nI 1)]) (fun _ => rfl) (fun _ => rfl) (st := []) (Nat.le_of_ble_eq_true rfl) rfl dX7_isNext_17 (kk_i (fun r12 σ12 h => ?_))
    obtain ⟨hb, h⟩ := h
    exact v_zret hC hR (nar_bool hb) h dX7_isNext_20
theorem cmM_isNext : CM yX7_isNext cX7_isNext 3 (some .boolean) rmM_isNext 2 := ⟨kw82, kw1111, rfl, rfl, by decide, by decide, by decide +kernel⟩
def rmM_ends : Room := { frames := 2, cells := 0, slots := 0, locals := 42 }
def wM_ends  (σ : gM) (Q : Int32 → gM → Prop) : Prop :=
    wM_nextToken  σ (fun (σ2 : gM) => ((lg_cmp (gLg (σ2 82 8) (σ2 82 108)) (-3 : Int64)) = nI 0 → (Q (nI 1) σ2)) ∧ (¬ ((lg_cmp (gLg (σ2 82 8) (σ2 82 108)) (-3 : Int64)) = nI 0) → (wM_fails (nI 1) σ2 (fun (r5 : Int32) (σ5 : gM) => ∀ v7 : Int32, v7 = (if r5 = nI 0 then (nI 0) else (nI 1)) → ((v7 = nI 0 ∨ v7 = nI 1) ∧ Q v7 σ5)))))
set_option maxHeartbeats 4000000 in
set_option maxRecDepth 100000 in
theorem kM_ends  (σ : gM) (Q : Int32 → gM → Prop) (h : wM_ends  σ Q) : CT yX7_ends cX7_ends 1 (some .boolean) rmM_ends (fun G => [.ref (gad G 82)]) σ (gPi Q) := by
  refine c_enter (by decide) (fun _ => Nat.le_of_ble_eq_true rfl) (fun X hC hR => ?_)
  show V X 1 0 [(0, .ref (xad X 82))] [] σ
  replace h : wM_nextToken  σ (fun (σ2 : gM) => ((lg_cmp (gLg (σ2 82 8) (σ2 82 108)) (-3 : Int64)) = nI 0 → (Q (nI 1) σ2)) ∧ (¬ ((lg_cmp (gLg (σ2 82 8) (σ2 82 108)) (-3 : Int64)) = nI 0) → (wM_fails (nI 1) σ2 (fun (r5 : Int32) (σ5 : gM) => ∀ v7 : Int32, v7 = (if r5 = nI 0 then (nI 0) else (nI 1)) → ((v7 = nI 0 ∨ v7 = nI 1) ∧ Q v7 σ5))))) := h
  refine v_aload_n hC 0 dX7_ends_0 rfl ?_
  refine v_callV hC (kM_nextToken  _ _ h) cmM_nextToken ⟨kw1095, kw45⟩ kw1093 ⟨Nat.le_of_ble_eq_true rfl, Nat.le_of_ble_eq_true rfl⟩ (Nat.le_of_ble_eq_true rfl) rfl (ci := 7) (T := TX7) (N := 30) rfl (As := fun G => []) (fun _ => rfl) (fun _ => rfl) (st := []) (Nat.le_of_ble_eq_true rfl) rfl dX7_ends_1 (kk_v (fun σ2 h => ?_))
  refine v_aload_n hC 0 dX7_ends_4 rfl ?_
  refine gf_X7_106 hC dX7_ends_5 ?_
  refine v_ldc2 hC kw1102 dX7_ends_8 ?_
  refine v_lcmp hC dX7_ends_11 ?_
  refine v_if_eq hC 23 dX7_ends_12 (by decide) (fun c3 => ?_) (fun c3 => ?_)
  · replace h := h.1 c3
    refine v_iconst hC (nI 1) dX7_ends_23 rfl ?_
    refine v_goto hC 28 dX7_ends_24 (by decide) ?_
    exact v_zret hC hR rfl h dX7_ends_28
  · replace h := h.2 c3
    refine v_aload_n hC 0 dX7_ends_15 rfl ?_
    refine v_iconst hC (nI 1) dX7_ends_16 rfl ?_
    refine v_callV hC (kM_fails _ _ _ h) cmM_fails ⟨kw1106, kw46⟩ kw1104 ⟨Nat.le_of_ble_eq_true rfl, Nat.le_of_ble_eq_true rfl⟩ (Nat.le_of_ble_eq_true rfl) rfl (ci := 7) (T := TX7) (N := 30) rfl (As := fun G => [.int (nI 1)]) (fun _ => rfl) (fun _ => rfl) (st := []) (Nat.le_of_ble_eq_true rfl) rfl dX7_ends_17 (kk_i (fun r5 σ5 h => ?_))
    have J6 : ∀ (v7 : Int32) (ev7 : v7 = (if r5 = nI 0 then (nI 0) else (nI 1))), V X 1 28 [] [.int v7] σ5 := by
      intro v7 ev7
      replace h := h v7 ev7
      obtain ⟨hb, h⟩ := h
      exact v_zret hC hR (nar_bool hb) h dX7_ends_28
    refine v_if_eq hC 27 dX7_ends_20 (by decide) (fun c6 => ?_) (fun c6 => ?_)
    · refine v_iconst hC (nI 0) dX7_ends_27 rfl ?_
      exact V.sub [] rfl (J6 _ (by rw [if_pos c6]))
    · refine v_iconst hC (nI 1) dX7_ends_23 rfl ?_
      refine v_goto hC 28 dX7_ends_24 (by decide) ?_
      exact V.sub [] rfl (J6 _ (by rw [if_neg c6]))
theorem cmM_ends : CM yX7_ends cX7_ends 1 (some .boolean) rmM_ends 0 := ⟨kw82, kw1115, rfl, rfl, by decide, by decide, by decide +kernel⟩
def rmM_isBuyer : Room := { frames := 3, cells := 0, slots := 0, locals := 64 }
def wM_isBuyer  (σ : gM) (Q : Int32 → gM → Prop) : Prop :=
    ((σ 82 13) = (nI 4) → (wM_fails (nI 3) σ (fun (r3 : Int32) (σ3 : gM) => (r3 = nI 0 ∨ r3 = nI 1) ∧ Q r3 σ3))) ∧ (¬ ((σ 82 13) = (nI 4)) → (wM_isNext (nI 0) (nI 5) σ (fun (r5 : Int32) (σ5 : gM) => (r5 = nI 0 → (Q (nI 0) σ5)) ∧ (¬ (r5 = nI 0) → (vp_in ((nI 2) * (σ5 82 13)) 8 ∧ (∀ σ7 : gM, σ7 = gU σ5 87 ((nI 2) * (σ5 82 13)).toNatClampNeg (σ5 82 10) → (wM_isNext (nI 0) (nI 200) σ7 (fun (r9 : Int32) (σ9 : gM) => (r9 = nI 0 → (Q (nI 0) σ9)) ∧ (¬ (r9 = nI 0) → (vp_in (((nI 2) * (σ9 82 13)) + (nI 1)) 8 ∧ (∀ σ11 : gM, σ11 = gU σ9 87 (((nI 2) * (σ9 82 13)) + (nI 1)).toNatClampNeg (σ9 82 10) → (∀ σ12 : gM, σ12 = gU σ11 82 13 ((σ11 82 13) + (nI 1)) → (wM_ends  σ12 (fun (r14 : Int32) (σ14 : gM) => (r14 = nI 0 ∨ r14 = nI 1) ∧ Q r14 σ14))))))))))))))
set_option maxHeartbeats 4000000 in
set_option maxRecDepth 100000 in
theorem kM_isBuyer  (σ : gM) (Q : Int32 → gM → Prop) (h : wM_isBuyer  σ Q) : CT yX7_isBuyer cX7_isBuyer 1 (some .boolean) rmM_isBuyer (fun G => [.ref (gad G 82)]) σ (gPi Q) := by
  refine c_enter (by decide) (fun _ => Nat.le_of_ble_eq_true rfl) (fun X hC hR => ?_)
  show V X 1 0 [(0, .ref (xad X 82))] [] σ
  replace h : ((σ 82 13) = (nI 4) → (wM_fails (nI 3) σ (fun (r3 : Int32) (σ3 : gM) => (r3 = nI 0 ∨ r3 = nI 1) ∧ Q r3 σ3))) ∧ (¬ ((σ 82 13) = (nI 4)) → (wM_isNext (nI 0) (nI 5) σ (fun (r5 : Int32) (σ5 : gM) => (r5 = nI 0 → (Q (nI 0) σ5)) ∧ (¬ (r5 = nI 0) → (vp_in ((nI 2) * (σ5 82 13)) 8 ∧ (∀ σ7 : gM, σ7 = gU σ5 87 ((nI 2) * (σ5 82 13)).toNatClampNeg (σ5 82 10) → (wM_isNext (nI 0) (nI 200) σ7 (fun (r9 : Int32) (σ9 : gM) => (r9 = nI 0 → (Q (nI 0) σ9)) ∧ (¬ (r9 = nI 0) → (vp_in (((nI 2) * (σ9 82 13)) + (nI 1)) 8 ∧ (∀ σ11 : gM, σ11 = gU σ9 87 (((nI 2) * (σ9 82 13)) + (nI 1)).toNatClampNeg (σ9 82 10) → (∀ σ12 : gM, σ12 = gU σ11 82 13 ((σ11 82 13) + (nI 1)) → (wM_ends  σ12 (fun (r14 : Int32) (σ14 : gM) => (r14 = nI 0 ∨ r14 = nI 1) ∧ Q r14 σ14)))))))))))))) := h
  refine v_aload_n hC 0 dX7_isBuyer_0 rfl ?_
  refine gf_X7_129 hC dX7_isBuyer_1 ?_
  refine v_iconst hC (nI 4) dX7_isBuyer_4 rfl ?_
  refine v_icmp_ne hC 14 dX7_isBuyer_5 (by decide) (fun c1 => ?_) (fun c1 => ?_)
  · replace h := h.2 c1
    refine v_aload_n hC 0 dX7_isBuyer_14 rfl ?_
    refine v_iconst hC (nI 0) dX7_isBuyer_15 rfl ?_
    refine v_iconst hC (nI 5) dX7_isBuyer_16 rfl ?_
    refine v_callV hC (kM_isNext _ _ _ _ h) cmM_isNext ⟨kw1110, kw47⟩ kw1108 ⟨Nat.le_of_ble_eq_true rfl, Nat.le_of_ble_eq_true rfl⟩ (Nat.le_of_ble_eq_true rfl) rfl (ci := 7) (T := TX7) (N := 30) rfl (As := fun G => [.int (nI 0), .int (nI 5)]) (fun _ => rfl) (fun _ => rfl) (st := []) (Nat.le_of_ble_eq_true rfl) rfl dX7_isBuyer_17 (kk_i (fun r5 σ5 h => ?_))
    refine v_if_ne hC 25 dX7_isBuyer_20 (by decide) (fun c6 => ?_) (fun c6 => ?_)
    · replace h := h.2 c6
      refine v_aload_n hC 0 dX7_isBuyer_25 rfl ?_
      refine gf_X7_22 hC dX7_isBuyer_26 ?_
      refine v_iconst hC (nI 2) dX7_isBuyer_29 rfl ?_
      refine v_aload_n hC 0 dX7_isBuyer_30 rfl ?_
      refine gf_X7_129 hC dX7_isBuyer_31 ?_
      refine v_imul hC dX7_isBuyer_34 ?_
      refine v_aload_n hC 0 dX7_isBuyer_35 rfl ?_
      refine gf_X7_101 hC dX7_isBuyer_36 ?_
      obtain ⟨hi7, h⟩ := h
      refine v_iast hC (Nat.le_of_ble_eq_true rfl) rfl rfl hi7 dX7_isBuyer_39 (fun σ7 e7 => ?_)
      replace h := h σ7 e7
      refine v_aload_n hC 0 dX7_isBuyer_40 rfl ?_
      refine v_iconst hC (nI 0) dX7_isBuyer_41 rfl ?_
      refine v_sipush hC (nI 200) dX7_isBuyer_42 rfl ?_
      refine v_callV hC (kM_isNext _ _ _ _ h) cmM_isNext ⟨kw1110, kw47⟩ kw1108 ⟨Nat.le_of_ble_eq_true rfl, Nat.le_of_ble_eq_true rfl⟩ (Nat.le_of_ble_eq_true rfl) rfl (ci := 7) (T := TX7) (N := 30) rfl (As := fun G => [.int (nI 0), .int (nI 200)]) (fun _ => rfl) (fun _ => rfl) (st := []) (Nat.le_of_ble_eq_true rfl) rfl dX7_isBuyer_45 (kk_i (fun r9 σ9 h => ?_))
      refine v_if_ne hC 53 dX7_isBuyer_48 (by decide) (fun c10 => ?_) (fun c10 => ?_)
      · replace h := h.2 c10
        refine v_aload_n hC 0 dX7_isBuyer_53 rfl ?_
        refine gf_X7_22 hC dX7_isBuyer_54 ?_
        refine v_iconst hC (nI 2) dX7_isBuyer_57 rfl ?_
        refine v_aload_n hC 0 dX7_isBuyer_58 rfl ?_
        refine gf_X7_129 hC dX7_isBuyer_59 ?_
        refine v_imul hC dX7_isBuyer_62 ?_
        refine v_iconst hC (nI 1) dX7_isBuyer_63 rfl ?_
        refine v_iadd hC dX7_isBuyer_64 ?_
        refine v_aload_n hC 0 dX7_isBuyer_65 rfl ?_
        refine gf_X7_101 hC dX7_isBuyer_66 ?_
        obtain ⟨hi11, h⟩ := h
        refine v_iast hC (Nat.le_of_ble_eq_true rfl) rfl rfl hi11 dX7_isBuyer_69 (fun σ11 e11 => ?_)
        replace h := h σ11 e11
        refine v_aload_n hC 0 dX7_isBuyer_70 rfl ?_
        refine v_dup hC dX7_isBuyer_71 rfl ?_
        refine gf_X7_129 hC dX7_isBuyer_72 ?_
        refine v_iconst hC (nI 1) dX7_isBuyer_75 rfl ?_
        refine v_iadd hC dX7_isBuyer_76 ?_
        refine pf_X7_129 hC dX7_isBuyer_77 (fun σ12 e12 => ?_)
        replace h := h σ12 e12
        refine v_aload_n hC 0 dX7_isBuyer_80 rfl ?_
        refine v_callV hC (kM_ends  _ _ h) cmM_ends ⟨kw1114, kw48⟩ kw1112 ⟨Nat.le_of_ble_eq_true rfl, Nat.le_of_ble_eq_true rfl⟩ (Nat.le_of_ble_eq_true rfl) rfl (ci := 7) (T := TX7) (N := 30) rfl (As := fun G => []) (fun _ => rfl) (fun _ => rfl) (st := []) (Nat.le_of_ble_eq_true rfl) rfl dX7_isBuyer_81 (kk_i (fun r14 σ14 h => ?_))
        obtain ⟨hb, h⟩ := h
        exact v_zret hC hR (nar_bool hb) h dX7_isBuyer_84
      · replace h := h.1 c10
        refine v_iconst hC (nI 0) dX7_isBuyer_51 rfl ?_
        exact v_zret hC hR rfl h dX7_isBuyer_52
    · replace h := h.1 c6
      refine v_iconst hC (nI 0) dX7_isBuyer_23 rfl ?_
      exact v_zret hC hR rfl h dX7_isBuyer_24
  · replace h := h.1 c1
    refine v_aload_n hC 0 dX7_isBuyer_8 rfl ?_
    refine v_iconst hC (nI 3) dX7_isBuyer_9 rfl ?_
    refine v_callV hC (kM_fails _ _ _ h) cmM_fails ⟨kw1106, kw46⟩ kw1104 ⟨Nat.le_of_ble_eq_true rfl, Nat.le_of_ble_eq_true rfl⟩ (Nat.le_of_ble_eq_true rfl) rfl (ci := 7) (T := TX7) (N := 30) rfl (As := fun G => [.int (nI 3)]) (fun _ => rfl) (fun _ => rfl) (st := []) (Nat.le_of_ble_eq_true rfl) rfl dX7_isBuyer_10 (kk_i (fun r3 σ3 h => ?_))
    obtain ⟨hb, h⟩ := h
    exact v_zret hC hR (nar_bool hb) h dX7_isBuyer_13
theorem cmM_isBuyer : CM yX7_isBuyer cX7_isBuyer 1 (some .boolean) rmM_isBuyer 0 := ⟨kw82, kw1120, rfl, rfl, by decide, by decide, by decide +kernel⟩
def rmM_isWare : Room := { frames := 3, cells := 0, slots := 0, locals := 64 }
def wM_isWare  (σ : gM) (Q : Int32 → gM → Prop) : Prop :=
    ((σ 82 14) = (nI 10) → (wM_fails (nI 3) σ (fun (r3 : Int32) (σ3 : gM) => (r3 = nI 0 ∨ r3 = nI 1) ∧ Q r3 σ3))) ∧ (¬ ((σ 82 14) = (nI 10)) → (wM_nextToken  σ (fun (σ5 : gM) => ∀ v7 : Int32, v7 = (if (lg_cmp (gLg (σ5 82 8) (σ5 82 108)) (3558512 : Int64)) = nI 0 then (nI 1) else (if (lg_cmp (gLg (σ5 82 8) (σ5 82 108)) (7016315 : Int64)) = nI 0 then (nI 2) else (if (lg_cmp (gLg (σ5 82 8) (σ5 82 108)) (1174930 : Int64)) = nI 0 then (nI 3) else (if (lg_cmp (gLg (σ5 82 8) (σ5 82 108)) (1842002 : Int64)) = nI 0 then (nI 4) else (if (lg_cmp (gLg (σ5 82 8) (σ5 82 108)) (380873 : Int64)) = nI 0 then (nI 5) else (nI 0)))))) → ((v7 = nI 0 → (wM_fails (nI 1) σ5 (fun (r10 : Int32) (σ10 : gM) => (r10 = nI 0 ∨ r10 = nI 1) ∧ Q r10 σ10))) ∧ (¬ (v7 = nI 0) → (vp_in ((nI 3) * (σ5 82 14)) 30 ∧ (∀ σ11 : gM, σ11 = gU σ5 88 ((nI 3) * (σ5 82 14)).toNatClampNeg v7 → (wM_isNext (nI 0) (nI 30) σ11 (fun (r13 : Int32) (σ13 : gM) => (r13 = nI 0 → (Q (nI 0) σ13)) ∧ (¬ (r13 = nI 0) → (vp_in (((nI 3) * (σ13 82 14)) + (nI 1)) 30 ∧ (∀ σ15 : gM, σ15 = gU σ13 88 (((nI 3) * (σ13 82 14)) + (nI 1)).toNatClampNeg (σ13 82 10) → (wM_isNext (nI 0) (nI 9) σ15 (fun (r17 : Int32) (σ17 : gM) => (r17 = nI 0 → (Q (nI 0) σ17)) ∧ (¬ (r17 = nI 0) → (vp_in (((nI 3) * (σ17 82 14)) + (nI 2)) 30 ∧ (∀ σ19 : gM, σ19 = gU σ17 88 (((nI 3) * (σ17 82 14)) + (nI 2)).toNatClampNeg (σ17 82 10) → (∀ σ20 : gM, σ20 = gU σ19 82 14 ((σ19 82 14) + (nI 1)) → (wM_ends  σ20 (fun (r22 : Int32) (σ22 : gM) => (r22 = nI 0 ∨ r22 = nI 1) ∧ Q r22 σ22))))))))))))))))))))
set_option maxHeartbeats 4000000 in
set_option maxRecDepth 100000 in
theorem kM_isWare  (σ : gM) (Q : Int32 → gM → Prop) (h : wM_isWare  σ Q) : CT yX7_isWare cX7_isWare 2 (some .boolean) rmM_isWare (fun G => [.ref (gad G 82)]) σ (gPi Q) := by
  refine c_enter (by decide) (fun _ => Nat.le_of_ble_eq_true rfl) (fun X hC hR => ?_)
  show V X 2 0 [(0, .ref (xad X 82))] [] σ
  replace h : ((σ 82 14) = (nI 10) → (wM_fails (nI 3) σ (fun (r3 : Int32) (σ3 : gM) => (r3 = nI 0 ∨ r3 = nI 1) ∧ Q r3 σ3))) ∧ (¬ ((σ 82 14) = (nI 10)) → (wM_nextToken  σ (fun (σ5 : gM) => ∀ v7 : Int32, v7 = (if (lg_cmp (gLg (σ5 82 8) (σ5 82 108)) (3558512 : Int64)) = nI 0 then (nI 1) else (if (lg_cmp (gLg (σ5 82 8) (σ5 82 108)) (7016315 : Int64)) = nI 0 then (nI 2) else (if (lg_cmp (gLg (σ5 82 8) (σ5 82 108)) (1174930 : Int64)) = nI 0 then (nI 3) else (if (lg_cmp (gLg (σ5 82 8) (σ5 82 108)) (1842002 : Int64)) = nI 0 then (nI 4) else (if (lg_cmp (gLg (σ5 82 8) (σ5 82 108)) (380873 : Int64)) = nI 0 then (nI 5) else (nI 0)))))) → ((v7 = nI 0 → (wM_fails (nI 1) σ5 (fun (r10 : Int32) (σ10 : gM) => (r10 = nI 0 ∨ r10 = nI 1) ∧ Q r10 σ10))) ∧ (¬ (v7 = nI 0) → (vp_in ((nI 3) * (σ5 82 14)) 30 ∧ (∀ σ11 : gM, σ11 = gU σ5 88 ((nI 3) * (σ5 82 14)).toNatClampNeg v7 → (wM_isNext (nI 0) (nI 30) σ11 (fun (r13 : Int32) (σ13 : gM) => (r13 = nI 0 → (Q (nI 0) σ13)) ∧ (¬ (r13 = nI 0) → (vp_in (((nI 3) * (σ13 82 14)) + (nI 1)) 30 ∧ (∀ σ15 : gM, σ15 = gU σ13 88 (((nI 3) * (σ13 82 14)) + (nI 1)).toNatClampNeg (σ13 82 10) → (wM_isNext (nI 0) (nI 9) σ15 (fun (r17 : Int32) (σ17 : gM) => (r17 = nI 0 → (Q (nI 0) σ17)) ∧ (¬ (r17 = nI 0) → (vp_in (((nI 3) * (σ17 82 14)) + (nI 2)) 30 ∧ (∀ σ19 : gM, σ19 = gU σ17 88 (((nI 3) * (σ17 82 14)) + (nI 2)).toNatClampNeg (σ17 82 10) → (∀ σ20 : gM, σ20 = gU σ19 82 14 ((σ19 82 14) + (nI 1)) → (wM_ends  σ20 (fun (r22 : Int32) (σ22 : gM) => (r22 = nI 0 ∨ r22 = nI 1) ∧ Q r22 σ22)))))))))))))))))))) := h
  refine v_aload_n hC 0 dX7_isWare_0 rfl ?_
  refine gf_X7_140 hC dX7_isWare_1 ?_
  refine v_bipush hC (nI 10) dX7_isWare_4 rfl ?_
  refine v_icmp_ne hC 15 dX7_isWare_6 (by decide) (fun c1 => ?_) (fun c1 => ?_)
  · replace h := h.2 c1
    refine v_aload_n hC 0 dX7_isWare_15 rfl ?_
    refine v_callV hC (kM_nextToken  _ _ h) cmM_nextToken ⟨kw1095, kw45⟩ kw1093 ⟨Nat.le_of_ble_eq_true rfl, Nat.le_of_ble_eq_true rfl⟩ (Nat.le_of_ble_eq_true rfl) rfl (ci := 7) (T := TX7) (N := 30) rfl (As := fun G => []) (fun _ => rfl) (fun _ => rfl) (st := []) (Nat.le_of_ble_eq_true rfl) rfl dX7_isWare_16 (kk_v (fun σ5 h => ?_))
    refine v_aload_n hC 0 dX7_isWare_19 rfl ?_
    refine gf_X7_106 hC dX7_isWare_20 ?_
    refine v_ldc2 hC kw1126 dX7_isWare_23 ?_
    refine v_lcmp hC dX7_isWare_26 ?_
    have J6 : ∀ (v7 : Int32) (ev7 : v7 = (if (lg_cmp (gLg (σ5 82 8) (σ5 82 108)) (3558512 : Int64)) = nI 0 then (nI 1) else (if (lg_cmp (gLg (σ5 82 8) (σ5 82 108)) (7016315 : Int64)) = nI 0 then (nI 2) else (if (lg_cmp (gLg (σ5 82 8) (σ5 82 108)) (1174930 : Int64)) = nI 0 then (nI 3) else (if (lg_cmp (gLg (σ5 82 8) (σ5 82 108)) (1842002 : Int64)) = nI 0 then (nI 4) else (if (lg_cmp (gLg (σ5 82 8) (σ5 82 108)) (380873 : Int64)) = nI 0 then (nI 5) else (nI 0))))))), V X 2 95 [(0, .ref (xad X 82))] [.int v7] σ5 := by
      intro v7 ev7
      replace h := h v7 ev7
      refine v_istore_n hC dX7_isWare_95 (by decide) rfl ?_
      refine v_iload_n hC 0 dX7_isWare_96 rfl ?_
      refine v_if_ne hC 106 dX7_isWare_97 (by decide) (fun c8 => ?_) (fun c8 => ?_)
      · replace h := h.2 c8
        refine v_aload_n hC 1 dX7_isWare_106 rfl ?_
        refine gf_X7_25 hC dX7_isWare_107 ?_
        refine v_iconst hC (nI 3) dX7_isWare_110 rfl ?_
        refine v_aload_n hC 1 dX7_isWare_111 rfl ?_
        refine gf_X7_140 hC dX7_isWare_112 ?_
        refine v_imul hC dX7_isWare_115 ?_
        refine v_iload_n hC 0 dX7_isWare_116 rfl ?_
        obtain ⟨hi11, h⟩ := h
        refine v_iast hC (Nat.le_of_ble_eq_true rfl) rfl rfl hi11 dX7_isWare_117 (fun σ11 e11 => ?_)
        replace h := h σ11 e11
        refine v_aload_n hC 1 dX7_isWare_118 rfl ?_
        refine v_iconst hC (nI 0) dX7_isWare_119 rfl ?_
        refine v_bipush hC (nI 30) dX7_isWare_120 rfl ?_
        refine v_callV hC (kM_isNext _ _ _ _ h) cmM_isNext ⟨kw1110, kw47⟩ kw1108 ⟨Nat.le_of_ble_eq_true rfl, Nat.le_of_ble_eq_true rfl⟩ (Nat.le_of_ble_eq_true rfl) rfl (ci := 7) (T := TX7) (N := 30) rfl (As := fun G => [.int (nI 0), .int (nI 30)]) (fun _ => rfl) (fun _ => rfl) (st := []) (Nat.le_of_ble_eq_true rfl) rfl dX7_isWare_122 (kk_i (fun r13 σ13 h => ?_))
        refine v_if_ne hC 130 dX7_isWare_125 (by decide) (fun c14 => ?_) (fun c14 => ?_)
        · replace h := h.2 c14
          refine v_aload_n hC 1 dX7_isWare_130 rfl ?_
          refine gf_X7_25 hC dX7_isWare_131 ?_
          refine v_iconst hC (nI 3) dX7_isWare_134 rfl ?_
          refine v_aload_n hC 1 dX7_isWare_135 rfl ?_
          refine gf_X7_140 hC dX7_isWare_136 ?_
          refine v_imul hC dX7_isWare_139 ?_
          refine v_iconst hC (nI 1) dX7_isWare_140 rfl ?_
          refine v_iadd hC dX7_isWare_141 ?_
          refine v_aload_n hC 1 dX7_isWare_142 rfl ?_
          refine gf_X7_101 hC dX7_isWare_143 ?_
          obtain ⟨hi15, h⟩ := h
          refine v_iast hC (Nat.le_of_ble_eq_true rfl) rfl rfl hi15 dX7_isWare_146 (fun σ15 e15 => ?_)
          replace h := h σ15 e15
          refine v_aload_n hC 1 dX7_isWare_147 rfl ?_
          refine v_iconst hC (nI 0) dX7_isWare_148 rfl ?_
          refine v_bipush hC (nI 9) dX7_isWare_149 rfl ?_
          refine v_callV hC (kM_isNext _ _ _ _ h) cmM_isNext ⟨kw1110, kw47⟩ kw1108 ⟨Nat.le_of_ble_eq_true rfl, Nat.le_of_ble_eq_true rfl⟩ (Nat.le_of_ble_eq_true rfl) rfl (ci := 7) (T := TX7) (N := 30) rfl (As := fun G => [.int (nI 0), .int (nI 9)]) (fun _ => rfl) (fun _ => rfl) (st := []) (Nat.le_of_ble_eq_true rfl) rfl dX7_isWare_151 (kk_i (fun r17 σ17 h => ?_))
          refine v_if_ne hC 159 dX7_isWare_154 (by decide) (fun c18 => ?_) (fun c18 => ?_)
          · replace h := h.2 c18
            refine v_aload_n hC 1 dX7_isWare_159 rfl ?_
            refine gf_X7_25 hC dX7_isWare_160 ?_
            refine v_iconst hC (nI 3) dX7_isWare_163 rfl ?_
            refine v_aload_n hC 1 dX7_isWare_164 rfl ?_
            refine gf_X7_140 hC dX7_isWare_165 ?_
            refine v_imul hC dX7_isWare_168 ?_
            refine v_iconst hC (nI 2) dX7_isWare_169 rfl ?_
            refine v_iadd hC dX7_isWare_170 ?_
            refine v_aload_n hC 1 dX7_isWare_171 rfl ?_
            refine gf_X7_101 hC dX7_isWare_172 ?_
            obtain ⟨hi19, h⟩ := h
            refine v_iast hC (Nat.le_of_ble_eq_true rfl) rfl rfl hi19 dX7_isWare_175 (fun σ19 e19 => ?_)
            replace h := h σ19 e19
            refine v_aload_n hC 1 dX7_isWare_176 rfl ?_
            refine v_dup hC dX7_isWare_177 rfl ?_
            refine gf_X7_140 hC dX7_isWare_178 ?_
            refine v_iconst hC (nI 1) dX7_isWare_181 rfl ?_
            refine v_iadd hC dX7_isWare_182 ?_
            refine pf_X7_140 hC dX7_isWare_183 (fun σ20 e20 => ?_)
            replace h := h σ20 e20
            refine v_aload_n hC 1 dX7_isWare_186 rfl ?_
            refine v_callV hC (kM_ends  _ _ h) cmM_ends ⟨kw1114, kw48⟩ kw1112 ⟨Nat.le_of_ble_eq_true rfl, Nat.le_of_ble_eq_true rfl⟩ (Nat.le_of_ble_eq_true rfl) rfl (ci := 7) (T := TX7) (N := 30) rfl (As := fun G => []) (fun _ => rfl) (fun _ => rfl) (st := []) (Nat.le_of_ble_eq_true rfl) rfl dX7_isWare_187 (kk_i (fun r22 σ22 h => ?_))
            obtain ⟨hb, h⟩ := h
            exact v_zret hC hR (nar_bool hb) h dX7_isWare_190
          · replace h := h.1 c18
            refine v_iconst hC (nI 0) dX7_isWare_157 rfl ?_
            exact v_zret hC hR rfl h dX7_isWare_158
        · replace h := h.1 c14
          refine v_iconst hC (nI 0) dX7_isWare_128 rfl ?_
          exact v_zret hC hR rfl h dX7_isWare_129
      · replace h := h.1 c8
        refine v_aload_n hC 1 dX7_isWare_100 rfl ?_
        refine v_iconst hC (nI 1) dX7_isWare_101 rfl ?_
        refine v_callV hC (kM_fails _ _ _ h) cmM_fails ⟨kw1106, kw46⟩ kw1104 ⟨Nat.le_of_ble_eq_true rfl, Nat.le_of_ble_eq_true rfl⟩ (Nat.le_of_ble_eq_true rfl) rfl (ci := 7) (T := TX7) (N := 30) rfl (As := fun G => [.int (nI 1)]) (fun _ => rfl) (fun _ => rfl) (st := []) (Nat.le_of_ble_eq_true rfl) rfl dX7_isWare_102 (kk_i (fun r10 σ10 h => ?_))
        obtain ⟨hb, h⟩ := h
        exact v_zret hC hR (nar_bool hb) h dX7_isWare_105
    refine v_if_ne hC 34 dX7_isWare_27 (by decide) (fun c6 => ?_) (fun c6 => ?_)
    · refine v_aload_n hC 0 dX7_isWare_34 rfl ?_
      refine gf_X7_106 hC dX7_isWare_35 ?_
      refine v_ldc2 hC kw1127 dX7_isWare_38 ?_
      refine v_lcmp hC dX7_isWare_41 ?_
      have J23 : V X 2 95 [(0, .ref (xad X 82))] [.int (if (lg_cmp (gLg (σ5 82 8) (σ5 82 108)) (7016315 : Int64)) = nI 0 then (nI 2) else (if (lg_cmp (gLg (σ5 82 8) (σ5 82 108)) (1174930 : Int64)) = nI 0 then (nI 3) else (if (lg_cmp (gLg (σ5 82 8) (σ5 82 108)) (1842002 : Int64)) = nI 0 then (nI 4) else (if (lg_cmp (gLg (σ5 82 8) (σ5 82 108)) (380873 : Int64)) = nI 0 then (nI 5) else (nI 0)))))] σ5 := by
        exact V.sub [0] rfl (J6 _ (by rw [if_neg c6]))
      refine v_if_ne hC 49 dX7_isWare_42 (by decide) (fun c23 => ?_) (fun c23 => ?_)
      · refine v_aload_n hC 0 dX7_isWare_49 rfl ?_
        refine gf_X7_106 hC dX7_isWare_50 ?_
        refine v_ldc2 hC kw1128 dX7_isWare_53 ?_
        refine v_lcmp hC dX7_isWare_56 ?_
        have J24 : V X 2 95 [(0, .ref (xad X 82))] [.int (if (lg_cmp (gLg (σ5 82 8) (σ5 82 108)) (1174930 : Int64)) = nI 0 then (nI 3) else (if (lg_cmp (gLg (σ5 82 8) (σ5 82 108)) (1842002 : Int64)) = nI 0 then (nI 4) else (if (lg_cmp (gLg (σ5 82 8) (σ5 82 108)) (380873 : Int64)) = nI 0 then (nI 5) else (nI 0))))] σ5 := by
          rw [if_neg c23] at J23
          exact V.sub [0] rfl J23
        refine v_if_ne hC 64 dX7_isWare_57 (by decide) (fun c24 => ?_) (fun c24 => ?_)
        · refine v_aload_n hC 0 dX7_isWare_64 rfl ?_
          refine gf_X7_106 hC dX7_isWare_65 ?_
          refine v_ldc2 hC kw1129 dX7_isWare_68 ?_
          refine v_lcmp hC dX7_isWare_71 ?_
          have J25 : V X 2 95 [(0, .ref (xad X 82))] [.int (if (lg_cmp (gLg (σ5 82 8) (σ5 82 108)) (1842002 : Int64)) = nI 0 then (nI 4) else (if (lg_cmp (gLg (σ5 82 8) (σ5 82 108)) (380873 : Int64)) = nI 0 then (nI 5) else (nI 0)))] σ5 := by
            rw [if_neg c24] at J24
            exact V.sub [0] rfl J24
          refine v_if_ne hC 79 dX7_isWare_72 (by decide) (fun c25 => ?_) (fun c25 => ?_)
          · refine v_aload_n hC 0 dX7_isWare_79 rfl ?_
            refine gf_X7_106 hC dX7_isWare_80 ?_
            refine v_ldc2 hC kw1130 dX7_isWare_83 ?_
            refine v_lcmp hC dX7_isWare_86 ?_
            have J26 : V X 2 95 [(0, .ref (xad X 82))] [.int (if (lg_cmp (gLg (σ5 82 8) (σ5 82 108)) (380873 : Int64)) = nI 0 then (nI 5) else (nI 0))] σ5 := by
              rw [if_neg c25] at J25
              exact V.sub [0] rfl J25
            refine v_if_ne hC 94 dX7_isWare_87 (by decide) (fun c26 => ?_) (fun c26 => ?_)
            · refine v_iconst hC (nI 0) dX7_isWare_94 rfl ?_
              rw [if_neg c26] at J26
              exact V.sub [0] rfl J26
            · refine v_iconst hC (nI 5) dX7_isWare_90 rfl ?_
              refine v_goto hC 95 dX7_isWare_91 (by decide) ?_
              rw [if_pos c26] at J26
              exact V.sub [0] rfl J26
          · refine v_iconst hC (nI 4) dX7_isWare_75 rfl ?_
            refine v_goto hC 95 dX7_isWare_76 (by decide) ?_
            rw [if_pos c25] at J25
            exact V.sub [0] rfl J25
        · refine v_iconst hC (nI 3) dX7_isWare_60 rfl ?_
          refine v_goto hC 95 dX7_isWare_61 (by decide) ?_
          rw [if_pos c24] at J24
          exact V.sub [0] rfl J24
      · refine v_iconst hC (nI 2) dX7_isWare_45 rfl ?_
        refine v_goto hC 95 dX7_isWare_46 (by decide) ?_
        rw [if_pos c23] at J23
        exact V.sub [0] rfl J23
    · refine v_iconst hC (nI 1) dX7_isWare_30 rfl ?_
      refine v_goto hC 95 dX7_isWare_31 (by decide) ?_
      exact V.sub [0] rfl (J6 _ (by rw [if_pos c6]))
  · replace h := h.1 c1
    refine v_aload_n hC 0 dX7_isWare_9 rfl ?_
    refine v_iconst hC (nI 3) dX7_isWare_10 rfl ?_
    refine v_callV hC (kM_fails _ _ _ h) cmM_fails ⟨kw1106, kw46⟩ kw1104 ⟨Nat.le_of_ble_eq_true rfl, Nat.le_of_ble_eq_true rfl⟩ (Nat.le_of_ble_eq_true rfl) rfl (ci := 7) (T := TX7) (N := 30) rfl (As := fun G => [.int (nI 3)]) (fun _ => rfl) (fun _ => rfl) (st := []) (Nat.le_of_ble_eq_true rfl) rfl dX7_isWare_11 (kk_i (fun r3 σ3 h => ?_))
    obtain ⟨hb, h⟩ := h
    exact v_zret hC hR (nar_bool hb) h dX7_isWare_14
theorem cmM_isWare : CM yX7_isWare cX7_isWare 2 (some .boolean) rmM_isWare 0 := ⟨kw82, kw1125, rfl, rfl, by decide, by decide, by decide +kernel⟩
def rmM_isRead : Room := { frames := 4, cells := 0, slots := 0, locals := 85 }
def wM_isRead_b107 (Q : Int32 → gM → Prop) (K60 : Int32 → gM → Prop) (σ : gM) : Prop :=
    ((lg_cmp (gLg (σ 82 8) (σ 82 108)) (453929 : Int64)) = nI 0 → (wM_isWare  σ (fun (r23 : Int32) (σ23 : gM) => K60 r23 σ23))) ∧ (¬ ((lg_cmp (gLg (σ 82 8) (σ 82 108)) (453929 : Int64)) = nI 0) → (wM_fails (nI 1) σ (fun (r25 : Int32) (σ25 : gM) => K60 r25 σ25)))
def wM_isRead_l60 (Q : Int32 → gM → Prop)  : Nat → Int32 → gM → Prop
  | 0, _, _ => False
  | n + 1, x1, σ =>
    (x1 = nI 0 → (Q (nI 0) σ)) ∧ (¬ (x1 = nI 0) → (wM_nextToken  σ (fun (σ15 : gM) => ((lg_cmp (gLg (σ15 82 8) (σ15 82 108)) (-2 : Int64)) = nI 0 → (Q (nI 1) σ15)) ∧ (¬ ((lg_cmp (gLg (σ15 82 8) (σ15 82 108)) (-2 : Int64)) = nI 0) → (((lg_cmp (gLg (σ15 82 8) (σ15 82 108)) (1494603 : Int64)) = nI 0 → (((σ15 82 14) = nI 0 → (wM_isBuyer  σ15 (fun (r20 : Int32) (σ20 : gM) => wM_isRead_l60 Q n r20 σ20))) ∧ (¬ ((σ15 82 14) = nI 0) → (wM_isRead_b107 Q (wM_isRead_l60 Q n) σ15)))) ∧ (¬ ((lg_cmp (gLg (σ15 82 8) (σ15 82 108)) (1494603 : Int64)) = nI 0) → (wM_isRead_b107 Q (wM_isRead_l60 Q n) σ15)))))))
def wM_isRead  (σ : gM) (Q : Int32 → gM → Prop) : Prop :=
    ∀ σ1 : gM, σ1 = gU σ 82 6 (nI 0) → (∀ σ2 : gM, σ2 = gU σ1 82 13 (nI 0) → (∀ σ3 : gM, σ3 = gU σ2 82 14 (nI 0) → (wM_nextToken  σ3 (fun (σ5 : gM) => ((lg_cmp (gLg (σ5 82 8) (σ5 82 108)) (8798 : Int64)) = nI 0 → (wM_isNext (nI 0) (nI 1) σ5 (fun (r8 : Int32) (σ8 : gM) => (r8 = nI 0 → (Q (nI 0) σ8)) ∧ (¬ (r8 = nI 0) → (∀ σ10 : gM, σ10 = gU σ8 82 12 (σ8 82 10) → (wM_ends  σ10 (fun (r12 : Int32) (σ12 : gM) => ∃ n26 : Nat, wM_isRead_l60 Q n26 r12 σ12))))))) ∧ (¬ ((lg_cmp (gLg (σ5 82 8) (σ5 82 108)) (8798 : Int64)) = nI 0) → (wM_fails (nI 1) σ5 (fun (r28 : Int32) (σ28 : gM) => (r28 = nI 0 ∨ r28 = nI 1) ∧ Q r28 σ28)))))))
set_option maxHeartbeats 4000000 in
set_option maxRecDepth 100000 in
theorem tM_isRead_b107 {X : gX} {Q : Int32 → gM → Prop} (hC : VC X cX7_isRead RX7 2 rmM_isRead) (hR : VR X (some .boolean) (gPi Q)) {K60 : Int32 → gM → Prop} (hK60 : ∀ (x1 : Int32) (σ : gM), K60 x1 σ → V X 2 60 [(0, .ref (xad X 82)), (1, .int x1)] [] σ) (σ : gM) (h : wM_isRead_b107 Q K60  σ) : V X 2 107 [(0, .ref (xad X 82))] [] σ := by
  replace h : ((lg_cmp (gLg (σ 82 8) (σ 82 108)) (453929 : Int64)) = nI 0 → (wM_isWare  σ (fun (r23 : Int32) (σ23 : gM) => K60 r23 σ23))) ∧ (¬ ((lg_cmp (gLg (σ 82 8) (σ 82 108)) (453929 : Int64)) = nI 0) → (wM_fails (nI 1) σ (fun (r25 : Int32) (σ25 : gM) => K60 r25 σ25))) := h
  refine v_aload_n hC 0 dX7_isRead_107 rfl ?_
  refine gf_X7_106 hC dX7_isRead_108 ?_
  refine v_ldc2 hC kw1121 dX7_isRead_111 ?_
  refine v_lcmp hC dX7_isRead_114 ?_
  refine v_if_ne hC 125 dX7_isRead_115 (by decide) (fun c21 => ?_) (fun c21 => ?_)
  · replace h := h.2 c21
    refine v_aload_n hC 0 dX7_isRead_125 rfl ?_
    refine v_iconst hC (nI 1) dX7_isRead_126 rfl ?_
    refine v_callV hC (kM_fails _ _ _ h) cmM_fails ⟨kw1106, kw46⟩ kw1104 ⟨Nat.le_of_ble_eq_true rfl, Nat.le_of_ble_eq_true rfl⟩ (Nat.le_of_ble_eq_true rfl) rfl (ci := 7) (T := TX7) (N := 30) rfl (As := fun G => [.int (nI 1)]) (fun _ => rfl) (fun _ => rfl) (st := []) (Nat.le_of_ble_eq_true rfl) rfl dX7_isRead_127 (kk_i (fun r25 σ25 h => ?_))
    refine v_istore_n hC dX7_isRead_130 (by decide) rfl ?_
    refine v_goto hC 60 dX7_isRead_131 (by decide) ?_
    exact V.sub [1, 0] rfl (hK60 _ _ h)
  · replace h := h.1 c21
    refine v_aload_n hC 0 dX7_isRead_118 rfl ?_
    refine v_callV hC (kM_isWare  _ _ h) cmM_isWare ⟨kw1124, kw50⟩ kw1122 ⟨Nat.le_of_ble_eq_true rfl, Nat.le_of_ble_eq_true rfl⟩ (Nat.le_of_ble_eq_true rfl) rfl (ci := 7) (T := TX7) (N := 30) rfl (As := fun G => []) (fun _ => rfl) (fun _ => rfl) (st := []) (Nat.le_of_ble_eq_true rfl) rfl dX7_isRead_119 (kk_i (fun r23 σ23 h => ?_))
    refine v_goto hC 130 dX7_isRead_122 (by decide) ?_
    refine v_istore_n hC dX7_isRead_130 (by decide) rfl ?_
    refine v_goto hC 60 dX7_isRead_131 (by decide) ?_
    exact V.sub [1, 0] rfl (hK60 _ _ h)
set_option maxHeartbeats 4000000 in
set_option maxRecDepth 100000 in
theorem tM_isRead_l60 {X : gX} {Q : Int32 → gM → Prop} (hC : VC X cX7_isRead RX7 2 rmM_isRead) (hR : VR X (some .boolean) (gPi Q))  : ∀ (n : Nat) (x1 : Int32) (σ : gM), wM_isRead_l60 Q  n x1 σ → V X 2 60 [(0, .ref (xad X 82)), (1, .int x1)] [] σ := by
  intro n
  induction n with
  | zero => intro x1 σ h; exact h.elim
  | succ n ih =>
    intro x1 σ h
    replace h : (x1 = nI 0 → (Q (nI 0) σ)) ∧ (¬ (x1 = nI 0) → (wM_nextToken  σ (fun (σ15 : gM) => ((lg_cmp (gLg (σ15 82 8) (σ15 82 108)) (-2 : Int64)) = nI 0 → (Q (nI 1) σ15)) ∧ (¬ ((lg_cmp (gLg (σ15 82 8) (σ15 82 108)) (-2 : Int64)) = nI 0) → (((lg_cmp (gLg (σ15 82 8) (σ15 82 108)) (1494603 : Int64)) = nI 0 → (((σ15 82 14) = nI 0 → (wM_isBuyer  σ15 (fun (r20 : Int32) (σ20 : gM) => wM_isRead_l60 Q n r20 σ20))) ∧ (¬ ((σ15 82 14) = nI 0) → (wM_isRead_b107 Q (wM_isRead_l60 Q n) σ15)))) ∧ (¬ ((lg_cmp (gLg (σ15 82 8) (σ15 82 108)) (1494603 : Int64)) = nI 0) → (wM_isRead_b107 Q (wM_isRead_l60 Q n) σ15))))))) := h
    refine v_iload_n hC 1 dX7_isRead_60 rfl ?_
    refine v_if_eq hC 134 dX7_isRead_61 (by decide) (fun c13 => ?_) (fun c13 => ?_)
    · replace h := h.1 c13
      refine v_iconst hC (nI 0) dX7_isRead_134 rfl ?_
      exact v_zret hC hR rfl h dX7_isRead_135
    · replace h := h.2 c13
      refine v_aload_n hC 0 dX7_isRead_64 rfl ?_
      refine v_callV hC (kM_nextToken  _ _ h) cmM_nextToken ⟨kw1095, kw45⟩ kw1093 ⟨Nat.le_of_ble_eq_true rfl, Nat.le_of_ble_eq_true rfl⟩ (Nat.le_of_ble_eq_true rfl) rfl (ci := 7) (T := TX7) (N := 30) rfl (As := fun G => []) (fun _ => rfl) (fun _ => rfl) (st := []) (Nat.le_of_ble_eq_true rfl) rfl dX7_isRead_65 (kk_v (fun σ15 h => ?_))
      refine v_aload_n hC 0 dX7_isRead_68 rfl ?_
      refine gf_X7_106 hC dX7_isRead_69 ?_
      refine v_ldc2 hC kw1097 dX7_isRead_72 ?_
      refine v_lcmp hC dX7_isRead_75 ?_
      refine v_if_ne hC 81 dX7_isRead_76 (by decide) (fun c16 => ?_) (fun c16 => ?_)
      · replace h := h.2 c16
        refine v_aload_n hC 0 dX7_isRead_81 rfl ?_
        refine gf_X7_106 hC dX7_isRead_82 ?_
        refine v_ldc2 hC kw1116 dX7_isRead_85 ?_
        refine v_lcmp hC dX7_isRead_88 ?_
        refine v_if_ne hC 107 dX7_isRead_89 (by decide) (fun c17 => ?_) (fun c17 => ?_)
        · replace h := h.2 c17
          exact V.sub [0] rfl (tM_isRead_b107 hC hR ih _ h)
        · replace h := h.1 c17
          refine v_aload_n hC 0 dX7_isRead_92 rfl ?_
          refine gf_X7_140 hC dX7_isRead_93 ?_
          refine v_if_ne hC 107 dX7_isRead_96 (by decide) (fun c18 => ?_) (fun c18 => ?_)
          · replace h := h.2 c18
            exact V.sub [0] rfl (tM_isRead_b107 hC hR ih _ h)
          · replace h := h.1 c18
            refine v_aload_n hC 0 dX7_isRead_99 rfl ?_
            refine v_callV hC (kM_isBuyer  _ _ h) cmM_isBuyer ⟨kw1119, kw49⟩ kw1117 ⟨Nat.le_of_ble_eq_true rfl, Nat.le_of_ble_eq_true rfl⟩ (Nat.le_of_ble_eq_true rfl) rfl (ci := 7) (T := TX7) (N := 30) rfl (As := fun G => []) (fun _ => rfl) (fun _ => rfl) (st := []) (Nat.le_of_ble_eq_true rfl) rfl dX7_isRead_100 (kk_i (fun r20 σ20 h => ?_))
            refine v_istore_n hC dX7_isRead_103 (by decide) rfl ?_
            refine v_goto hC 60 dX7_isRead_104 (by decide) ?_
            exact V.sub [1, 0] rfl (ih _ _ h)
      · replace h := h.1 c16
        refine v_iconst hC (nI 1) dX7_isRead_79 rfl ?_
        exact v_zret hC hR rfl h dX7_isRead_80
set_option maxHeartbeats 4000000 in
set_option maxRecDepth 100000 in
theorem kM_isRead  (σ : gM) (Q : Int32 → gM → Prop) (h : wM_isRead  σ Q) : CT yX7_isRead cX7_isRead 2 (some .boolean) rmM_isRead (fun G => [.ref (gad G 82)]) σ (gPi Q) := by
  refine c_enter (by decide) (fun _ => Nat.le_of_ble_eq_true rfl) (fun X hC hR => ?_)
  show V X 2 0 [(0, .ref (xad X 82))] [] σ
  replace h : ∀ σ1 : gM, σ1 = gU σ 82 6 (nI 0) → (∀ σ2 : gM, σ2 = gU σ1 82 13 (nI 0) → (∀ σ3 : gM, σ3 = gU σ2 82 14 (nI 0) → (wM_nextToken  σ3 (fun (σ5 : gM) => ((lg_cmp (gLg (σ5 82 8) (σ5 82 108)) (8798 : Int64)) = nI 0 → (wM_isNext (nI 0) (nI 1) σ5 (fun (r8 : Int32) (σ8 : gM) => (r8 = nI 0 → (Q (nI 0) σ8)) ∧ (¬ (r8 = nI 0) → (∀ σ10 : gM, σ10 = gU σ8 82 12 (σ8 82 10) → (wM_ends  σ10 (fun (r12 : Int32) (σ12 : gM) => ∃ n26 : Nat, wM_isRead_l60 Q n26 r12 σ12))))))) ∧ (¬ ((lg_cmp (gLg (σ5 82 8) (σ5 82 108)) (8798 : Int64)) = nI 0) → (wM_fails (nI 1) σ5 (fun (r28 : Int32) (σ28 : gM) => (r28 = nI 0 ∨ r28 = nI 1) ∧ Q r28 σ28))))))) := h
  refine v_aload_n hC 0 dX7_isRead_0 rfl ?_
  refine v_iconst hC (nI 0) dX7_isRead_1 rfl ?_
  refine pf_X7_92 hC dX7_isRead_2 (fun σ1 e1 => ?_)
  replace h := h σ1 e1
  refine v_aload_n hC 0 dX7_isRead_5 rfl ?_
  refine v_iconst hC (nI 0) dX7_isRead_6 rfl ?_
  refine pf_X7_129 hC dX7_isRead_7 (fun σ2 e2 => ?_)
  replace h := h σ2 e2
  refine v_aload_n hC 0 dX7_isRead_10 rfl ?_
  refine v_iconst hC (nI 0) dX7_isRead_11 rfl ?_
  refine pf_X7_140 hC dX7_isRead_12 (fun σ3 e3 => ?_)
  replace h := h σ3 e3
  refine v_aload_n hC 0 dX7_isRead_15 rfl ?_
  refine v_callV hC (kM_nextToken  _ _ h) cmM_nextToken ⟨kw1095, kw45⟩ kw1093 ⟨Nat.le_of_ble_eq_true rfl, Nat.le_of_ble_eq_true rfl⟩ (Nat.le_of_ble_eq_true rfl) rfl (ci := 7) (T := TX7) (N := 30) rfl (As := fun G => []) (fun _ => rfl) (fun _ => rfl) (st := []) (Nat.le_of_ble_eq_true rfl) rfl dX7_isRead_16 (kk_v (fun σ5 h => ?_))
  refine v_aload_n hC 0 dX7_isRead_19 rfl ?_
  refine gf_X7_106 hC dX7_isRead_20 ?_
  refine v_ldc2 hC kw1103 dX7_isRead_23 ?_
  refine v_lcmp hC dX7_isRead_26 ?_
  refine v_if_eq hC 36 dX7_isRead_27 (by decide) (fun c6 => ?_) (fun c6 => ?_)
  · replace h := h.1 c6
    refine v_aload_n hC 0 dX7_isRead_36 rfl ?_
    refine v_iconst hC (nI 0) dX7_isRead_37 rfl ?_
    refine v_iconst hC (nI 1) dX7_isRead_38 rfl ?_
    refine v_callV hC (kM_isNext _ _ _ _ h) cmM_isNext ⟨kw1110, kw47⟩ kw1108 ⟨Nat.le_of_ble_eq_true rfl, Nat.le_of_ble_eq_true rfl⟩ (Nat.le_of_ble_eq_true rfl) rfl (ci := 7) (T := TX7) (N := 30) rfl (As := fun G => [.int (nI 0), .int (nI 1)]) (fun _ => rfl) (fun _ => rfl) (st := []) (Nat.le_of_ble_eq_true rfl) rfl dX7_isRead_39 (kk_i (fun r8 σ8 h => ?_))
    refine v_if_ne hC 47 dX7_isRead_42 (by decide) (fun c9 => ?_) (fun c9 => ?_)
    · replace h := h.2 c9
      refine v_aload_n hC 0 dX7_isRead_47 rfl ?_
      refine v_aload_n hC 0 dX7_isRead_48 rfl ?_
      refine gf_X7_101 hC dX7_isRead_49 ?_
      refine pf_X7_155 hC dX7_isRead_52 (fun σ10 e10 => ?_)
      replace h := h σ10 e10
      refine v_aload_n hC 0 dX7_isRead_55 rfl ?_
      refine v_callV hC (kM_ends  _ _ h) cmM_ends ⟨kw1114, kw48⟩ kw1112 ⟨Nat.le_of_ble_eq_true rfl, Nat.le_of_ble_eq_true rfl⟩ (Nat.le_of_ble_eq_true rfl) rfl (ci := 7) (T := TX7) (N := 30) rfl (As := fun G => []) (fun _ => rfl) (fun _ => rfl) (st := []) (Nat.le_of_ble_eq_true rfl) rfl dX7_isRead_56 (kk_i (fun r12 σ12 h => ?_))
      refine v_istore_n hC dX7_isRead_59 (by decide) rfl ?_
      obtain ⟨n26, h⟩ := h
      exact V.sub [1, 0] rfl (tM_isRead_l60 hC hR  n26 _ _ h)
    · replace h := h.1 c9
      refine v_iconst hC (nI 0) dX7_isRead_45 rfl ?_
      exact v_zret hC hR rfl h dX7_isRead_46
  · replace h := h.2 c6
    refine v_aload_n hC 0 dX7_isRead_30 rfl ?_
    refine v_iconst hC (nI 1) dX7_isRead_31 rfl ?_
    refine v_callV hC (kM_fails _ _ _ h) cmM_fails ⟨kw1106, kw46⟩ kw1104 ⟨Nat.le_of_ble_eq_true rfl, Nat.le_of_ble_eq_true rfl⟩ (Nat.le_of_ble_eq_true rfl) rfl (ci := 7) (T := TX7) (N := 30) rfl (As := fun G => [.int (nI 1)]) (fun _ => rfl) (fun _ => rfl) (st := []) (Nat.le_of_ble_eq_true rfl) rfl dX7_isRead_32 (kk_i (fun r28 σ28 h => ?_))
    obtain ⟨hb, h⟩ := h
    exact v_zret hC hR (nar_bool hb) h dX7_isRead_35
theorem cmM_isRead : CM yX7_isRead cX7_isRead 2 (some .boolean) rmM_isRead 0 := ⟨kw82, kw1092, rfl, rfl, by decide, by decide, by decide +kernel⟩
