/-! THE START AND THE LOOP -/
theorem pInv_0 : pInv 0 gσ0 := by
  have z : ∀ a j, a ≠ 83 → gσ0 a j = nI 0 := fun a j h => by
    unfold gσ0
    rw [if_neg h]
    rfl
  have m1 : ∀ r, r < 8 → gσ0 83 r < nI 0 := fun r hr => by
    have : r = 0 ∨ r = 1 ∨ r = 2 ∨ r = 3 ∨ r = 4 ∨ r = 5 ∨ r = 6 ∨ r = 7 := by omega
    rcases this with rfl | rfl | rfl | rfl | rfl | rfl | rfl | rfl <;> decide
  refine ⟨fun r hr => Or.inl ⟨z _ _ (by omega), m1 r hr⟩, by rw [z _ _ (by omega), z _ _ (by omega)], by rw [z _ _ (by omega), z _ _ (by omega)],
    ⟨0, by omega, z _ _ (by omega), z _ _ (by omega), fun i hi => absurd hi (by omega)⟩, ⟨0, by omega, z _ _ (by omega), z _ _ (by omega), fun i hi => absurd hi (by omega)⟩,
    ⟨by rw [z _ _ (by omega), z _ _ (by omega)], Or.inl (z _ _ (by omega))⟩, ⟨0, 0, 0, (fun i => i), ?_, ?_⟩, Or.inl ⟨z _ _ (by omega), z _ _ (by omega)⟩, Or.inl ⟨z _ _ (by omega), z _ _ (by omega)⟩,
    ⟨0, 0, by omega, by omega, z _ _ (by omega), z _ _ (by omega), z _ _ (by omega), fun j hj => absurd hj (by omega), trivial⟩⟩
  · exact ⟨by rw [z _ _ (by omega), z _ _ (by omega)], by rw [z _ _ (by omega), z _ _ (by omega)], z _ _ (by omega), z _ _ (by omega), z _ _ (by omega), fun i hi => absurd hi (by omega), fun i hi => absurd hi (by omega), fun i hi => absurd hi (by omega)⟩
  · exact ⟨z _ _ (by omega), z _ _ (by omega), z _ _ (by omega), by omega, by omega, by omega, Or.inl (z _ _ (by omega)), ⟨0, by omega, z _ _ (by omega)⟩, fun i hi => absurd hi (by omega), fun i j hi => absurd hi (by omega), fun i hi => absurd hi (by omega), fun i hi => absurd hi (by omega)⟩
theorem law_loop (xs : Nat → Int32) (L : Nat) (hL : L ≤ 384) : ∀ (m k : Nat) (σ : gM), k + m = 64 → pInv k σ → wL_l18 xs L (m + 1) (nI (6 * k)) σ := by
  intro m
  induction m with
  | zero =>
    intro k σ hk h
    have q : (Int32.ofNat L) - (nI 6) < nI (6 * k) := by
      show nI L - nI 6 < nI (6 * k)
      rw [lt_sub (by omega) (by omega) (by omega)]
      omega
    rw [wL_l18]
    exact ⟨fun _ => trivial, fun z => absurd q z⟩
  | succ m ih =>
    intro k σ hk h
    have hk100 : k ≤ 100 := by omega
    have next : ∀ σ2 k', k' ≤ k + 1 → pInv k' σ2 → ∀ x, x = nI (6 * k) + nI 6 → wL_l18 xs L (m + 1) x σ2 := fun σ2 k' hk' h2 x hx => by
      subst hx
      rw [nI_add, show 6 * k + 6 = 6 * (k + 1) by omega]
      exact ih (k + 1) σ2 (by omega) (pInv_le hk' h2)
    rw [wL_l18]
    refine ⟨fun _ => trivial, fun z => ?_⟩
    have hq : 6 * k + 6 ≤ L := by
      have z : ¬ nI L - nI 6 < nI (6 * k) := z
      rw [lt_sub (by omega) (by omega) (by omega)] at z
      omega
    have h0 : vp_in (nI (6 * k)) L := vp_in_nI (by omega) (by omega)
    have h1 : vp_in (nI (6 * k) + nI 1) L := by
      rw [nI_add]
      exact vp_in_nI (by omega) (by omega)
    have h2 : vp_in (nI (6 * k) + nI 2) L := by
      rw [nI_add]
      exact vp_in_nI (by omega) (by omega)
    have h3 : vp_in (nI (6 * k) + nI 3) L := by
      rw [nI_add]
      exact vp_in_nI (by omega) (by omega)
    have h4 : vp_in (nI (6 * k) + nI 4) L := by
      rw [nI_add]
      exact vp_in_nI (by omega) (by omega)
    have h5 : vp_in (nI (6 * k) + nI 5) L := by
      rw [nI_add]
      exact vp_in_nI (by omega) (by omega)
    refine ⟨h0, ?_, ?_, ?_, ?_, ?_, ?_, ?_, ?_, ?_, ?_, ?_, ?_, ?_, ?_, ?_, ?_, ?_, ?_, ?_, ?_, ?_, ?_, ?_, ?_, ?_, ?_, ?_, ?_, ?_, ?_, ?_, ?_, ?_, ?_⟩
    · intro _
      refine ⟨h1, h2, h3, ?_⟩
      refine wH_row_mono ?_ (op_row h)
      intro r s1 hh
      refine ⟨h1, h2, h3, ?_⟩
      refine wM_row_mono ?_ hh
      intro r2 s2 hq2
      exact ⟨fun _ => next s2 k (by omega) hq2.2, fun hne => absurd hq2.1 hne⟩
    · intro _
      refine ⟨h1, h2, h3, ?_⟩
      refine wH_set_mono ?_ (op_set h)
      intro r s1 hh
      refine ⟨h1, h2, h3, ?_⟩
      refine wM_set_mono ?_ hh
      intro r2 s2 hq2
      exact ⟨fun _ => next s2 k (by omega) hq2.2, fun hne => absurd hq2.1 hne⟩
    · intro _
      refine ⟨h1, h2, h3, h4, h5, ?_⟩
      refine wH_copy_mono ?_ (op_copy h)
      intro r s1 hh
      refine ⟨h1, h2, h3, h4, h5, ?_⟩
      refine wM_copy_mono ?_ hh
      intro r2 s2 hq2
      exact ⟨fun _ => next s2 k (by omega) hq2.2, fun hne => absurd hq2.1 hne⟩
    · intro _
      refine ⟨h1, ?_⟩
      refine wH_drop_mono ?_ (op_drop h)
      intro r s1 hh
      refine ⟨h1, ?_⟩
      refine wM_drop_mono ?_ hh
      intro r2 s2 hq2
      exact ⟨fun _ => next s2 k (by omega) hq2.2, fun hne => absurd hq2.1 hne⟩
    · intro _
      refine ⟨h1, h2, h3, ?_⟩
      refine wH_feed_mono ?_ (op_feed h)
      intro r s1 hh
      refine ⟨h1, h2, h3, ?_⟩
      refine wM_feed_mono ?_ hh
      intro r2 s2 hq2
      exact ⟨fun _ => next s2 k (by omega) hq2.2, fun hne => absurd hq2.1 hne⟩
    · intro _
      refine wH_market_mono ?_ (op_market h)
      intro r s1 hh
      refine wM_market_mono ?_ hh
      intro r2 s2 hq2
      exact ⟨fun _ => next s2 k (by omega) hq2.2, fun hne => absurd hq2.1 hne⟩
    · intro _
      refine wH_fault_mono ?_ (op_fault h)
      intro r s1 hh
      refine wM_fault_mono ?_ hh
      intro r2 s2 hq2
      exact ⟨fun _ => next s2 k (by omega) hq2.2, fun hne => absurd hq2.1 hne⟩
    · intro _
      refine ⟨h1, h2, ?_⟩
      refine wH_take_mono ?_ (op_take h)
      intro r s1 hh
      refine ⟨h1, h2, ?_⟩
      refine wM_take_mono ?_ hh
      intro r2 s2 hq2
      exact ⟨fun _ => next s2 k (by omega) hq2.2, fun hne => absurd hq2.1 hne⟩
    · intro _
      refine ⟨h1, h2, h3, ?_⟩
      refine wH_lay_mono ?_ (op_lay h)
      intro r s1 hh
      refine ⟨h1, h2, h3, ?_⟩
      refine wM_lay_mono ?_ hh
      intro r2 s2 hq2
      exact ⟨fun _ => next s2 k (by omega) hq2.2, fun hne => absurd hq2.1 hne⟩
    · intro _
      refine wH_day_mono ?_ (op_day hk100 h)
      intro r s1 hh
      refine wM_day_mono ?_ hh
      intro r2 s2 hq2
      exact ⟨fun _ => next s2 (k + 1) (by omega) hq2.2, fun hne => absurd hq2.1 hne⟩
    · intro _
      refine wH_undo_mono ?_ (op_undo h)
      intro r s1 hh
      refine wM_undo_mono ?_ hh
      intro r2 s2 hq2
      exact ⟨fun _ => next s2 k (by omega) hq2.2, fun hne => absurd hq2.1 hne⟩
    · intro _
      refine ⟨h1, h2, ?_⟩
      refine wH_ware_mono ?_ (op_ware h)
      intro r s1 hh
      refine ⟨h1, h2, ?_⟩
      refine wM_ware_mono ?_ hh
      intro r2 s2 hq2
      exact ⟨fun _ => next s2 k (by omega) hq2.2, fun hne => absurd hq2.1 hne⟩
    · intro _
      refine ⟨h1, h2, ?_⟩
      refine wH_buyer_mono ?_ (op_buyer h)
      intro r s1 hh
      refine ⟨h1, h2, ?_⟩
      refine wM_buyer_mono ?_ hh
      intro r2 s2 hq2
      exact ⟨fun _ => next s2 k (by omega) hq2.2, fun hne => absurd hq2.1 hne⟩
    · intro _
      refine ⟨h1, h2, ?_⟩
      refine wH_worth_mono ?_ (op_worth h)
      intro r s1 hh
      refine ⟨h1, h2, ?_⟩
      refine wM_worth_mono ?_ hh
      intro r2 s2 hq2
      exact ⟨fun _ => next s2 k (by omega) hq2.2, fun hne => absurd hq2.1 hne⟩
    · intro _
      refine ⟨h1, h2, h3, ?_⟩
      refine wH_best_mono ?_ (op_best h)
      intro r s1 hh
      refine ⟨h1, h2, h3, ?_⟩
      refine wM_best_mono ?_ hh
      intro r2 s2 hq2
      exact ⟨fun _ => next s2 k (by omega) hq2.2, fun hne => absurd hq2.1 hne⟩
    · intro _
      refine ⟨h1, h2, ?_⟩
      refine wH_passBy_mono ?_ (op_passBy hk100 h)
      intro r s1 hh
      refine ⟨h1, h2, ?_⟩
      refine wM_passBy_mono ?_ hh
      intro r2 s2 hq2
      exact ⟨fun _ => next s2 k (by omega) hq2.2, fun hne => absurd hq2.1 hne⟩
    · intro _
      refine ⟨h1, h2, h3, ?_⟩
      refine wH_laid_mono ?_ (op_laid hk100 h)
      intro r s1 hh
      refine ⟨h1, h2, h3, ?_⟩
      refine wM_laid_mono ?_ hh
      intro r2 s2 hq2
      exact ⟨fun _ => next s2 k (by omega) hq2.2, fun hne => absurd hq2.1 hne⟩
    · intro _
      refine ⟨h1, h2, h3, ?_⟩
      refine wH_ring_mono ?_ (op_ring hk100 h)
      intro r s1 hh
      refine ⟨h1, h2, h3, ?_⟩
      refine wM_ring_mono ?_ hh
      intro r2 s2 hq2
      exact ⟨fun _ => next s2 k (by omega) hq2.2, fun hne => absurd hq2.1 hne⟩
    · intro _
      refine ⟨h1, h2, h3, h4, ?_⟩
      refine wH_line_mono ?_ (op_line h)
      intro r s1 hh
      refine ⟨h1, h2, h3, h4, ?_⟩
      refine wM_line_mono ?_ hh
      intro r2 s2 hq2
      exact ⟨fun _ => next s2 k (by omega) hq2.2, fun hne => absurd hq2.1 hne⟩
    · intro _
      refine ⟨h1, h2, ?_⟩
      refine wH_rots_mono ?_ (op_rots h)
      intro r s1 hh
      refine ⟨h1, h2, ?_⟩
      refine wM_rots_mono ?_ hh
      intro r2 s2 hq2
      exact ⟨fun _ => next s2 k (by omega) hq2.2, fun hne => absurd hq2.1 hne⟩
    · intro _
      refine ⟨h1, h2, ?_⟩
      refine wH_reach_mono ?_ (op_reach h)
      intro r s1 hh
      refine ⟨h1, h2, ?_⟩
      refine wM_reach_mono ?_ hh
      intro r2 s2 hq2
      exact ⟨fun _ => next s2 k (by omega) hq2.2, fun hne => absurd hq2.1 hne⟩
    · intro _
      refine ⟨h1, h2, ?_⟩
      refine wH_harvest_mono ?_ (op_harvest h)
      intro r s1 hh
      refine ⟨h1, h2, ?_⟩
      refine wM_harvest_mono ?_ hh
      intro r2 s2 hq2
      exact ⟨fun _ => next s2 k (by omega) hq2.2, fun hne => absurd hq2.1 hne⟩
    · intro _
      refine ⟨h1, h2, h3, ?_⟩
      refine wH_judge_mono ?_ (op_judge h)
      intro r s1 hh
      refine ⟨h1, h2, h3, ?_⟩
      refine wM_judge_mono ?_ hh
      intro r2 s2 hq2
      exact ⟨fun _ => next s2 k (by omega) hq2.2, fun hne => absurd hq2.1 hne⟩
    · intro _
      refine ⟨h1, h2, h3, h4, h5, ?_⟩
      refine wH_heard_mono ?_ (op_heard h)
      intro r s1 hh
      refine ⟨h1, h2, h3, h4, h5, ?_⟩
      refine wM_heard_mono ?_ hh
      intro r2 s2 hq2
      exact ⟨fun _ => next s2 k (by omega) hq2.2, fun hne => absurd hq2.1 hne⟩
    · intro _
      refine ⟨h1, h2, h3, ?_⟩
      refine wH_apart_mono ?_ (op_apart hk100 h)
      intro r s1 hh
      refine ⟨h1, h2, h3, ?_⟩
      refine wM_apart_mono ?_ hh
      intro r2 s2 hq2
      exact ⟨fun _ => next s2 k (by omega) hq2.2, fun hne => absurd hq2.1 hne⟩
    · intro _
      refine ⟨h1, ?_⟩
      refine wH_image_mono ?_ (op_image h)
      intro r s1 hh
      refine ⟨h1, ?_⟩
      refine wM_image_mono ?_ hh
      intro r2 s2 hq2
      exact ⟨fun _ => next s2 k (by omega) hq2.2, fun hne => absurd hq2.1 hne⟩
    · intro _
      refine ⟨h1, ?_⟩
      refine wH_restore_mono ?_ (op_restore h)
      intro r s1 hh
      refine ⟨h1, ?_⟩
      refine wM_restore_mono ?_ hh
      intro r2 s2 hq2
      exact ⟨fun _ => next s2 k (by omega) hq2.2, fun hne => absurd hq2.1 hne⟩
    · intro _
      refine ⟨h1, ?_⟩
      refine wH_kind_mono ?_ (op_kind h)
      intro r s1 hh
      refine ⟨h1, ?_⟩
      refine wM_kind_mono ?_ hh
      intro r2 s2 hq2
      exact ⟨fun _ => next s2 k (by omega) hq2.2, fun hne => absurd hq2.1 hne⟩
    · intro _
      refine ⟨h1, h2, ?_⟩
      refine wH_as_mono ?_ (op_as h)
      intro r s1 hh
      refine ⟨h1, h2, ?_⟩
      refine wM_as_mono ?_ hh
      intro r2 s2 hq2
      exact ⟨fun _ => next s2 k (by omega) hq2.2, fun hne => absurd hq2.1 hne⟩
    · intro _
      refine ⟨h1, h2, ?_⟩
      refine wH_ask_mono ?_ (op_ask h)
      intro r s1 hh
      refine ⟨h1, h2, ?_⟩
      refine wM_ask_mono ?_ hh
      intro r2 s2 hq2
      exact ⟨fun _ => next s2 k (by omega) hq2.2, fun hne => absurd hq2.1 hne⟩
    · intro _
      refine ⟨h1, ?_⟩
      refine wH_trace_mono ?_ (op_trace h)
      intro r s1 hh
      refine ⟨h1, ?_⟩
      refine wM_trace_mono ?_ hh
      intro r2 s2 hq2
      exact ⟨fun _ => next s2 k (by omega) hq2.2, fun hne => absurd hq2.1 hne⟩
    · intro _
      refine ⟨h1, ?_⟩
      refine wH_count_mono ?_ (op_count h)
      intro r s1 hh
      refine ⟨h1, ?_⟩
      refine wM_count_mono ?_ hh
      intro r2 s2 hq2
      exact ⟨fun _ => next s2 k (by omega) hq2.2, fun hne => absurd hq2.1 hne⟩
    · intro _
      refine wH_status_mono ?_ (op_status h)
      intro r s1 hh
      refine wM_status_mono ?_ hh
      intro r2 s2 hq2
      exact ⟨fun _ => next s2 k (by omega) hq2.2, fun hne => absurd hq2.1 hne⟩
    · intro _
      exact next σ k (by omega) h
theorem pure_mainE : ∀ (xs : Nat → Int32) (L : Nat), L ≤ 384 → ∃ n : Nat, wL_l18 xs L n 0 gσ0 := fun xs L hL => ⟨65, law_loop xs L hL 64 0 gσ0 rfl pInv_0⟩
