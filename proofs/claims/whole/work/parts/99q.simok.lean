/-! STAGE B, 66: where both begin; all calls -/
theorem σM_26 : ∀ i, i < 26 → σM.1 26 i = 0 := by decide +kernel
theorem σM_36 : ∀ i, i < 3 → σM.1 36 i = 0 := by decide +kernel
theorem σM_0 : σM.1 0 2 = 0 ∧ σM.1 0 17 = -1 ∧ σM.1 0 18 = 0 ∧ σM.1 0 47 = 0 ∧ σM.1 0 51 = 0 := by decide +kernel
theorem σM_9 : σM.1 9 0 = 0 ∧ σM.1 12 0 = 0 ∧ σM.1 13 0 = 0 ∧ ∀ k, k < 4 → σM.1 14 k = 0 ∧ σM.1 15 k = 0 := by decide +kernel
theorem Inv_0 : Inv σC σM := by
  obtain ⟨m1, m2, m3, m4, m5⟩ := σM_0
  obtain ⟨n1, n2, n3, n4⟩ := σM_9
  obtain ⟨σx, a1, a2, -⟩ := C_clear σz 0
  have hσ : σx = σT := by
    have := a1.symm.trans σT_ok
    cases this
    rfl
  rw [hσ] at a2
  have hT : TxC σC 4 T0 := by
    unfold TxC at a2 ⊢
    rw [show σC.1 4 = σT.1 0 from (σC_t1 0 (by omega)).1, show σC.1 (4 + 1) = σT.1 (0 + 1) from (σC_t1 1 (by omega)).1, show σC.1 (4 + 2) = σT.1 (0 + 2) from (σC_t1 2 (by omega)).1, show σC.1 (4 + 3) = σT.1 (0 + 3) from (σC_t1 3 (by omega)).1, show σC.1 (4 + 4) = σT.1 (0 + 4) from (σC_t1 4 (by omega)).1]
    exact a2
  have hM : TxM σM T0 := ⟨0, by omega, m3, n1, fun c hc => absurd hc (Nat.not_lt_zero _), n2, n3, fun k hk => Or.inl ⟨by rw [show 4 * 0 + k = k by omega, (n4 k hk).1, (n4 k hk).2], rfl, rfl⟩⟩
  refine ⟨⟨0, by omega, rfl, m1, fun i hi => absurd hi (Nat.not_lt_zero _)⟩, by rw [m2]; rfl, ⟨0, by omega, σC_0 (by omega), m5, fun i hi => absurd hi (Nat.not_lt_zero _)⟩, fun k _ => rfl, T0, 0, T0_ok, hT, hM, ⟨σC_0 (by omega), ?_, ?_, ?_, ?_, fun i hi => absurd hi (Nat.not_lt_zero _), fun c hc => ?_, fun c hc => ?_⟩, ⟨Nat.le_refl _, by decide, ?_, fun i hi => absurd hi (Nat.not_lt_zero _), fun i j hi => absurd hi (Nat.not_lt_zero _)⟩, ⟨0, 0, by omega, by omega, σC_0 (by omega), σC_0 (by omega), m4, fun i hi => absurd hi (Nat.not_lt_zero _)⟩, ⟨0, by omega, rfl, fun j hj => ⟨fun z => ?_, fun _ => σM_36 j hj⟩⟩⟩
  · rw [σM_26 24 (by omega)]; exact σC_0 (by omega)
  · rw [σM_26 9 (by omega)]; exact σC_0 (by omega)
  · rw [σM_26 8 (by omega)]; exact σC_0 (by omega)
  · rw [σM_26 25 (by omega)]; exact σC_0 (by omega)
  · rw [σM_26 (10 + c) (by omega)]; exact σC_0 (by omega)
  · rw [σM_26 (17 + c) (by omega)]; exact σC_0 (by omega)
  · exact σM_26 7 (by omega)
  · rcases (show j = 0 ∨ j = 1 ∨ j = 2 by omega) with rfl | rfl | rfl <;> exact absurd z (by decide)
theorem sim_all : SimOK Inv := ⟨Inv_0, zdo_feed, zdo_back, zdo_read, zdo_place, zdo_docket, zdo_suffers, zdo_tells, zdo_at, zdo_change, zdo_go, zdo_off, zdo_on, zdo_plead, zdo_sessions, zdo_undo, zdo_best, zdo_traders, zdo_gain, zdo_behind, zdo_rests, zdo_settles, zdo_shunned, zdo_buyers, zdo_lighter, zdo_furthest, zdo_then, zdo_listIn, zdo_year, zdo_tell, zdo_forget, zdo_fits, zdo_ask, zdo_hold, zdo_restore, zdo_count⟩
