set_option maxRecDepth 100000 in
set_option maxHeartbeats 8000000 in
/-- the law's walk, given a relation that every call keeps -/
theorem whole_open {Inv : St → St → Prop} (hV : SimOK Inv) {p : Program} {e : Env} {s : State} {m : MethodId} {below : List Frame} {meth : Method} {c : Code} (l : Launch) {b L : Nat} {xs : Nat → Int32} (hL : L ≤ 3072) (C0 : lw_At p s m meth c b L xs) : W p l e room_1 s m #[Value.ref b] below meth c s.heap [] 0 0 (lw_Z below #[Value.ref b] s) (entryFrame m ([Value.ref b] : List Value).toArray 4) := by
  obtain ⟨hx, hb, hr, hml, hown, hts, hX, hbl, hlocks, hgv⟩ := id C0
  obtain ⟨D, cy, z, K⟩ := start_K C0
  have X0 : CallFix p m c code 4 s #[Value.ref b] (Cond.initialized RL :: aw) RL := ⟨hx, hb, hml, hown, fun w hw => by
    rcases List.mem_cons.mp hw with rfl | hw
    · exact hts _ (List.mem_filter.mp ini_L).1
    · exact hts _ (List.mem_filter.mp hw).1⟩
  have X : cX p m c code 4 s #[Value.ref b] meth (Cond.initialized RL) RL D cy z s.heap.size s.heap.size := ⟨X0, K, hlocks, Nat.le_refl _, Nat.le_refl _⟩
  have hw : cH D s s.heap.size (fun _ => 0) (fun _ => .inr (0, [])) 0 s.heap [] := ⟨fun k q h => by simp [cL] at h, ⟨fun i j p q h => by simp [cL] at h, fun k q h => by simp [cL] at h⟩, va_S.rf, fun h => absurd h (Nat.lt_irrefl _)⟩
  have hl := lv_entry ([.ref b]) (n := 4) (Nat.le_of_ble_eq_true rfl)
  rw [lg_entry_eq]
  generalize (lg_sl ([.ref b]) ++ List.replicate (4 - (lg_sl ([.ref b])).length) Slot.unset).toArray = ls at hl ⊢
  have hl : lv_has ls 4 [(0, .ref b)] := hl
  refine cr_new X hw uw10 tyX10 tyX10_ok cl_L_7 inX10 ini_X10 (ci := 10) rfl (fs := bkX10) dfX10 (Nat.le_of_ble_eq_true rfl) (Nat.le_of_ble_eq_true rfl) dL_law_0 (fun q1 H hw => ?_)
  refine lv_dup hx hb dL_law_3 rfl ?_
  refine cr_callI (k := 0) (k' := 218) (xs := []) (F' := F_X10 cy) (rest := [.ref q1]) X hw hl.1 (by decide) rfl (fun sz => n_X10 (cH.b0 hw (k := 0) (by decide) rfl X)) rfl ml_L_9 im_X10_init ini_X10 co_X10_init hdi_X10_init ⟨(Nat.le_of_ble_eq_true rfl), (Nat.le_of_ble_eq_true rfl)⟩ ⟨(Nat.le_of_ble_eq_true rfl), (Nat.le_of_ble_eq_true rfl)⟩ (Nat.le_of_ble_eq_true rfl) dL_law_4 rfl (fun ad2 H locs e2 hw => ?_)
  have hq1 : q1 = ad2 0 := by rw [e2]; rfl
  subst hq1
  refine lv_astore_n (lv' := [(1, .ref (ad2 0)), (0, .ref b)]) hx hb dL_law_7 rfl hl (by decide) rfl (fun ls hl => ?_)
  refine cr_new X hw uw11 tyX11 tyX11_ok cl_L_10 inX11 ini_X11 (ci := 11) rfl (fs := bkX11) dfX11 (Nat.le_of_ble_eq_true rfl) (Nat.le_of_ble_eq_true rfl) dL_law_8 (fun q3 H hw => ?_)
  refine lv_dup hx hb dL_law_11 rfl ?_
  refine cr_callI (k := 0 + 218) (k' := 38) (xs := []) (F' := fun ad => went WM ad cy σM) (rest := [.ref q3]) X hw hl.1 (by decide) rfl (fun sz => n_X11 (cH.b0 hw (k := 0 + 218) (by decide) rfl X)) rfl ml_L_12 im_X11_init ini_X11 co_X11_init hdi_X11_init ⟨(Nat.le_of_ble_eq_true rfl), (Nat.le_of_ble_eq_true rfl)⟩ ⟨(Nat.le_of_ble_eq_true rfl), (Nat.le_of_ble_eq_true rfl)⟩ (Nat.le_of_ble_eq_true rfl) dL_law_12 rfl (fun ad4 H locs e4 hw => ?_)
  have hq3 : q3 = ad4 0 := by rw [e4]; rfl
  subst hq3
  refine lv_astore_n (lv' := [(2, .ref (ad4 0)), (1, .ref (ad2 0)), (0, .ref b)]) hx hb dL_law_15 rfl hl (by decide) rfl (fun ls hl => ?_)
  refine lv_iconst (v := 0) hx hb dL_law_16 (by decide) ?_
  refine lv_istore_n (lv' := [(3, .int 0), (2, .ref (ad4 0)), (1, .ref (ad2 0)), (0, .ref b)]) hx hb dL_law_17 rfl hl (by decide) rfl (fun ls hl => ?_)
  obtain ⟨AD, FF, eA, eF, hw⟩ := hw.names
  have hA1 : ∀ i, i < 218 → AD i = ad2 i := fun i hi => by
    rw [eA, show cj _ (0 + 218) ad4 i = _ from if_pos (by omega), show va_up _ (0 + 218) _ i = _ from if_neg (by omega)]
    exact if_neg (by omega)
  have hA2 : ∀ j, AD (218 + j) = ad4 j := fun j => by
    rw [eA, show cj _ (0 + 218) ad4 (218 + j) = _ from if_neg (by omega), Nat.zero_add, Nat.add_sub_cancel_left]
  have hF1 : ∀ i, i < 218 → FF i = F_X10 cy ad2 i := fun i hi => by
    rw [eF, show cj _ (0 + 218) _ i = _ from if_pos (by omega), show va_up _ (0 + 218) _ i = _ from if_neg (by omega)]
    exact if_neg (by omega)
  have hF2 : ∀ j, FF (218 + j) = went WM ad4 cy σM j := fun j => by
    rw [eF, show cj _ (0 + 218) _ (218 + j) = _ from if_neg (by omega), Nat.zero_add, Nat.add_sub_cancel_left]
  have h1 : va_P D vwCl (wl WC (fun c => ad2 (pm c)) cy σC) H := toWC (fun i q hi => by
    have hik : i < 218 := by have := (List.getElem?_eq_some_iff.mp hi).1; rw [cL_len] at this; exact this
    rw [cL_at hik] at hi
    cases hi
    have h3 := hw.1 i _ (cL_at (by omega))
    rw [hA1 i hik, hF1 i hik] at h3
    exact h3)
  have h2 : va_P D vwCl (wl WM ad4 cy σM) H := fun i q hi => by
    obtain ⟨hik, rfl⟩ := wl_of hi
    have hik : i < 38 := hik
    have h3 := hw.1 (218 + i) _ (cL_at (by omega))
    rw [hA2 i, hF2 i] at h3
    exact h3
  have hinj : ∀ i j, i < 256 → j < 256 → AD i = AD j → i = j := fun i j hi hj e => hw.2.1.1 i j _ _ (cL_at hi) (cL_at hj) e
  have hge : ∀ i, i < 256 → s.heap.size ≤ AD i := fun i hi => by
    rcases hw.2.1.2 i _ (cL_at hi) with h | h
    · exact Nat.le_of_eq h.symm
    · exact h
  have hIC : wI WC (fun c => ad2 (pm c)) := fun i j hi hj e => by
    have hi : i < 218 := hi
    have hj : j < 218 := hj
    have e : ad2 (pm i) = ad2 (pm j) := e
    rw [← hA1 _ (pm_lt i hi), ← hA1 _ (pm_lt j hj)] at e
    have h5 := pm_lt i hi
    have h6 := pm_lt j hj
    exact pm_inj hi hj (hinj _ _ (by omega) (by omega) e)
  have hIM : wI WM ad4 := fun i j hi hj e => by
    have hi : i < 38 := hi
    have hj : j < 38 := hj
    rw [← hA2 i, ← hA2 j] at e
    have := hinj _ _ (by omega) (by omega) e
    omega
  have hdis : ∀ i j, i < WC.2.2 → j < WM.2.2 → (fun c => ad2 (pm c)) i ≠ ad4 j := fun i j hi hj e => by
    have hi : i < 218 := hi
    have hj : j < 38 := hj
    have e : ad2 (pm i) = ad4 j := e
    have h5 := pm_lt i hi
    rw [← hA1 _ h5, ← hA2 j] at e
    have := hinj _ _ (by omega) (by omega) e
    omega
  refine law_loop hL C0 X0 K hV hIC hIM hdis (fun i hi => ?_) (fun i hi => ?_) (L + 7) 0 (by omega) (by omega) σC σM hV.1 H locs h1 h2 (hw.2.2.1.mono (fun q hq => ?_)) ls (lv_sub hl [3, 2, 1, 0] rfl)
  · have hi : i < 218 := hi
    have h5 := pm_lt i hi
    show _ ≤ ad2 (pm i)
    rw [← hA1 _ h5]
    exact hge _ (by omega)
  · have hi : i < 38 := hi
    rw [← hA2 i]
    exact hge _ (by omega)
  · rcases hq with rfl | h
    · exact Nat.le_refl _
    · exact h
