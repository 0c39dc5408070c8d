/-! STAGE B, 65: read -/
theorem TxM_z {s : Nat} {τ τ' : St} {T : Tx} (h : rzM s τ τ') (hs : ∀ w, w ≤ 1 → τ.1 0 18 = nI w → s = 1 - w) (h7 : tn T ≤ 7) (hT : TxM τ T) : TxM τ' T := by
  obtain ⟨w, w1, w2, w3, w4, w5, w6, w7⟩ := hT
  have es := hs w w1 w2
  refine ⟨w, w1, by rw [h.2.1 18 (by omega) (by omega) (by omega) (by omega) (by omega) (by omega) (by omega) (by omega)]; exact w2, by rw [(h.2.2.2.1 w (by omega)).1]; exact w3, fun c hc => ?_, by rw [(h.2.2.2.1 w (by omega)).2.1]; exact w5, by rw [(h.2.2.2.1 w (by omega)).2.2]; exact w6, fun k hk => ?_⟩
  · rw [(h.2.2.2.2.1 (7 * w + c) (by omega)).1, (h.2.2.2.2.1 (7 * w + c) (by omega)).2]; exact w4 c hc
  · rw [(h.2.2.2.2.2.1 (4 * w + k) (by omega)).1, (h.2.2.2.2.2.1 (4 * w + k) (by omega)).2]
    rcases w7 k hk with c | ⟨b, B, b1, b2, b3, b4, b5⟩
    · exact Or.inl c
    · exact Or.inr ⟨b, B, b1, b2, b3, b4, MLaw_congr (lo := 130 * w) (hi := 130 * w + 130) (fun c i h1 h2 h3 h4 => h.2.2.2.2.2.2.1 c i h1 h2 (by omega)) (fun c i h1 h2 h3 h4 => h.2.2.2.2.2.2.2 c i h1 h2 (by omega)) b1 b2 b5⟩
theorem M_fault {P : Nat → Nat} {τ : St} {v p : Nat} (h : zDm P τ v p ∨ (τ.1 0 13 = 0 ∧ v ≠ 0 ∧ v < 10 ∧ τ.1 0 15 = nI v ∧ τ.1 0 16 = nI (P p))) : rmF τ = some (nI v, si τ 0 17 (nI (P p))) := by
  have k13 : (si τ 0 17 (nI (P p))).1 0 13 = τ.1 0 13 := by rw [si_get, if_neg (by omega)]
  have k15 : (si τ 0 17 (nI (P p))).1 0 15 = τ.1 0 15 := by rw [si_get, if_neg (by omega)]
  unfold rmF
  rw [wlet_eq]
  rcases h with h | ⟨h1, h2, h3, h4, h5⟩
  · rw [if_neg (zDm_pos h), h.2.2]
    dsimp only
    rw [wlet_eq, if_neg (by rw [k13]; exact zDm_pos h), k13, h.2.1]
  · have z : τ.1 0 13 ≤ 0 := by rw [h1]; decide
    have z5 : ¬ τ.1 0 15 ≤ 0 := by
      rw [h4]
      exact fun q => by have := (nI_leN (b := 0) (by omega) (by omega)).mp q; omega
    rw [if_pos z, if_neg z5, h5]
    dsimp only
    rw [wlet_eq, if_pos (by rw [k13]; exact z), if_neg (by rw [k15]; exact z5), k15, h4]
theorem Inv_fault {σ τ σ' τ' : St} {s : Nat} {x : Int32} (hI : Inv σ τ) (hs : ∀ w, w ≤ 1 → τ.1 0 18 = nI w → s = 1 - w) (F : ∀ c, (c < 10 ∨ 20 < c) → σ'.1 c = σ.1 c) (f : rzM s τ τ') (h2 : τ'.1 0 2 = 0) : Inv (si (si σ' 2 1 0) 0 11 x) (si τ' 0 17 x) := by
  obtain ⟨⟨k, k1, k2, k3, k4⟩, p, ⟨t, t1, t2, t3, t4⟩, q, T, m, a1, a2, a3, a4, a5, ⟨hh, nx, b1, b2, b3, b4, b5, b6⟩, ⟨hs', c1, c2, c3⟩⟩ := hI
  have G : ∀ c, c ≠ 0 → c ≠ 2 → (c < 10 ∨ 20 < c) → (si (si σ' 2 1 0) 0 11 x).1 c = σ.1 c := fun c h0 h2 h3 => by rw [si_ne h0, si_ne h2]; exact F c h3
  have g0 : ∀ i, i ≠ 11 → (si (si σ' 2 1 0) 0 11 x).1 0 i = σ.1 0 i := fun i hi => by rw [si_get, if_neg (fun z => hi z.2), si_ne (by omega), F 0 (by omega)]
  have M : ∀ c, c ≠ 0 → (c = 1 ∨ (5 < c ∧ c < 9) ∨ 23 < c) → (si τ' 0 17 x).1 c = τ.1 c := fun c h0 h => by rw [si_ne h0]; exact f.1 c h
  have m0 : ∀ i, i = 18 ∨ 40 ≤ i → (si τ' 0 17 x).1 0 i = τ.1 0 i := fun i hi => by rw [si_get, if_neg (by omega)]; exact f.2.1 i (by omega) (by omega) (by omega) (by omega) (by omega) (by omega) (by omega) (by omega)
  have hr : ∀ j, hrow (si τ' 0 17 x) j = hrow τ j := fun j => by unfold hrow; rw [M 29 (by omega) (by omega)]
  have sr : ∀ j, srow (si τ' 0 17 x) j = srow τ j := fun j => by unfold srow; rw [M 37 (by omega) (by omega)]
  refine ⟨⟨0, by omega, ?_, ?_, fun i hi => absurd hi (Nat.not_lt_zero _)⟩, ?_, ⟨t, t1, ?_, ?_, fun i hi => ?_⟩, fun k hk => ?_, T, m, a1, ?_, ?_, ?_, ?_, ⟨hh, nx, b1, b2, ?_, ?_, ?_, fun i hi => ?_⟩, ⟨hs', c1, ?_, fun j hj => ?_⟩⟩
  · rw [si_ne (by omega), si_get, if_pos ⟨rfl, rfl⟩]; rfl
  · rw [si_get, if_neg (by omega)]; exact h2
  · rw [si_get, if_pos ⟨rfl, rfl⟩, si_get, if_pos ⟨rfl, rfl⟩]
  · rw [G 31 (by omega) (by omega) (by omega)]; exact t2
  · rw [m0 51 (by omega)]; exact t3
  · rw [G 32 (by omega) (by omega) (by omega), G 33 (by omega) (by omega) (by omega), G 34 (by omega) (by omega) (by omega), M 31 (by omega) (by omega), M 32 (by omega) (by omega), M 33 (by omega) (by omega)]
    exact t4 i hi
  · show τ'.2 7 k = _
    rw [f.2.2.1 7 (by omega) (by omega)]; exact q k hk
  · unfold TxC at a2 ⊢
    rw [G 4 (by omega) (by omega) (by omega), G (4 + 1) (by omega) (by omega) (by omega), G (4 + 2) (by omega) (by omega) (by omega), G (4 + 3) (by omega) (by omega) (by omega), G (4 + 4) (by omega) (by omega) (by omega)]
    exact a2
  · exact TxM_congr (by rw [si_get, if_neg (by omega)]) (fun c h1 h2 => si_ne (by omega)) (TxM_z f hs a1.1 a3)
  · rw [M 26 (by omega) (by omega)]
    exact zRS_cell (fun c h1 h2 => G c (by omega) (by omega) (by omega)) a4
  · rw [M 26 (by omega) (by omega)]; exact a5
  · rw [G 36 (by omega) (by omega) (by omega)]; exact b3
  · rw [G 36 (by omega) (by omega) (by omega)]; exact b4
  · rw [m0 47 (by omega)]; exact b5
  · rw [hr]
    obtain ⟨mi, m1, m2⟩ := b6 i hi
    refine ⟨mi, zRS_cell (fun c h1 h2 => ?_) m1, m2⟩
    exact G c (by omega) (by omega) (by omega)
  · rw [g0 10 (by omega)]; exact c2
  · rw [M 36 (by omega) (by omega), sr]
    refine ⟨fun z => ?_, (c3 j hj).2⟩
    obtain ⟨z1, mi, m1, m2⟩ := (c3 j hj).1 z
    exact ⟨z1, mi, zRS_cell (fun c h1 h2 => G c (by omega) (by omega) (by omega)) m1, m2⟩
/-- a text read without a fault -/
theorem J_taken {σ τ σ' τ' : St} {s : Nat} {T : Tx} {cd b : Nat} (hI : Inv σ τ) (hs : s ≤ 1) (F : ∀ c, (c < 10 ∨ 20 < c) → σ'.1 c = σ.1 c) (f : rzM s τ τ') (h2 : τ'.1 0 2 = 0) (hOK : TxOK T) (hC : TxC σ' 15 T) (hM : rdS τ' s T cd b) (h13 : τ'.1 0 13 = 0) (h15 : τ'.1 0 15 = 0) (h19 : τ'.1 0 19 = nI s) (hcd : cd ≤ 420 * s + 420) (hb : b ≤ 130 * s + 130) : ∃ σ9 σ'' τ'', f_X8_copyFrom (si (si σ' 2 1 0) 0 11 (-1)) 4 15 = some σ9 ∧ (Option.bind (f_X6_begin σ9 38 4) fun σ11 => wlet (si σ11 36 1 (0 : Int32)) fun σ12 => wlet (si σ12 31 4 (0 : Int32)) fun σ13 => wlet (si σ13 0 10 (0 : Int32)) fun σ14 => some ((0 : Int32), σ14)) = some ((0 : Int32), σ'') ∧ rmF τ' = some ((0 : Int32), τ'') ∧ Inv σ'' τ'' := by
  obtain ⟨⟨k, k1, k2, k3, k4⟩, p, ⟨t, t1, t2, t3, t4⟩, q, T', m, a1, a2, a3, a4, a5, ⟨hh, nx, b1, b2, b3, b4, b5, b6⟩, ⟨hs', c1, c2, c3⟩⟩ := hI
  have h7 := hOK.1
  -- the class
  obtain ⟨σ9, d1, d2, -, d4⟩ := C_copyText (si (si σ' 2 1 0) 0 11 (-1))
  have T6 : TxC (si (si σ' 2 1 0) 0 11 (-1)) 15 T := by
    unfold TxC at hC ⊢
    rw [si_ne (by omega), si_ne (by omega), si_ne (by omega), si_ne (by omega), si_ne (by omega), si_ne (by omega), si_ne (by omega), si_ne (by omega), si_ne (by omega), si_ne (by omega)]
    exact hC
  have T9 := d4 T h7 T6
  obtain ⟨σ11, e1, e2, -, ⟨e3, e4, e5, e6, e7⟩, e8⟩ := C_begin6 T9 hOK
  obtain ⟨σ14, h14⟩ : ∃ σ14, σ14 = si (si (si σ11 36 1 0) 31 4 0) 0 10 0 := ⟨_, rfl⟩
  have S : ∀ c, c ≠ 0 → c ≠ 31 → c ≠ 36 → σ14.1 c = σ11.1 c := fun c x y z => by rw [h14, si_ne x, si_ne y, si_ne z]
  -- the reference
  obtain ⟨τ21, g1⟩ : ∃ τ21, τ21 = si (si τ' 0 17 (-1)) 0 18 (nI s) := ⟨_, rfl⟩
  have y0 : ∀ i, i ≠ 17 → i ≠ 18 → τ21.1 0 i = τ'.1 0 i := fun i x y => by rw [g1, si_get, if_neg (fun z => y z.2), si_get, if_neg (fun z => x z.2)]
  have yc : ∀ c, c ≠ 0 → τ21.1 c = τ'.1 c := fun c x => by rw [g1, si_ne x, si_ne x]
  have M21 : TxM τ21 T := by
    obtain ⟨u1, u2, u3, u4, u5⟩ := hM
    refine ⟨s, hs, by rw [g1, si_get, if_pos ⟨rfl, rfl⟩], by rw [yc 9 (by omega)]; exact u1, fun c hc => by rw [yc 10 (by omega), yc 11 (by omega)]; exact u2 c hc, by rw [yc 12 (by omega)]; exact u3, by rw [yc 13 (by omega)]; exact u4, fun k hk => ?_⟩
    rw [yc 14 (by omega), yc 15 (by omega)]
    rcases u5 k hk with c | ⟨b', B, v1, v2, v3, v4, v5⟩
    · exact Or.inl c
    · exact Or.inr ⟨b', B, v1, by omega, v3, v4, rdMm (Nat.le_refl _) hcd (MLaw_congr (lo := 0) (hi := B) (fun c i _ _ _ _ => by rw [yc c (by omega)]) (fun c i _ _ _ _ => by rw [yc c (by omega)]) (Nat.zero_le _) (Nat.le_refl _) v5)⟩
  obtain ⟨τ23, i1, i2, i3, i4, ⟨i5, i6, i7, i8, i9⟩, i10, i11⟩ := M_begins M21 h7
  obtain ⟨τ27, j1⟩ : ∃ τ27, τ27 = si (si (sci τ23 27 26 0 0 26) 0 47 0) 0 51 0 := ⟨_, rfl⟩
  obtain ⟨τ28, l1, l2, l3, l4⟩ := M_lets τ27
  have v26 : ∀ i, i < 26 → τ28.1 26 i = τ23.1 27 i := fun i hi => by
    rw [l2 26 (by omega), j1, si_ne (by omega), si_ne (by omega), sci_get, if_pos rfl, if_pos (by omega), Nat.zero_add, Nat.sub_zero]
  have x0 : ∀ i, i ≠ 45 → i ≠ 47 → i ≠ 51 → τ28.1 0 i = τ21.1 0 i := fun i x y z => by
    rw [l2 0 (by omega), j1, si_get, if_neg (fun w => z w.2), si_get, if_neg (fun w => y w.2), sci_get, if_neg (by omega), i3 i x]
  have xc : ∀ c, c ≠ 0 → c ≠ 26 → c ≠ 27 → c ≠ 36 → τ28.1 c = τ'.1 c := fun c x y z w => by
    rw [l2 c w, j1, si_ne x, si_ne x]
    funext i
    rw [sci_get, if_neg y, i2 c x z, yc c x]
  refine ⟨σ9, σ14, τ28, d1, ?_, ?_, ⟨0, by omega, ?_, ?_, fun i hi => absurd hi (Nat.not_lt_zero _)⟩, ?_, ⟨0, by omega, ?_, ?_, fun i hi => absurd hi (Nat.not_lt_zero _)⟩, fun k hk => ?_, T, tn T, hOK, ?_, ?_, ⟨?_, ?_, ?_, ?_, ?_, fun i hi => ?_, fun c hc => ?_, fun c hc => ?_⟩, ⟨Nat.le_refl _, h7, ?_, fun i hi => ?_, fun i j hi hj e => ?_⟩, ⟨0, nx, by omega, b2, ?_, ?_, ?_, fun i hi => absurd hi (Nat.not_lt_zero _)⟩, ⟨0, by omega, ?_, fun j hj => ⟨fun z => ?_, fun _ => l4 j hj⟩⟩⟩
  · rw [bind_eq e1, wlet_eq, wlet_eq, wlet_eq, ← h14]
  · have z13 : τ'.1 0 13 ≤ 0 := by rw [h13]; decide
    have z15 : τ'.1 0 15 ≤ 0 := by rw [h15]; decide
    have w13 : (si τ' 0 17 (-1)).1 0 13 ≤ 0 := by rw [si_get, if_neg (by omega)]; exact z13
    have w15 : (si τ' 0 17 (-1)).1 0 15 ≤ 0 := by rw [si_get, if_neg (by omega)]; exact z15
    have w19 : (si τ' 0 17 (-1)).1 0 19 = nI s := by rw [si_get, if_neg (by omega)]; exact h19
    unfold rmF
    rw [wlet_eq, if_pos z13, if_pos z15]
    dsimp only
    rw [wlet_eq, if_pos w13, if_pos w15, w19, wlet_eq, ← g1, bind_eq i1, bind_eq (M_keepsRow τ23), wlet_eq, wlet_eq, ← j1, wlet_eq]
    exact bind_eq l1
  · rw [S 2 (by omega) (by omega) (by omega), e2 2 (by omega), d2 2 (by omega), si_ne (by omega), si_get, if_pos ⟨rfl, rfl⟩]; rfl
  · rw [x0 2 (by omega) (by omega) (by omega), y0 2 (by omega) (by omega)]; exact h2
  · rw [x0 17 (by omega) (by omega) (by omega), g1, si_get, if_neg (by omega), si_get, if_pos ⟨rfl, rfl⟩, h14, si_get, if_neg (by omega), si_ne (by omega), si_ne (by omega), e2 0 (by omega), d2 0 (by omega), si_get, if_pos ⟨rfl, rfl⟩]
  · rw [h14, si_ne (by omega), si_get, if_pos ⟨rfl, rfl⟩]; rfl
  · rw [l2 0 (by omega), j1, si_get, if_pos ⟨rfl, rfl⟩]; rfl
  · rw [l3, j1]
    show τ23.2 7 k = _
    rw [i4, g1]
    show τ'.2 7 k = _
    rw [f.2.2.1 7 (by omega) (by omega)]; exact q k hk
  · unfold TxC at T9 ⊢
    rw [S 4 (by omega) (by omega) (by omega), S (4 + 1) (by omega) (by omega) (by omega), S (4 + 2) (by omega) (by omega) (by omega), S (4 + 3) (by omega) (by omega) (by omega), S (4 + 4) (by omega) (by omega) (by omega), e2 4 (by omega), e2 (4 + 1) (by omega), e2 (4 + 2) (by omega), e2 (4 + 3) (by omega), e2 (4 + 4) (by omega)]
    exact T9
  · exact TxM_congr (x0 18 (by omega) (by omega) (by omega)) (fun c x y => by rw [xc c (by omega) (by omega) (by omega) (by omega), yc c (by omega)]) M21
  · rw [S 38 (by omega) (by omega) (by omega)]; exact e3
  · rw [S 38 (by omega) (by omega) (by omega), v26 24 (by omega), i8]; exact e4
  · rw [S 38 (by omega) (by omega) (by omega), v26 9 (by omega), i6]; exact e5
  · rw [S 38 (by omega) (by omega) (by omega), v26 8 (by omega), i7]; exact e6
  · rw [S 38 (by omega) (by omega) (by omega), v26 25 (by omega), i9]; exact e7
  · rw [S (38 + 1) (by omega) (by omega) (by omega), v26 i (by omega), i10 i hi]; exact (e8 i (by omega)).1
  · rw [S (38 + 2) (by omega) (by omega) (by omega), v26 (10 + c) (by omega), (i11 c hc).1]; exact (e8 c hc).2.1
  · rw [S (38 + 3) (by omega) (by omega) (by omega), v26 (17 + c) (by omega), (i11 c hc).2]; exact (e8 c hc).2.2
  · rw [v26 7 (by omega)]; exact i5
  · exact ⟨i, hi, by rw [v26 i (by omega)]; exact i10 i hi⟩
  · rw [v26 i (by omega), v26 j (by omega), i10 i hi, i10 j hj] at e
    exact (nI_eqN (by omega) (by omega)).mp e
  · rw [h14, si_ne (by omega), si_ne (by omega), si_get, if_pos ⟨rfl, rfl⟩]; rfl
  · rw [h14, si_ne (by omega), si_ne (by omega), si_get, if_neg (by omega), e2 36 (by omega), d2 36 (by omega), si_ne (by omega), si_ne (by omega), F 36 (by omega)]; exact b4
  · rw [l2 0 (by omega), j1, si_get, if_neg (by omega), si_get, if_pos ⟨rfl, rfl⟩]; rfl
  · rw [h14, si_get, if_pos ⟨rfl, rfl⟩]; rfl
  · rcases (show j = 0 ∨ j = 1 ∨ j = 2 by omega) with rfl | rfl | rfl <;> exact absurd z (by decide)
theorem zdo_read : sim_read Inv := by
  intro σ τ hI
  obtain ⟨⟨k, k1, k2, k3, k4⟩, p, -, q, T, m, a1, a2, ⟨w, w1, w2, -⟩, -⟩ := id hI
  obtain ⟨b, hb⟩ : ∃ b : Nat → Nat, ∀ i, b i < 256 ∧ (σ.1 3 i) &&& (255 : Int32) = nI (b i) := ⟨fun i => Classical.choose (zbyte (σ.1 3 i)), fun i => Classical.choose_spec (zbyte (σ.1 3 i))⟩
  obtain ⟨s, es⟩ : ∃ s, s = 1 - w := ⟨_, rfl⟩
  have hs : s ≤ 1 := by omega
  have hsw : ∀ u, u ≤ 1 → τ.1 0 18 = nI u → s = 1 - u := fun u h1 h2 => by
    have : u = w := (nI_eqN (by omega) (by omega)).mp (h2.symm.trans w2)
    omega
  obtain ⟨σ1, σ2, b1, b2, b3, b4, b5, b6, b7, b8, b9⟩ := C_start (σ := σ) (b := b) (n := k) ⟨k2, k1, fun i _ => ⟨(hb i).2, (hb i).1⟩⟩
  obtain ⟨τ2, c1, c2, c3, c4, c5, c6, c7, c8, c9, c10, c11, c12⟩ := M_start (b := b) k1 w1 k3 (fun i hi => by rw [← k4 i hi]; exact ⟨(hb i).2, (hb i).1⟩) q w2
  rw [← es] at c2 c5 c7 c8 c9
  have hX : rdX (zKk b k) (zKp b k) (zKv b k) (zKn b k) s σ2 τ2 0 T0 12 (420 * s) (130 * s) := ⟨⟨b6, c4⟩, ⟨b7, c5, by decide, fun j hj => T0_ok.2.2.2.2 j hj⟩, ⟨b8, c6, c7, c8, c9, c10⟩, fun i hi => absurd hi (Nat.not_lt_zero _), Or.inl ⟨T0_ok, b9, c11⟩, by omega, by omega, by omega, by omega, by omega⟩
  obtain ⟨σ3, τ3, d1, d2, d3, d4, d5⟩ := J_text hs (zKv_V b k) (zKp_P b k1) b5 c3 hX
  have F3 : ∀ c, (c < 10 ∨ 20 < c) → σ3.1 c = σ.1 c := fun c hc => by rw [d3.1 c (by omega) (by omega)]; exact b3 c (by omega)
  have f3 : rzM s τ τ3 := rzM_trans c2 (rzM_H d4)
  have z2 : τ3.1 0 2 = 0 := by rw [d4.2.1 2 (by omega) (by omega) (by omega) (by omega) (by omega)]; exact c12
  have eM : f_X11_read τ = rmF τ3 := by rw [c1]; exact bind_eq d2
  have eC : ∀ σ4, f_X4_findFirstFault σ3 = some σ4 → f_X4_readTape σ = some (σ4.1 10 3, σ4) := fun σ4 h => by
    unfold f_X4_readTape
    rw [bind_eq b1, bind_eq b2, wlet_eq]
    refine (bind_eq d1).trans ?_
    exact bind_eq h
  -- a fault
  have hf : ∀ v pp σ4, f_X4_findFirstFault σ3 = some σ4 → rgC σ3 σ4 → σ4.1 10 3 = nI v → σ4.1 10 4 = nI (zKp b k pp) → v ≠ 0 → v < 10 → (zDm (zKp b k) τ3 v pp ∨ (τ3.1 0 13 = 0 ∧ v ≠ 0 ∧ v < 10 ∧ τ3.1 0 15 = nI v ∧ τ3.1 0 16 = nI (zKp b k pp))) → ∃ (r : Int32) (σ' : St) (τ' : St), f_X10_read σ = some (r, σ') ∧ f_X11_read τ = some (r, τ') ∧ Inv σ' τ' := fun v pp σ4 h1 h2 h3 h4 h5 h6 h7 => by
    have nv : ¬ nI v = 0 := fun z => h5 ((nI_eqN (b := 0) (by omega) (by omega)).mp z)
    refine ⟨nI v, _, _, ?_, by rw [eM]; exact M_fault h7, Inv_fault (x := nI (zKp b k pp)) (σ' := σ4) hI hsw (fun c hc => by rw [h2.1 c (by omega)]; exact F3 c hc) f3 z2⟩
    unfold f_X10_read
    rw [bnd2_eq (eC σ4 h1), h3, wlet_eq, wlet_eq, if_neg nv, si_ne (show 10 ≠ 2 by omega), h4]
    dsimp only
    rw [wlet_eq, if_neg nv]
  rcases d5 with ⟨t, T1, L, cd, bb, kt, ⟨hA0, hA⟩, ⟨hTC, hTS, h7, hok⟩, ⟨hL, h12, h35, h29, h19, h20⟩, hN, hG, hl1, hl2, hl3, hl4, hl5⟩ | ⟨v, pp, e1, e2⟩
  · have t4 := hA.1
    obtain ⟨σ4, g1, g2, g3, g4⟩ := C_first_al hA0
    rcases hG with ⟨u1, u2, u3⟩ | ⟨v, pp, u1, u2, u3, u4, u5, u6, u7⟩
    · have C4 : TxC σ4 15 T1 := by
        unfold TxC at hTC ⊢
        rw [g2.1 15 (by omega), g2.1 (15 + 1) (by omega), g2.1 (15 + 2) (by omega), g2.1 (15 + 3) (by omega), g2.1 (15 + 4) (by omega)]
        exact hTC
      obtain ⟨σ9, σ', τ', i1, i2, i3, i4⟩ := J_taken hI hs (σ' := σ4) (fun c hc => by rw [g2.1 c (by omega)]; exact F3 c hc) f3 z2 u1 C4 hTS hA.2.2.1 u3 h19 (by omega) (by omega)
      refine ⟨0, σ', τ', ?_, by rw [eM]; exact i3, i4⟩
      unfold f_X10_read
      rw [bnd2_eq (eC σ4 g1), g3, u2, wlet_eq, wlet_eq, if_pos rfl]
      dsimp only
      rw [wlet_eq, if_pos rfl, bind_eq i1]
      exact i2
    · exact hf v pp σ4 g1 g2 (g3.trans u4) (g4.trans u6) u1 u2 (Or.inr ⟨hA.2.2.1, u1, u2, u5, u7⟩)
  · obtain ⟨σ4, g1, g2, g3, g4⟩ := C_first (zTk_H d3 b5) e1
    exact hf v pp σ4 g1 g2 g3 g4 (by rcases e1.1 with rfl | rfl <;> omega) (by rcases e1.1 with rfl | rfl <;> omega) (Or.inl e2)
