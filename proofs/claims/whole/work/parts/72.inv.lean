/-! STAGE B, 23: the relation of the two stores -/
def hrow (τ : St) (j : Nat) : Nat → Int32 := fun k => τ.1 29 (26 * j + k)
def srow (τ : St) (j : Nat) : Nat → Int32 := fun k => τ.1 37 (26 * j + k)
def iT (σ τ : St) : Prop := ∃ k, k ≤ 2000 ∧ σ.1 2 1 = nI k ∧ τ.1 0 2 = nI k ∧ ∀ i, i < k → σ.1 3 i = τ.1 1 i
def iO (σ τ : St) : Prop := ∃ t, t ≤ 20 ∧ σ.1 31 4 = nI t ∧ τ.1 0 51 = nI t ∧ ∀ i, i < t → σ.1 32 i = τ.1 31 i ∧ σ.1 33 i = τ.1 32 i ∧ σ.1 34 i = τ.1 33 i ∧ (∃ p, p < 7 ∧ σ.1 32 i = nI p) ∧ (σ.1 34 i = 0 ∨ σ.1 34 i = 1)
def iK (τ : St) : Prop := ∀ k, k < 19 → τ.2 7 k = σM.2 7 k
def iH (T : Tx) (σ τ : St) : Prop := ∃ h nx, h ≤ 40 ∧ nx < 40 ∧ σ.1 36 1 = nI h ∧ σ.1 36 2 = nI nx ∧ τ.1 0 47 = nI h ∧ ∀ i, i < h → ∃ m, RS σ (46 + 4 * ((nx + 39 - i) % 40)) m (hrow τ (h - 1 - i)) ∧ WV (tn T) m (hrow τ (h - 1 - i))
def iL (T : Tx) (σ τ : St) : Prop := ∃ hs, hs < 8 ∧ σ.1 0 10 = nI hs ∧ ∀ j, j < 3 → (zb (nI hs) j = true → τ.1 36 j = 1 ∧ ∃ m, RS σ (206 + 4 * j) m (srow τ j) ∧ WV (tn T) m (srow τ j)) ∧ (zb (nI hs) j = false → τ.1 36 j = 0)
def Inv (σ τ : St) : Prop := iT σ τ ∧ σ.1 0 11 = τ.1 0 17 ∧ iO σ τ ∧ iK τ ∧ ∃ T m, TxOK T ∧ TxC σ 4 T ∧ TxM τ T ∧ RS σ 38 m (τ.1 26) ∧ WV (tn T) m (τ.1 26) ∧ iH T σ τ ∧ iL T σ τ
theorem zRS_cell {σ σ' : St} {o m : Nat} {V : Nat → Int32} (h : ∀ c, o ≤ c → c ≤ o + 3 → σ'.1 c = σ.1 c) (hR : RS σ o m V) : RS σ' o m V := by
  unfold RS at hR ⊢
  rw [h o (by omega) (by omega), h (o + 1) (by omega) (by omega), h (o + 2) (by omega) (by omega), h (o + 3) (by omega) (by omega)]
  exact hR
theorem Inv_q {σ σ' τ τ' : St} (hI : Inv σ τ) (h : zK σ σ') (g : zSc τ τ') : Inv σ' τ' := by
  have gc : ∀ c, c ≠ 0 → c ≠ 24 → c ≠ 25 → c ≠ 27 → c ≠ 28 → c ≠ 30 → c ≠ 34 → c ≠ 35 → τ'.1 c = τ.1 c := g.1
  obtain ⟨⟨k, k1, k2, k3, k4⟩, p, ⟨t, t1, t2, t3, t4⟩, q, T, m, a1, a2, a3, a4, a5, ⟨hh, nx, b1, b2, b3, b4, b5, b6⟩, ⟨hs, c1, c2, c3⟩⟩ := hI
  have e26 : τ'.1 26 = τ.1 26 := gc 26 (by omega) (by omega) (by omega) (by omega) (by omega) (by omega) (by omega) (by omega)
  have e29 : τ'.1 29 = τ.1 29 := gc 29 (by omega) (by omega) (by omega) (by omega) (by omega) (by omega) (by omega) (by omega)
  have e37 : τ'.1 37 = τ.1 37 := gc 37 (by omega) (by omega) (by omega) (by omega) (by omega) (by omega) (by omega) (by omega)
  have e36 : τ'.1 36 = τ.1 36 := gc 36 (by omega) (by omega) (by omega) (by omega) (by omega) (by omega) (by omega) (by omega)
  have hr : ∀ j, hrow τ' j = hrow τ j := fun j => by unfold hrow; rw [e29]
  have sr : ∀ j, srow τ' j = srow τ j := fun j => by unfold srow; rw [e37]
  refine ⟨⟨k, k1, ?_, ?_, fun i hi => ?_⟩, ?_, ⟨t, t1, ?_, ?_, fun i hi => ?_⟩, fun k hk => ?_, T, m, a1, zTx_K h a2, zTxM_Sc g a3, ?_, ?_, ⟨hh, nx, b1, b2, ?_, ?_, ?_, fun i hi => ?_⟩, ⟨hs, c1, ?_, fun j hj => ?_⟩⟩
  · rw [h.1 2 (by omega)]; exact k2
  · rw [g.2.1 2 (by omega) (by omega) (by omega)]; exact k3
  · rw [h.1 3 (by omega), gc 1 (by omega) (by omega) (by omega) (by omega) (by omega) (by omega) (by omega) (by omega)]; exact k4 i hi
  · rw [h.1 0 (by omega), g.2.1 17 (by omega) (by omega) (by omega)]; exact p
  · rw [h.2.1 4 (by omega) (by omega)]; exact t2
  · rw [g.2.1 51 (by omega) (by omega) (by omega)]; exact t3
  · rw [h.1 32 (by omega), h.1 33 (by omega), h.1 34 (by omega), gc 31 (by omega) (by omega) (by omega) (by omega) (by omega) (by omega) (by omega) (by omega), gc 32 (by omega) (by omega) (by omega) (by omega) (by omega) (by omega) (by omega) (by omega), gc 33 (by omega) (by omega) (by omega) (by omega) (by omega) (by omega) (by omega) (by omega)]
    exact t4 i hi
  · rw [g.2.2]; exact q k hk
  · rw [e26]; exact zRS_K h a4
  · rw [e26]; exact a5
  · rw [h.1 36 (by omega)]; exact b3
  · rw [h.1 36 (by omega)]; exact b4
  · rw [g.2.1 47 (by omega) (by omega) (by omega)]; exact b5
  · rw [hr]
    obtain ⟨mi, m1, m2⟩ := b6 i hi
    refine ⟨mi, zRS_cell (fun c h1 h2 => ?_) m1, m2⟩
    have := Nat.mod_lt (nx + 39 - i) (show 0 < 40 by omega)
    exact h.1 c (by omega)
  · rw [h.1 0 (by omega)]; exact c2
  · rw [e36, sr]
    refine ⟨fun z => ?_, (c3 j hj).2⟩
    obtain ⟨z1, mi, m1, m2⟩ := (c3 j hj).1 z
    exact ⟨z1, mi, zRS_cell (fun c h1 h2 => h.1 c (by omega)) m1, m2⟩
theorem zcop {τ : St} {T : Tx} {m : Nat} (hT : TxM τ T) (hW : WV (tn T) m (τ.1 26)) : ∃ τ1, zSc τ τ1 ∧ f_X11_copies τ = some τ1 ∧ TxM τ1 T ∧ WV (tn T) m (τ1.1 27) ∧ τ1.1 0 45 = nI (ts T) ∧ (∀ i, i < 26 → τ1.1 27 i = τ.1 26 i) ∧ ∀ (σ : St) o, RS σ o m (τ.1 26) → RS σ o m (τ1.1 27) := by
  obtain ⟨τ1, a1, a2, a3, a4⟩ := M_copies hT
  have h7 := zWV7 hW
  exact ⟨τ1, a1, a2, zTxM_Sc a1 hT, WV_congr a3 hW, a4, a3, fun σ o h => RS_congr a3 h7 h⟩
theorem zdo_place : sim_place Inv := fun σ τ hI => ⟨_, rfl, by rw [hI.2.1]; rfl, hI⟩
theorem zdo_at : sim_at Inv := by
  intro σ τ hI x
  obtain ⟨-, -, -, -, T, m, a1, a2, a3, a4, a5, -, -⟩ := id hI
  have h7 := zWV7 a5
  unfold f_X10_at f_X11_at
  rw [if_ib b726, c7, a5.2.2.1]
  by_cases h1 : x < 0
  · exact ⟨-1, by rw [bind_eq (C_docketAt_out a4 (Or.inl h1))], by rw [bind_eq (zin_l h1), if_pos rfl], hI⟩
  · obtain ⟨k, k1, rfl⟩ := i_nat h1
    by_cases h2 : k < m
    · refine ⟨τ.1 26 k, by rw [bind_eq (C_docketAt a4 h7 h2)], ?_, hI⟩
      rw [bind_eq (zin_t h1 ((zlt_le (by omega)).mpr ((nI_ltN (by omega) (by omega)).mpr h2))), if_neg (by decide), if_ib (ib_t (show k < 26 by omega) (by omega)), nI_clamp (by omega)]
    · have h3 : nI m ≤ nI k := (nI_leN (by omega) k1).mpr (by omega)
      refine ⟨-1, by rw [bind_eq (C_docketAt_out a4 (Or.inr h3))], ?_, hI⟩
      have h4 : nI m - (1 : Int32) < nI k := Classical.byContradiction fun z => (Int32.not_lt.mpr h3) ((zlt_le (by omega)).mp z)
      rw [bind_eq (zin_r h4), if_pos rfl]
theorem n10 : ¬ (1 : Int32) = 0 := by decide
theorem za10 (c : Nat) : (10 : Int32) + nI c = nI (10 + c) := nI_add' 10 c
theorem za17 (c : Nat) : (17 : Int32) + nI c = nI (17 + c) := nI_add' 17 c
theorem zdo_docket : sim_docket Inv := by
  intro σ τ hI x y
  obtain ⟨-, -, -, -, T, m, a1, a2, a3, a4, a5, -, -⟩ := id hI
  have h7 := zWV7 a5
  have hn := a1.1
  unfold f_X10_docket f_X11_docket
  rcases zcase hn x with ⟨c, hc, rfl⟩ | hx
  · obtain ⟨τ1, b1, b2, b3, b4, b5, b6, b7⟩ := zcop a3 a5
    have R := b7 σ 38 a4
    have bc : ib (nI c) 7 = true := ib_t (by omega) (by omega)
    have gc : (nI c).toNatClampNeg = c := nI_clamp (by omega)
    have b10 : ib (nI (10 + c)) 26 = true := ib_t (by omega) (by omega)
    have g10 : (nI (10 + c)).toNatClampNeg = 10 + c := nI_clamp (by omega)
    have b17 : ib (nI (17 + c)) 26 = true := ib_t (by omega) (by omega)
    have g17 : (nI (17 + c)).toNatClampNeg = 17 + c := nI_clamp (by omega)
    rw [bind_eq (C_has a2 a1 hc), if_neg n10, bind_eq (M_isCase_t a3 a1 hc), if_neg n10, bind_eq b2, bind_eq (M_placeOf h7 b4.2.2.1 _), za10, za17]
    by_cases y0 : y = 0
    · rw [if_pos y0, if_pos y0, if_ib bc, gc, bind_eq (M_deedAt b3 a1 hc)]
      exact ⟨_, _, _, rfl, by rw [(a2.2.1 c hc).1], Inv_q hI (zK_refl _) b1⟩
    rw [if_neg y0, if_neg y0]
    by_cases y1 : y = 1
    · rw [if_pos y1, if_pos y1, if_ib bc, gc, if_ib b10, g10]
      exact ⟨_, _, _, rfl, by rw [show σ.1 40 c = _ from R.2.2.2.2.2.2.1 c (by omega)], Inv_q hI (zK_refl _) b1⟩
    rw [if_neg y1, if_neg y1]
    by_cases y2 : y = 2
    · rw [if_pos y2, if_pos y2, bind_eq (C_isListed h7 R _)]
      rcases pO_cases (τ1.1 27) m (nI c) with ⟨j, j1, j2, j3, j4⟩ | ⟨j1, j2⟩
      · rw [j3, if_neg (nI_ne_m1 (by omega)), if_neg n10, bind_eq (C_placeOf h7 R.1 R.2.2.2.2.2.1 _), j3, if_pos (nI_pos' (by omega))]
        exact ⟨_, _, _, rfl, rfl, Inv_q hI (zK_refl _) b1⟩
      · rw [j2, if_pos rfl, if_pos rfl, if_neg (show ¬ (0 : Int32) ≤ -1 by decide)]
        exact ⟨_, _, _, rfl, rfl, Inv_q hI (zK_refl _) b1⟩
    rw [if_neg y2, if_neg y2]
    by_cases y3 : y = 3
    · rw [if_pos y3, if_pos y3, if_ib bc, gc, if_ib b17, g17]
      exact ⟨_, _, _, rfl, by rw [show σ.1 41 c = _ from R.2.2.2.2.2.2.2 c (by omega)], Inv_q hI (zK_refl _) b1⟩
    rw [if_neg y3, if_neg y3]
    by_cases y4 : y = 4
    · rw [if_pos y4, if_pos y4, bind_eq (C_isPleading R _), bind_eq (M_doesPlead (by omega))]
      rcases plB_01 (τ1.1 27) (nI c) with z | z
      · rw [z, if_pos rfl, if_pos rfl]
        exact ⟨_, _, _, rfl, rfl, Inv_q hI (zK_refl _) b1⟩
      · rw [z, if_neg n10, if_neg n10]
        exact ⟨_, _, _, rfl, rfl, Inv_q hI (zK_refl _) b1⟩
    rw [if_neg y4, if_neg y4]
    by_cases y5 : y = 5
    · obtain ⟨σ', d1, d2⟩ := C_dueAsListed a2 a1 R b4 (by omega) hc
      obtain ⟨τ', e1, e2⟩ := M_doomOf (d := nI (td T c)) b3 a1 hc (PL_pO (c := c) b4)
      rw [if_pos y5, if_pos y5, bnd2_eq d2, bind_eq (M_deedAt b3 a1 hc), bnd2_eq e2]
      exact ⟨_, _, _, rfl, rfl, Inv_q hI (zK_frj d1) (zSc_trans b1 (zSc_fl e1))⟩
    rw [if_neg y5, if_neg y5]
    by_cases y6 : y = 6
    · obtain ⟨σ', d1, d2⟩ := C_chance a2 a1 R b4 (by omega) hc
      obtain ⟨τ', e1, e2⟩ := M_adjournsOf b3 a1 hc (PL_pO (c := c) b4)
      rw [if_pos y6, if_pos y6, bnd2_eq d2, bnd2_eq e2]
      exact ⟨_, _, _, rfl, rfl, Inv_q hI (zK_frj d1) (zSc_trans b1 (zSc_fl e1))⟩
    rw [if_neg y6, if_neg y6]
    exact ⟨_, _, _, rfl, rfl, Inv_q hI (zK_refl _) b1⟩
  · rw [bind_eq (C_has_f a2 hx), if_pos rfl, bind_eq (M_isCase_f a3 a1 hx), if_pos rfl]
    exact ⟨_, _, _, rfl, rfl, hI⟩
theorem z01 (x : Int32) : x = 0 ∨ x = 1 ∨ (f_X11_in x 0 1 = some 0 ∧ (x < 0 ∨ (1 : Int32) < x)) := by
  by_cases h : x < 0
  · exact Or.inr (Or.inr ⟨zin_l h, Or.inl h⟩)
  · by_cases h2 : (1 : Int32) < x
    · exact Or.inr (Or.inr ⟨zin_r h2, Or.inr h2⟩)
    · obtain ⟨k, k1, rfl⟩ := znat (N := 1) (by omega) h h2
      have : k = 0 ∨ k = 1 := by omega
      rcases this with rfl | rfl
      · exact Or.inl rfl
      · exact Or.inr (Or.inl rfl)
theorem zin00 : f_X11_in 0 0 1 = some 1 := by decide
theorem zin10 : f_X11_in 1 0 1 = some 1 := by decide
theorem zdo_suffers : sim_suffers Inv := by
  intro σ τ hI x y
  obtain ⟨-, -, -, -, T, m, a1, a2, a3, a4, a5, -, -⟩ := id hI
  obtain ⟨τ1, b1, b2, b3, b4, b5, b6, b7⟩ := zcop a3 a5
  have R := b7 σ 38 a4
  have h7 := zWV7 b4
  have hn := a1.1
  have hQ := Inv_q hI (zK_refl _) b1
  unfold f_X10_suffers f_X11_suffers
  rw [bind_eq b2, bind_eq (C_placeOf h7 R.1 R.2.2.2.2.2.1 _)]
  rcases zwho b4 x with ⟨j, hj, rfl⟩ | ⟨c, hc, rfl, hp⟩ | ⟨hx, hp⟩
  · obtain ⟨e1, e2⟩ := cN_eq b4 hj
    have hcase : f_X11_isCase τ1 (τ1.1 27 j) = some 1 := by rw [e1]; exact M_isCase_t b3 a1 e2
    have hpl := zpO_at b4 hj
    rw [hpl, if_neg (nI_ne_m1 (by omega)), bind_eq hcase, if_neg n10, bind_eq (M_isOn h7 b4.2.2.1 _), hpl, if_neg (nI_ne_m1 (by omega)), if_neg n10]
    rcases z01 y with rfl | rfl | ⟨hy, hy'⟩
    · obtain ⟨σ', d1, d2⟩ := C_suf a2 a1 R b4 (by omega) hj
      obtain ⟨τ', g1, g2⟩ := M_sufferAt' b3 a1 b4 hj
      rw [if_pos rfl, bind_eq (C_aheadOf R h7 hj), bnd2_eq d2, bind_eq zin00, if_neg n10, if_pos rfl, bind_eq (M_placeOf h7 b4.2.2.1 _), hpl, bnd2_eq g2]
      exact ⟨_, _, _, rfl, rfl, Inv_q hI (zK_frj d1) (zSc_trans b1 (zSc_fl g1))⟩
    · have ha : j = 0 ∨ cN (τ1.1 27) (j - 1) < tn T := by
        by_cases z : j = 0
        · exact Or.inl z
        · exact Or.inr (cN_eq b4 (by omega)).2
      have ha' : j = 0 ∨ (cN (τ1.1 27) (j - 1) < tn T ∧ τ1.1 27 (j - 1) = nI (cN (τ1.1 27) (j - 1))) := by
        by_cases z : j = 0
        · exact Or.inl z
        · exact Or.inr ⟨(cN_eq b4 (by omega)).2, (cN_eq b4 (by omega)).1⟩
      have k1 := C_kindOf a2 a1 R h7 hj e2 ha
      rw [← e1, ← ahd_ahN b4 hj] at k1
      have k2 := M_kindAt b3 a1 b4 hj e1 e2 ha'
      rw [if_neg n10, if_pos rfl, bind_eq (C_aheadOf R h7 hj), bind_eq k1, bind_eq zin10, if_neg n10, if_neg n10, bind_eq (M_placeOf h7 b4.2.2.1 _), hpl, bind_eq k2]
      exact ⟨_, _, _, rfl, rfl, hQ⟩
    · have y0 : ¬ y = 0 := fun z => by rw [z] at hy'; revert hy'; decide
      have y1 : ¬ y = 1 := fun z => by rw [z] at hy'; revert hy'; decide
      rw [if_neg y0, if_neg y1, bind_eq hy, if_pos rfl]
      exact ⟨_, _, _, rfl, rfl, hQ⟩
  · rw [hp, if_pos rfl, bind_eq (M_isCase_t b3 a1 hc), if_neg n10, bind_eq (M_isOn h7 b4.2.2.1 _), hp, if_pos rfl, if_pos rfl]
    exact ⟨_, _, _, rfl, rfl, hQ⟩
  · rw [hp, if_pos rfl, bind_eq (M_isCase_f b3 a1 hx), if_pos rfl]
    exact ⟨_, _, _, rfl, rfl, hQ⟩
theorem zdo_tells : sim_tells Inv := by
  intro σ τ hI x d y
  obtain ⟨-, -, -, -, T, m, a1, a2, a3, a4, a5, -, -⟩ := id hI
  obtain ⟨τ1, b1, b2, b3, b4, b5, b6, b7⟩ := zcop a3 a5
  have R := b7 σ 38 a4
  have h7 := zWV7 b4
  have hn := a1.1
  have hQ := Inv_q hI (zK_refl _) b1
  unfold f_X10_tells f_X11_tells
  rcases zcase hn x with ⟨c, hc, rfl⟩ | hx
  · rw [bind_eq (C_has a2 a1 hc), if_neg n10, bind_eq (M_isCase_t a3 a1 hc), if_neg n10]
    by_cases d0 : d < 0
    · rw [if_pos d0, bind_eq (zin_l d0), if_pos rfl]
      exact ⟨_, _, _, rfl, rfl, hI⟩
    · rw [if_neg d0]
      by_cases d1 : (99 : Int32) < d
      · rw [if_pos d1, bind_eq (zin_r d1), if_pos rfl]
        exact ⟨_, _, _, rfl, rfl, hI⟩
      · rw [if_neg d1, bind_eq (zin_t d0 d1), if_neg n10, bind_eq b2]
        by_cases y0 : y < 0
        · have n0 : ¬ y = 0 := fun z => by rw [z] at y0; revert y0; decide
          have n1 : ¬ y = 1 := fun z => by rw [z] at y0; revert y0; decide
          have n2 : ¬ y = 2 := fun z => by rw [z] at y0; revert y0; decide
          rw [if_pos y0, if_neg n0, if_neg n1, if_neg n2]
          exact ⟨_, _, _, rfl, rfl, hQ⟩
        · rw [if_neg y0]
          by_cases y1 : y ≤ 2
          · obtain ⟨k, k1, rfl⟩ := znat (N := 2) (by omega) y0 (Int32.not_lt.mpr y1)
            obtain ⟨σ1, s1, s2, s3⟩ := C_seatAsListed a2 a1 R b4 (by omega) hc
            obtain ⟨σ2, t1, t2, t3⟩ := C_sentence (k := k) (d := d) (vs := VV T (τ1.1 27) c (plc (τ1.1 27) m c) (plp (τ1.1 27) m c) d) (TxC_fr s1 (by omega) a2) a1 (by omega) rfl (fun k hk h0 => s3 _ k hk h0)
            have hPL := PL_pO (c := c) b4
            rw [if_pos y1, bind_eq s2, bnd2_eq t2]
            have hz := zK_frj (fr_trans (fr_mono s1 (by omega) (by omega)) t1)
            have : k = 0 ∨ k = 1 ∨ k = 2 := by omega
            rcases this with rfl | rfl | rfl
            · obtain ⟨τ', e1, e2⟩ := M_doomOf (d := d) b3 a1 hc hPL
              rw [if_pos (by decide), bind_eq (M_placeOf h7 b4.2.2.1 _), bnd2_eq e2]
              exact ⟨_, _, _, rfl, rfl, Inv_q hI hz (zSc_trans b1 (zSc_fl e1))⟩
            · obtain ⟨τ', e1, e2⟩ := M_pleaOf (d := d) b3 a1 hc hPL
              rw [if_neg (by decide), if_pos (by decide), bind_eq (M_placeOf h7 b4.2.2.1 _), bnd2_eq e2]
              exact ⟨_, _, _, rfl, rfl, Inv_q hI hz (zSc_trans b1 (zSc_fl e1))⟩
            · obtain ⟨τ', e1, e2⟩ := M_feeOf (d := d) b3 a1 hc hPL
              rw [if_neg (by decide), if_neg (by decide), if_pos (by decide), bind_eq (M_placeOf h7 b4.2.2.1 _), bnd2_eq e2]
              exact ⟨_, _, _, rfl, rfl, Inv_q hI hz (zSc_trans b1 (zSc_fl e1))⟩
          · have n0 : ¬ y = 0 := fun z => y1 (by rw [z]; decide)
            have n1 : ¬ y = 1 := fun z => y1 (by rw [z]; decide)
            have n2 : ¬ y = 2 := fun z => y1 (by rw [z]; decide)
            rw [if_neg y1, if_neg n0, if_neg n1, if_neg n2]
            exact ⟨_, _, _, rfl, rfl, hQ⟩
  · rw [bind_eq (C_has_f a2 hx), if_pos rfl, bind_eq (M_isCase_f a3 a1 hx), if_pos rfl]
    exact ⟨_, _, _, rfl, rfl, hI⟩
theorem zdo_behind : sim_behind Inv := by
  intro σ τ hI x
  obtain ⟨-, -, -, -, T, m, a1, a2, a3, a4, a5, -, -⟩ := id hI
  obtain ⟨τ1, b1, b2, b3, b4, b5, b6, b7⟩ := zcop a3 a5
  have R := b7 σ 38 a4
  have h7 := zWV7 b4
  have hQ := Inv_q hI (zK_refl _) b1
  unfold f_X10_behind f_X11_behind
  rw [bind_eq b2, bind_eq (C_isListed h7 R _)]
  rcases zwho b4 x with ⟨j, hj, rfl⟩ | ⟨c, hc, rfl, hp⟩ | ⟨hx, hp⟩
  · obtain ⟨e1, e2⟩ := cN_eq b4 hj
    have hcase : f_X11_isCase τ1 (τ1.1 27 j) = some 1 := by rw [e1]; exact M_isCase_t b3 a1 e2
    have hpl := zpO_at b4 hj
    rw [hpl, if_neg (nI_ne_m1 (by omega)), if_neg n10, bind_eq hcase, if_neg n10, bind_eq (M_isOn h7 b4.2.2.1 _), hpl, if_neg (nI_ne_m1 (by omega)), if_neg n10, bind_eq (M_placeOf h7 b4.2.2.1 _), hpl, if_ib b726, c7, b4.2.2.1, ← nI_succ, bind_eq (C_behind_in R b4 hj)]
    by_cases h : j + 1 < m
    · have n1 : ¬ nI m ≤ nI (j + 1) := fun z => by have := (nI_leN (by omega) (by omega)).mp z; omega
      have n2 : ¬ τ1.1 27 (j + 1) = -1 := fun e => by
        obtain ⟨k, k1, k2⟩ := b4.2.2.2.1 (j + 1) h
        rw [k2] at e
        exact nI_ne_m1 (by have := b4.2.1; omega) e
      rw [if_pos h, if_neg n2, if_neg n1, bind_eq (M_placeOf h7 b4.2.2.1 _), hpl, ← nI_succ, if_ib (ib_t (show j + 1 < 26 by omega) (by omega)), nI_clamp (show j + 1 < 2 ^ 31 by omega)]
      exact ⟨_, _, rfl, rfl, hQ⟩
    · rw [if_neg h, if_pos rfl, if_pos ((nI_leN (by omega) (by omega)).mpr (by omega))]
      exact ⟨_, _, rfl, rfl, hQ⟩
  · rw [hp, if_pos rfl, if_pos rfl, bind_eq (M_isCase_t b3 a1 hc), if_neg n10, bind_eq (M_isOn h7 b4.2.2.1 _), hp, if_pos rfl, if_pos rfl]
    exact ⟨_, _, rfl, rfl, hQ⟩
  · rw [hp, if_pos rfl, if_pos rfl, bind_eq (M_isCase_f b3 a1 hx), if_pos rfl]
    exact ⟨_, _, rfl, rfl, hQ⟩
