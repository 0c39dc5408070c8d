/-! STAGE B, 38: where to ask -/
def zAk0 : St × Int32 → Option ((St × Int32) ⊕ (St)) :=
  un2 (fun (σ31_11 : St) (x3_31_11 : Int32) => if (7 : Int32) ≤ x3_31_11 then (some (.inr σ31_11)) else (if ib x3_31_11 7 = true then wlet (si σ31_11 35 (Int32.toNatClampNeg x3_31_11) (0 : Int32)) fun σ50 => wlet (x3_31_11 + (1 : Int32)) fun v51 => some (.inl (σ50, v51)) else none))
def zAk1 (x1 : Int32) (x2 : Int32) : St × Int32 × Int32 → Option ((St × Int32 × Int32) ⊕ (St × Int32)) :=
  un3 (fun (σ55_12 : St) (x3_55_12 : Int32) (x4_55_12 : Int32) => if x4_55_12 = 0 then (some (.inr (σ55_12, x3_55_12))) else (bnd2 (f_X11_doesFit σ55_12 x1) fun v30 σ31 => wlet (fun (σ_114_32 : St) (x3_114_32 : Int32) => (bnd2 (f_X11_nextOrder σ_114_32) fun v34 σ35 => some (.inl (σ35, x3_114_32, v34)) : Option ((St × Int32 × Int32) ⊕ (St × Int32)))) fun k114_32 => if v30 = 0 then (k114_32 σ31 x3_55_12) else (wlet (x3_55_12 + (1 : Int32)) fun v37 => wlet (un2 (fun (σ74_38 : St) (x5_74_38 : Int32) => if ib (7 : Int32) 26 = true then if (σ74_38.1 27 (Int32.toNatClampNeg (7 : Int32))) ≤ x5_74_38 then (some (.inr σ74_38)) else (if ib x5_74_38 7 = true then if (σ74_38.1 34 (Int32.toNatClampNeg x5_74_38)) < x2 then (wlet (x5_74_38 + (1 : Int32)) fun v43 => some (.inl (σ74_38, v43))) else (if ib x5_74_38 7 = true then if ib x5_74_38 7 = true then wlet (si σ74_38 35 (Int32.toNatClampNeg x5_74_38) ((σ74_38.1 35 (Int32.toNatClampNeg x5_74_38)) + (1 : Int32))) fun σ46 => wlet (x5_74_38 + (1 : Int32)) fun v47 => some (.inl (σ46, v47)) else none else none) else none) else none) : St × Int32 → Option ((St × Int32) ⊕ (St))) fun st74_38 => Option.bind (lp st74_38 fuel (σ31, (0 : Int32))) ((fun (σe74_38 : St) => k114_32 σe74_38 v37)))))
def zAk2 (x2 : Int32) : St × Int32 → Option ((St × Int32) ⊕ (St)) :=
  un2 (fun (σ74_38 : St) (x5_74_38 : Int32) => if ib (7 : Int32) 26 = true then if (σ74_38.1 27 (Int32.toNatClampNeg (7 : Int32))) ≤ x5_74_38 then (some (.inr σ74_38)) else (if ib x5_74_38 7 = true then if (σ74_38.1 34 (Int32.toNatClampNeg x5_74_38)) < x2 then (wlet (x5_74_38 + (1 : Int32)) fun v43 => some (.inl (σ74_38, v43))) else (if ib x5_74_38 7 = true then if ib x5_74_38 7 = true then wlet (si σ74_38 35 (Int32.toNatClampNeg x5_74_38) ((σ74_38.1 35 (Int32.toNatClampNeg x5_74_38)) + (1 : Int32))) fun σ46 => wlet (x5_74_38 + (1 : Int32)) fun v47 => some (.inl (σ46, v47)) else none else none) else none) else none)
def zAk3 (σe55_12 : St) (x3_e55_12 : Int32) : Int32 × Int32 × Int32 → Option ((Int32 × Int32 × Int32) ⊕ (Int32)) :=
  un3 (fun (x5_133_13 : Int32) (x6_133_13 : Int32) (x7_133_13 : Int32) => if ib (7 : Int32) 26 = true then if (σe55_12.1 27 (Int32.toNatClampNeg (7 : Int32))) ≤ x7_133_13 then (some (.inr x5_133_13)) else (if x3_e55_12 ≤ 0 then (some (.inr x5_133_13)) else (if ib x7_133_13 7 = true then if ib x7_133_13 7 = true then wlet (fun (s0_187_19 : Int32) => (if x5_133_13 < 0 then (wlet (x7_133_13 + (1 : Int32)) fun v21 => some (.inl (x7_133_13, s0_187_19, v21))) else (if s0_187_19 < x6_133_13 then (wlet (x7_133_13 + (1 : Int32)) fun v23 => some (.inl (x7_133_13, s0_187_19, v23))) else (wlet (x7_133_13 + (1 : Int32)) fun v24 => some (.inl (x5_133_13, x6_133_13, v24)))) : Option ((Int32 × Int32 × Int32) ⊕ (Int32)))) fun k187_19 => if (σe55_12.1 35 (Int32.toNatClampNeg x7_133_13)) ≤ (x3_e55_12 - (σe55_12.1 35 (Int32.toNatClampNeg x7_133_13))) then (if ib x7_133_13 7 = true then k187_19 (x3_e55_12 - (σe55_12.1 35 (Int32.toNatClampNeg x7_133_13))) else none) else (if ib x7_133_13 7 = true then k187_19 (σe55_12.1 35 (Int32.toNatClampNeg x7_133_13)) else none) else none else none)) else none)
def zPa (σ : St) (x1 : Int32) : Int32 × Int32 × Int32 → Option ((Int32 × Int32 × Int32) ⊕ (Int32)) :=
  un3 (fun (x2_8_1 : Int32) (x3_8_1 : Int32) (x4_8_1 : Int32) => if x1 ≤ x4_8_1 then (some (.inr x2_8_1)) else (if (7 : Int32) ≤ x4_8_1 then (some (.inr x2_8_1)) else (if ib x4_8_1 7 = true then if ib x4_8_1 7 = true then wlet (mx (σ.1 35 (Int32.toNatClampNeg x4_8_1)) ((σ.1 31 5) - (σ.1 35 (Int32.toNatClampNeg x4_8_1)))) fun v6 => if x2_8_1 = (-2 : Int32) then (wlet (x4_8_1 + (1 : Int32)) fun v8 => some (.inl (x4_8_1, v6, v8))) else (if x3_8_1 ≤ v6 then (wlet (x4_8_1 + (1 : Int32)) fun v10 => some (.inl (x2_8_1, x3_8_1, v10))) else (wlet (x4_8_1 + (1 : Int32)) fun v11 => some (.inl (x4_8_1, v6, v11)))) else none else none)))
theorem M_ak0 (τ : St) : ∃ τ', zSc τ τ' ∧ lp zAk0 fuel (τ, 0) = some τ' ∧ τ'.1 27 = τ.1 27 ∧ ∀ j, j < 7 → τ'.1 35 j = 0 := by
  obtain ⟨s1, q1, f1, r0, r1⟩ := zinv (st := zAk0) (s0 := (τ, 0)) (fun t x => zSc τ x.1 ∧ x.2 = nI t ∧ x.1.1 27 = τ.1 27 ∧ ∀ j, j < t → x.1.1 35 j = 0) (fun r => zSc τ r ∧ r.1 27 = τ.1 27 ∧ ∀ j, j < 7 → r.1 35 j = 0) 7 (by omega) ⟨zSc_refl _, rfl, rfl, fun j hj => absurd hj (Nat.not_lt_zero _)⟩ (by
    rintro t ⟨x, y⟩ ht ⟨h1, h2, h4, h3⟩
    have h2 : y = nI t := h2
    subst h2
    have n1 : ¬ (7 : Int32) ≤ nI t := fun z => by have := (nI_leN (a := 7) (by omega) (by omega)).mp z; omega
    refine Or.inl ⟨(si x 35 t 0, nI (t + 1)), ?_, zSc_trans h1 (zSc_si (by omega)), rfl, ?_, fun j hj => ?_⟩
    · unfold zAk0
      dsimp only [un2]
      rw [if_neg n1, if_ib (ib_t (show t < 7 by omega) (by omega)), nI_clamp (show t < 2 ^ 31 by omega), wlet_eq, wlet_eq, nI_succ]
    · show (si x 35 t 0).1 27 = _
      rw [si_ne (by omega)]; exact h4
    · show (si x 35 t 0).1 35 j = 0
      rw [si_get]
      by_cases e : j = t
      · rw [if_pos ⟨rfl, e⟩]
      · rw [if_neg (fun z => e z.2)]; exact h3 j (by omega)) (by
    rintro ⟨x, y⟩ ⟨h1, h2, h4, h3⟩
    have h2 : y = nI 7 := h2
    subst h2
    refine ⟨x, ?_, h1, h4, h3⟩
    unfold zAk0
    dsimp only [un2]
    rw [if_pos (by decide)])
  exact ⟨s1, f1, q1, r0, r1⟩
theorem M_ak2 {τ : St} {T : Tx} {n m : Nat} {W : Nat → Int32} {v : Int32} (hW : WV n m W) (h27 : τ.1 27 = W) (h34 : ∀ i, i < m → τ.1 34 i = sufAt T W m i) : ∃ τ', zSc τ τ' ∧ lp (zAk2 v) fuel (τ, 0) = some τ' ∧ τ'.1 27 = W ∧ ∀ j, j < m → τ'.1 35 j = zre T W m v (τ.1 35) j := by
  have h7 := zWV7 hW
  obtain ⟨s1, q1, f1, r0, r1⟩ := zinv (st := zAk2 v) (s0 := (τ, 0)) (fun t x => zSc τ x.1 ∧ x.2 = nI t ∧ x.1.1 27 = W ∧ x.1.1 34 = τ.1 34 ∧ (∀ j, j < t → x.1.1 35 j = zre T W m v (τ.1 35) j) ∧ ∀ j, t ≤ j → x.1.1 35 j = τ.1 35 j) (fun r => zSc τ r ∧ r.1 27 = W ∧ ∀ j, j < m → r.1 35 j = zre T W m v (τ.1 35) j) m (by omega) ⟨zSc_refl _, rfl, h27, rfl, fun j hj => absurd hj (Nat.not_lt_zero _), fun _ _ => rfl⟩ (by
    rintro t ⟨x, y⟩ ht ⟨h1, h2, h5, h6, h3, h4⟩
    have h2 : y = nI t := h2
    subst h2
    have h1 : zSc τ x := h1
    have h3 : ∀ j, j < t → x.1 35 j = zre T W m v (τ.1 35) j := h3
    have h4 : ∀ j, t ≤ j → x.1 35 j = τ.1 35 j := h4
    have h5 : x.1 27 = W := h5
    have h6 : x.1 34 = τ.1 34 := h6
    have n1 : ¬ nI m ≤ nI t := fun z => by have := (nI_leN (by omega) (by omega)).mp z; omega
    have bt : ib (nI t) 7 = true := ib_t (by omega) (by omega)
    have gt : (nI t).toNatClampNeg = t := nI_clamp (by omega)
    refine Or.inl ?_
    unfold zAk2
    dsimp only [un2]
    rw [if_ib b726, c7, h5, hW.2.2.1, if_neg n1, if_ib bt, gt, h6, h34 t ht]
    by_cases q : sufAt T W m t < v
    · refine ⟨(x, nI (t + 1)), by rw [if_pos q, wlet_eq, nI_succ], h1, rfl, h5, h6, fun j hj => ?_, fun j hj => h4 j (by omega)⟩
      by_cases e : j = t
      · show x.1 35 j = _
        rw [e, h4 t (Nat.le_refl _)]
        unfold zre
        rw [if_pos q]
      · exact h3 j (by omega)
    · refine ⟨(si x 35 t (τ.1 35 t + 1), nI (t + 1)), ?_, zSc_trans h1 (zSc_si (by omega)), rfl, ?_, ?_, fun j hj => ?_, fun j hj => ?_⟩
      · rw [if_neg q, if_ib bt, if_ib bt, wlet_eq, wlet_eq, h4 t (Nat.le_refl _), nI_succ]
      · show (si x 35 t (τ.1 35 t + 1)).1 27 = _
        rw [si_ne (by omega)]; exact h5
      · show (si x 35 t (τ.1 35 t + 1)).1 34 = _
        rw [si_ne (by omega)]; exact h6
      · show (si x 35 t (τ.1 35 t + 1)).1 35 j = _
        rw [si_get]
        by_cases e : j = t
        · rw [if_pos ⟨rfl, e⟩, e]
          unfold zre
          rw [if_neg q]
        · rw [if_neg (fun z => e z.2)]; exact h3 j (by omega)
      · show (si x 35 t (τ.1 35 t + 1)).1 35 j = _
        rw [si_get, if_neg (by omega)]; exact h4 j (by omega)) (by
    rintro ⟨x, y⟩ ⟨h1, h2, h5, h6, h3, h4⟩
    have h2 : y = nI m := h2
    subst h2
    have h5 : x.1 27 = W := h5
    refine ⟨x, ?_, h1, h5, h3⟩
    unfold zAk2
    dsimp only [un2]
    rw [if_ib b726, c7, h5, hW.2.2.1, if_pos ((nI_leN (by omega) (by omega)).mpr (Nat.le_refl _))])
  exact ⟨s1, f1, q1, r0, r1⟩
theorem zmxle (a b : Int32) : mx a b = if a ≤ b then b else a := by
  unfold mx
  by_cases h : a < b
  · rw [if_pos h, if_pos (Int32.le_of_lt h)]
  · rw [if_neg h]
    by_cases h2 : a ≤ b
    · rw [if_pos h2]; exact Int32.le_antisymm h2 (Int32.not_lt.mp h)
    · rw [if_neg h2]
/-- the place to ask, side by side -/
theorem zpick {σ τ : St} {n m c : Nat} (hW : WV n m (τ.1 27)) (h5 : σ.1 31 5 = nI c) (hc0 : 0 < c) (hc : c < 2 ^ 31) (h35 : ∀ j, j < m → σ.1 35 j = τ.1 35 j) : ∃ v, f_X9_placeToAsk σ (nI m) = some v ∧ lp (zAk3 τ (nI c)) fuel (-2, 0, 0) = some v := by
  have h7 := zWV7 hW
  obtain ⟨r, r', q1, q2, q3⟩ := lp_sim (s1 := zPa σ (nI m)) (s2 := zAk3 τ (nI c)) (fun k s t => s = t ∧ ∃ i, i + k = m ∧ s.2.2 = nI i ∧ (s.1 = -2 ∨ ∃ p, p < 100 ∧ s.1 = nI p)) (fun r r' => r = r') (by
    rintro k ⟨w, f, x⟩ t ⟨rfl, i, h1, h2, h3⟩
    have h2 : x = nI i := h2
    subst h2
    have h3 : w = -2 ∨ ∃ p, p < 100 ∧ w = nI p := h3
    cases k with
    | zero =>
      have hi : nI m ≤ nI i := (nI_leN (by omega) (by omega)).mpr (by omega)
      refine Or.inr ⟨w, w, ?_, ?_, rfl⟩
      · unfold zPa
        dsimp only [un3]
        rw [if_pos hi]
      · unfold zAk3
        dsimp only [un3]
        rw [if_ib b726, c7, hW.2.2.1, if_pos hi]
    | succ k =>
      have n1 : ¬ nI m ≤ nI i := fun z => by have := (nI_leN (by omega) (by omega)).mp z; omega
      have n2 : ¬ (7 : Int32) ≤ nI i := fun z => by have := (nI_leN (a := 7) (by omega) (by omega)).mp z; omega
      have n3 : ¬ nI c ≤ (0 : Int32) := fun z => by have := (nI_leN (b := 0) (by omega) (by omega)).mp z; omega
      have bi : ib (nI i) 7 = true := ib_t (by omega) (by omega)
      have gi : (nI i).toNatClampNeg = i := nI_clamp (by omega)
      generalize hu : mx (τ.1 35 i) (nI c - τ.1 35 i) = u
      have hC : zPa σ (nI m) (w, f, nI i) = if w = -2 then some (.inl (nI i, u, nI (i + 1))) else if f ≤ u then some (.inl (w, f, nI (i + 1))) else some (.inl (nI i, u, nI (i + 1))) := by
        unfold zPa
        dsimp only [un3]
        rw [if_neg n1, if_neg n2, if_ib bi, if_ib bi, gi, h5, h35 i (by omega), hu, wlet_eq, nI_succ]
        rfl
      have hM : zAk3 τ (nI c) (w, f, nI i) = if w < 0 then some (.inl (nI i, u, nI (i + 1))) else if u < f then some (.inl (nI i, u, nI (i + 1))) else some (.inl (w, f, nI (i + 1))) := by
        rw [zmxle] at hu
        unfold zAk3
        dsimp only [un3]
        rw [if_ib b726, c7, hW.2.2.1, if_neg n1, if_neg n3, if_ib bi, if_ib bi, gi, wlet_eq, nI_succ]
        by_cases q : τ.1 35 i ≤ nI c - τ.1 35 i
        · rw [if_pos q] at hu
          rw [if_pos q, if_ib bi, hu]
          rfl
        · rw [if_neg q] at hu
          rw [if_neg q, if_ib bi, hu]
          rfl
      rcases h3 with h3 | ⟨p, p1, p2⟩
      · refine Or.inl ⟨(nI i, u, nI (i + 1)), (nI i, u, nI (i + 1)), k, ?_, ?_, by omega, rfl, i + 1, by omega, rfl, Or.inr ⟨i, by omega, rfl⟩⟩
        · rw [hC, if_pos h3]
        · rw [hM, if_pos (show w < 0 by rw [h3]; decide)]
      · have e1 : ¬ w = -2 := by rw [p2]; exact nI_ne_m2 (by omega)
        have e2 : ¬ w < 0 := by rw [p2]; exact nI_pos (by omega)
        by_cases q : u < f
        · refine Or.inl ⟨(nI i, u, nI (i + 1)), (nI i, u, nI (i + 1)), k, ?_, ?_, by omega, rfl, i + 1, by omega, rfl, Or.inr ⟨i, by omega, rfl⟩⟩
          · rw [hC, if_neg e1, if_neg (Int32.not_le.mpr q)]
          · rw [hM, if_neg e2, if_pos q]
        · refine Or.inl ⟨(w, f, nI (i + 1)), (w, f, nI (i + 1)), k, ?_, ?_, by omega, rfl, i + 1, by omega, rfl, Or.inr ⟨p, p1, p2⟩⟩
          · rw [hC, if_neg e1, if_pos (Int32.not_lt.mp q)]
          · rw [hM, if_neg e2, if_neg q]) fuel m (-2, 0, 0) (-2, 0, 0) ⟨rfl, 0, by omega, rfl, Or.inl rfl⟩ (by rw [fuel_eq]; omega)
  subst q3
  refine ⟨r, ?_, q2⟩
  unfold f_X9_placeToAsk
  rw [wlet_eq]
  exact (bind_eq q1).trans rfl
theorem zdo_ask : sim_ask Inv := by
  intro σ τ hI x y
  obtain ⟨-, -, i3, -, T, m, a1, a2, a3, a4, a5, -, -⟩ := id hI
  obtain ⟨P, Va, Q, t, hT, t51⟩ := zTd_of i3
  obtain ⟨τ1, b1, b2, b3, b4, b5, b6, b7⟩ := zcop a3 a5
  have R := b7 σ 38 a4
  have ht := hT.1
  have h7 := zWV7 b4
  unfold f_X10_ask f_X11_ask
  rw [hT.2.1, t51]
  by_cases x0 : x < 0
  · rw [if_pos x0, bind_eq (zin_l x0), if_pos rfl]
    exact ⟨_, _, _, rfl, rfl, hI⟩
  rw [if_neg x0]
  by_cases xt : nI t < x
  · rw [if_pos xt, bind_eq (zin_r xt), if_pos rfl]
    exact ⟨_, _, _, rfl, rfl, hI⟩
  rw [if_neg xt, bind_eq (zin_t x0 xt), if_neg n10]
  obtain ⟨kk, kt, rfl⟩ := znat (N := t) (by omega) x0 xt
  by_cases y0 : y < 0
  · rw [if_pos y0, bind_eq (M_isMark_f (Or.inl y0)), if_pos rfl]
    exact ⟨_, _, _, rfl, rfl, hI⟩
  rw [if_neg y0]
  by_cases y9 : y ≤ 999
  · rw [if_pos y9, bind_eq (M_isMark_t y0 (Int32.not_lt.mpr y9)), if_neg n10, bind_eq b2]
    obtain ⟨σ1, W0, K, c1, c2, c3, c4, c5⟩ := zlay a2 a1 b3 R b4
    obtain ⟨σ2, e1, e2, e3, e4, e5⟩ := C_fbegin (σ := σ1) (nI kk) y
    obtain ⟨τ2, g1, g2, g3, g4⟩ := M_ak0 (sc τ1 27 W0)
    have hA : zAl T (τ1.1 27) m K σ2 τ2 := by
      obtain ⟨W, w1, w2, w3⟩ := c5
      exact ⟨W, w1, zO_cell w2 (by rw [e2.1 25 (by omega)]) (e2.1 26 (by omega)) (e2.1 27 (by omega)) (e2.1 28 (by omega)), g3.trans w3⟩
    have k2 : zSc τ1 τ2 := zSc_trans (zSc_Lc (zLc_sc τ1 W0)) g1
    have hM0 : TxM τ2 T := zTxM_Sc k2 b3
    have hT0 : zTd P Va Q t σ2 τ2 := zTd_q (zK_trans c3 e1) (zSc_trans b1 k2) hT
    obtain ⟨r, r', q1, q2, τ', cn, rfl, f1, f2, f3, f4, f5, f6⟩ := lp_sim (s1 := zSk2 (nI kk) y) (s2 := zAk1 (nI kk) y) (fun k s u => ∃ i c, zK σ2 s.1 ∧ zSc τ2 u.1 ∧ s.2.2 = nI i ∧ i ≤ 5040 ∧ c ≤ i ∧ s.1.1 31 5 = nI c ∧ u.2.1 = nI c ∧ (∀ j, j < m → s.1.1 35 j = u.1.1 35 j) ∧ (∃ W, WV (tn T) m W ∧ u.1.1 27 = W) ∧ ((k = 0 ∧ s.2.1 = 0 ∧ u.2.2 = 0) ∨ (∃ k', k = k' + 1 ∧ s.2.1 = 1 ∧ u.2.2 = 1 ∧ i + k' < 5040 ∧ zAl T (τ1.1 27) m k' s.1 u.1))) (fun r r' => ∃ (τ' : St) (cn : Nat), r' = (τ', nI cn) ∧ zK σ2 r ∧ zSc τ2 τ' ∧ cn ≤ 5040 ∧ r.1 31 5 = nI cn ∧ (∀ j, j < m → r.1 35 j = τ'.1 35 j) ∧ WV (tn T) m (τ'.1 27)) (by
      rintro k ⟨s, mo, j⟩ ⟨u, cn, mo'⟩ ⟨i, c, h1, h2, h3, h4, h5, h6, h8, h9, ⟨W1, hW1, hW2⟩, h10⟩
      have h3 : j = nI i := h3
      have h8 : cn = nI c := h8
      subst h3 h8
      have h1 : zK σ2 s := h1
      have h2 : zSc τ2 u := h2
      have h6 : s.1 31 5 = nI c := h6
      have h9 : ∀ j, j < m → s.1 35 j = u.1 35 j := h9
      have hW2 : u.1 27 = W1 := hW2
      rcases h10 with ⟨rfl, g1, g2⟩ | ⟨k', rfl, g1, g2, g3, W, g4, g5, g6⟩
      · have g1 : mo = 0 := g1
        have g2 : mo' = 0 := g2
        subst g1 g2
        refine Or.inr ⟨s, (u, nI c), ?_, ?_, u, c, rfl, h1, h2, by omega, h6, h9, by rw [hW2]; exact hW1⟩
        · unfold zSk2
          dsimp only [un3]
          by_cases q : (5040 : Int32) ≤ nI i
          · rw [if_pos q]
          · rw [if_neg q, if_pos rfl]
        · unfold zAk1
          dsimp only [un3]
          rw [if_pos rfl]
      · have g1 : mo = 1 := g1
        have g2 : mo' = 1 := g2
        subst g1 g2
        have g5 : zO T (τ1.1 27) m s W := g5
        have g6 : u.1 27 = W := g6
        have hTs : zTd P Va Q t s u := zTd_q h1 h2 hT0
        obtain ⟨s', p1, p2, p3, p4⟩ := C_fstep (v := y) a1.1 g5 hTs kt (show i < 5040 by omega)
        obtain ⟨u', d1, d2, d35, d34, d3⟩ := M_doesFit (zTxM_Sc h2 hM0) a1 (by rw [g6]; exact g5.2.2.1) hTs kt
        rw [g6] at d2 d3 d34
        have key : ∃ (c' : Nat) (u2 : St), c' ≤ i + 1 ∧ zSc u' u2 ∧ u2.1 27 = W ∧ s'.1 31 5 = nI c' ∧ (∀ j, j < m → s'.1 35 j = u2.1 35 j) ∧ zAk1 (nI kk) y (u, nI c, 1) = (bnd2 (f_X11_nextOrder u2) fun v34 σ35 => some (.inl (σ35, nI c', v34))) := by
          rcases p4 with ⟨p4, p5⟩ | ⟨p4, p5, p6, p7⟩
          · subst p5
            refine ⟨c, u', by omega, zSc_refl _, d2, h6, fun j hj => ?_, ?_⟩
            · rw [d35]; exact h9 j hj
            · rw [p4] at d3
              unfold zAk1
              dsimp only [un3]
              rw [if_neg n10, bnd2_eq d3, wlet_eq, if_pos rfl]
          · rw [p4] at d3
            obtain ⟨u2, l1, l2, l3, l4⟩ := M_ak2 (T := T) (v := y) g5.2.2.1 d2 d34
            refine ⟨c + 1, u2, by omega, l1, l3, by rw [p5, h6, nI_succ], fun j hj => ?_, ?_⟩
            · rw [p7 j hj, l4 j hj]
              unfold zre
              rw [d35, show s.1 35 j = u.1 35 j from h9 j hj]
            · unfold zAk1
              dsimp only [un3]
              rw [if_neg n10, bnd2_eq d3, wlet_eq, if_neg n10, wlet_eq, wlet_eq, ← nI_succ]
              exact (bind_eq l2).trans rfl
        obtain ⟨c', u2, k1, k6, k2, k3, k5, k4⟩ := key
        have hW' : WV (tn T) m W := g5.2.2.1
        rcases zstep p2 k2 with ⟨o1, o2, o3⟩ | ⟨W', L, o1, o2, o3, o4⟩
        · exact Or.inl ⟨_, _, 0, p3.trans (bnd2_eq o2), k4.trans (bnd2_eq o3), by omega, i + 1, c', zK_trans h1 p1, zSc_trans h2 (zSc_trans d1 k6), rfl, by omega, k1, k3, rfl, k5, ⟨W, hW', k2⟩, Or.inl ⟨rfl, rfl, rfl⟩⟩
        · cases k' with
          | zero => rw [show zmnx m W = none from g4] at o1; cases o1
          | succ k' =>
            obtain ⟨W2, w1, w2⟩ := g4
            rw [w1] at o1
            cases o1
            have l1 : zK s' (sc s' 28 L) := zK_fr (zfr_sc _ _ _ (by omega))
            exact Or.inl ⟨_, _, k' + 1, p3.trans (bnd2_eq o2), k4.trans (bnd2_eq o3), by omega, i + 1, c', zK_trans h1 (zK_trans p1 l1), zSc_trans h2 (zSc_trans d1 (zSc_trans k6 (zSc_Lc (zLc_sc _ _)))), rfl, by omega, k1, by show (sc s' 28 L).1 31 5 = _; rw [zsc_ne (by omega)]; exact k3, rfl, fun j hj => by show (sc s' 28 L).1 35 j = (sc u2 27 W').1 35 j; rw [zsc_ne (by omega), zsc_ne (by omega)]; exact k5 j hj, ⟨W', o4.2.2.1, zsc_eq _ _ _⟩, Or.inr ⟨k', rfl, rfl, rfl, by omega, W', w2, o4, zsc_eq _ _ _⟩⟩) fuel (K + 1) (σ2, 1, 0) (τ2, 0, 1) ⟨0, 0, zK_refl _, zSc_refl _, rfl, by omega, by omega, e3, rfl, fun j hj => by show σ2.1 35 j = τ2.1 35 j; rw [e4 j (by omega), g4 j (by omega)], (by obtain ⟨W, w1, w2, w3⟩ := hA; exact ⟨W, w2.2.2.1, w3⟩), Or.inr ⟨K, rfl, rfl, rfl, by omega, hA⟩⟩ (by rw [fuel_eq]; omega)
    have hzk := zK_trans c3 (zK_trans e1 f1)
    have hQ := Inv_q hI hzk (zSc_trans b1 (zSc_trans k2 f2))
    have hlis : r.1 38 3 = nI m := by rw [hzk.1 38 (by omega)]; exact a4.1
    rw [bind_eq c1, bind_eq (e5 r q1), hlis, bind_eq c2, wlet_eq]
    by_cases hc : cn = 0
    · subst hc
      refine ⟨-2, r, τ', by rw [if_pos (show r.1 31 5 = 0 by rw [f4]; rfl)], ?_, hQ⟩
      refine (bind_eq g2).trans ?_
      rw [wlet_eq]
      refine (bind_eq q2).trans ?_
      dsimp only [un2]
      rw [wlet_eq]
      have hz : lp (zAk3 τ' (nI 0)) fuel (-2, 0, 0) = some (-2) := by
        refine zrun (fun t => (-2, 0, nI t)) 0 (by omega) rfl (fun t ht => by omega) ?_
        unfold zAk3
        dsimp only [un3]
        rw [if_ib b726, c7, f6.2.2.1]
        by_cases w : nI m ≤ nI 0
        · rw [if_pos w]
        · rw [if_neg w, if_pos (by decide)]
      exact (bind_eq hz).trans rfl
    · obtain ⟨v, v1, v2⟩ := zpick (c := cn) f6 f4 (by omega) (by omega) f5
      refine ⟨v, r, τ', ?_, ?_, hQ⟩
      · rw [if_neg (show ¬ r.1 31 5 = 0 by rw [f4]; exact nI_ne0 (by omega) (by omega)), bind_eq v1]
      · refine (bind_eq g2).trans ?_
        rw [wlet_eq]
        refine (bind_eq q2).trans ?_
        dsimp only [un2]
        rw [wlet_eq]
        exact (bind_eq v2).trans rfl
  · rw [if_neg y9, bind_eq (M_isMark_f (Or.inr (Int32.not_le.mp y9))), if_pos rfl]
    exact ⟨_, _, _, rfl, rfl, hI⟩
