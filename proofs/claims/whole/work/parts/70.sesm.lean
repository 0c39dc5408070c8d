/-! STAGE B, 21: a session in the reference -/
/-- only cells 24, 25, 27, 28 and slot 42 differ -/
def zLc (τ τ' : St) : Prop := (∀ c, c ≠ 0 → c ≠ 24 → c ≠ 25 → c ≠ 27 → c ≠ 28 → τ'.1 c = τ.1 c) ∧ (∀ i, i ≠ 42 → τ'.1 0 i = τ.1 0 i) ∧ τ'.2 = τ.2
theorem zLc_refl (τ : St) : zLc τ τ := ⟨fun _ _ _ _ _ _ => rfl, fun _ _ => rfl, rfl⟩
theorem zLc_trans {a b c : St} (h : zLc a b) (h' : zLc b c) : zLc a c :=
  ⟨fun k a1 a2 a3 a4 a5 => (h'.1 k a1 a2 a3 a4 a5).trans (h.1 k a1 a2 a3 a4 a5), fun i h1 => (h'.2.1 i h1).trans (h.2.1 i h1), h'.2.2.trans h.2.2⟩
theorem zLc_fl {a b : St} (h : fl a b) : zLc a b := ⟨fun k a1 a2 a3 _ _ => h.1 k a1 a2 a3, h.2.1, h.2.2⟩
theorem zLc_si (τ : St) {c : Nat} (i : Nat) (v : Int32) (h : c = 27 ∨ c = 28) : zLc τ (si τ c i v) := by
  refine ⟨fun k a1 a2 a3 a4 a5 => si_ne (by omega), fun j h1 => ?_, rfl⟩
  rw [si_get, if_neg (by omega)]
theorem zLc_sc (τ : St) (f : Nat → Int32) : zLc τ (sc τ 27 f) := by
  refine ⟨fun k a1 a2 a3 a4 a5 => zsc_ne a4, fun j h1 => ?_, rfl⟩
  rw [zsc_ne (by omega)]
theorem zSc_Lc {a b : St} (h : zLc a b) : zSc a b := ⟨fun k a1 a2 a3 a4 a5 _ _ _ => h.1 k a1 a2 a3 a4 a5, fun i h1 _ _ => h.2.1 i h1, h.2.2⟩
theorem zTx_Lc {τ τ' : St} {T : Tx} (h : zLc τ τ') (hT : TxM τ T) : TxM τ' T := zTxM_Sc (zSc_Lc h) hT
def zMg1 : St × Int32 × Int32 × Int32 → Option ((St × Int32 × Int32 × Int32) ⊕ (St × Int32 × Int32)) :=
  un4 (fun (σ12_3 : St) (x1_12_3 : Int32) (x2_12_3 : Int32) (x3_12_3 : Int32) => if ib (7 : Int32) 26 = true then if (σ12_3.1 27 (Int32.toNatClampNeg (7 : Int32))) ≤ x3_12_3 then (some (.inr (σ12_3, x1_12_3, x2_12_3))) else (if ib x3_12_3 26 = true then wlet (σ12_3.1 27 (Int32.toNatClampNeg x3_12_3)) fun v46 => if ib (8 : Int32) 26 = true then Option.bind (f_X11_lotOf σ12_3 (((8 : Int32) * (σ12_3.1 27 (Int32.toNatClampNeg (8 : Int32)))) + v46)) fun v49 => bnd2 (f_X11_adjournsOf σ12_3 v46 x3_12_3) fun v51 σ52 => if v51 ≤ v49 then (Option.bind (f_X11_deedAt σ52 v46) fun v55 => wlet (x3_12_3 + (1 : Int32)) fun v56 => some (.inl (σ52, x1_12_3, v55, v56))) else (wlet (x1_12_3 ||| ((1 : Int32) <<< (v46 &&& 31))) fun v57 => wlet (x3_12_3 + (1 : Int32)) fun v58 => some (.inl (σ52, v57, x2_12_3, v58))) else none else none) else none)
def zMg2 : St × Int32 → Option ((St × Int32) ⊕ (St)) :=
  un2 (fun (σ83_4 : St) (x3_83_4 : Int32) => if ib (7 : Int32) 26 = true then if (σ83_4.1 27 (Int32.toNatClampNeg (7 : Int32))) ≤ x3_83_4 then (some (.inr σ83_4)) else (bnd2 (f_X11_sufferAt σ83_4 x3_83_4) fun v38 σ39 => if ib x3_83_4 7 = true then wlet (si σ39 28 (Int32.toNatClampNeg x3_83_4) v38) fun σ41 => wlet (x3_83_4 + (1 : Int32)) fun v42 => some (.inl (σ41, v42)) else none) else none)
def zMg3 (x1_e12_3 : Int32) (v6 : Int32) : St × Int32 × Int32 → Option ((St × Int32 × Int32) ⊕ (St × Int32)) :=
  un3 (fun (σ125_7 : St) (x3_125_7 : Int32) (x5_125_7 : Int32) => if v6 ≤ x5_125_7 then (some (.inr (σ125_7, x3_125_7))) else (if ib x5_125_7 26 = true then wlet (σ125_7.1 27 (Int32.toNatClampNeg x5_125_7)) fun v19 => if ib x5_125_7 26 = true then wlet (si σ125_7 27 (Int32.toNatClampNeg x5_125_7) (0 : Int32)) fun σ21 => if ((x1_e12_3 >>> (v19 &&& 31)) &&& (1 : Int32)) = (1 : Int32) then (if ib x3_125_7 26 = true then wlet (si σ21 27 (Int32.toNatClampNeg x3_125_7) v19) fun σ32 => wlet (x3_125_7 + (1 : Int32)) fun v33 => wlet (x5_125_7 + (1 : Int32)) fun v34 => some (.inl (σ32, v33, v34)) else none) else (if ib ((17 : Int32) + v19) 26 = true then if ib x5_125_7 7 = true then if ib ((17 : Int32) + v19) 26 = true then wlet (si σ21 27 (Int32.toNatClampNeg ((17 : Int32) + v19)) ((σ21.1 27 (Int32.toNatClampNeg ((17 : Int32) + v19))) + (σ21.1 28 (Int32.toNatClampNeg x5_125_7)))) fun σ26 => if ib (25 : Int32) 26 = true then if ib (25 : Int32) 26 = true then wlet (si σ26 27 (Int32.toNatClampNeg (25 : Int32)) ((σ26.1 27 (Int32.toNatClampNeg (25 : Int32))) + (1 : Int32))) fun σ29 => wlet (x5_125_7 + (1 : Int32)) fun v30 => some (.inl (σ29, x3_125_7, v30)) else none else none else none else none else none) else none else none))
theorem M_ses1 {τ : St} {m j : Nat} {T : Tx} (hT : TxM τ T) (hOK : TxOK T) (hW : WV (tn T) m (τ.1 27)) (hj : j < m) (b l : Int32) :
    ∃ s', fl τ s' ∧ zMg1 (τ, b, l, nI j) = some (.inl (s', (if zadj T (τ.1 0 45) (τ.1 27) j = true then b ||| ((1 : Int32) <<< (nI (cN (τ.1 27) j) &&& 31)) else b), (if zadj T (τ.1 0 45) (τ.1 27) j = true then l else nI (td T (cN (τ.1 27) j))), nI (j + 1))) := by
  have h7 := zWV7 hW
  obtain ⟨e1, e2⟩ := cN_eq hW hj
  have hPL := PL_on hW hj
  rw [ahd_ahN hW hj] at hPL
  obtain ⟨s', a1, a2⟩ := M_adjournsOf hT hOK e2 hPL
  have n2 : ¬ nI m ≤ nI j := fun z => by have := (nI_leN (by omega) (by omega)).mp z; omega
  refine ⟨s', a1, ?_⟩
  have hz : zadj T (τ.1 0 45) (τ.1 27) j = decide (zlot (τ.1 0 45) ((8 : Int32) * τ.1 27 8 + τ.1 27 j) < SV T 3 100 (VV T (τ.1 27) (cN (τ.1 27) j) (nI j) (plB (τ.1 27) (ahN j (cN (τ.1 27) (j - 1)))) (nI (td T (cN (τ.1 27) j))))) := rfl
  have hd := M_deedAt (TxM_fl a1 hT) hOK e2
  rw [hz]
  unfold zMg1
  dsimp only [un4]
  rw [if_ib b726, c7, hW.2.2.1, if_neg n2, if_ib (ib_t (show j < 26 by omega) (by omega)), nI_clamp (show j < 2 ^ 31 by omega), wlet_eq, if_ib b826, tc8, bind_eq (M_lot _ _)]
  have e1' : τ.1 27 j = nI (cN (τ.1 27) j) := e1
  generalize hc : cN (τ.1 27) j = c at *
  rw [e1'] at *
  rw [bnd2_eq a2]
  by_cases h : SV T 3 100 (VV T (τ.1 27) c (nI j) (plB (τ.1 27) (ahN j (cN (τ.1 27) (j - 1)))) (nI (td T c))) ≤ zlot (τ.1 0 45) ((8 : Int32) * τ.1 27 8 + nI c)
  · have h' : ¬ zlot (τ.1 0 45) ((8 : Int32) * τ.1 27 8 + nI c) < SV T 3 100 (VV T (τ.1 27) c (nI j) (plB (τ.1 27) (ahN j (cN (τ.1 27) (j - 1)))) (nI (td T c))) := Int32.not_lt.mpr h
    rw [if_pos h, bind_eq hd, wlet_eq, nI_succ, if_neg (by simpa using h'), if_neg (by simpa using h')]
  · have h' : zlot (τ.1 0 45) ((8 : Int32) * τ.1 27 8 + nI c) < SV T 3 100 (VV T (τ.1 27) c (nI j) (plB (τ.1 27) (ahN j (cN (τ.1 27) (j - 1)))) (nI (td T c))) := Int32.not_le.mp h
    rw [if_neg h, wlet_eq, wlet_eq, nI_succ, if_pos (by simpa using h'), if_pos (by simpa using h')]
theorem M_sessionGoes {τ : St} {m : Nat} {T : Tx} (hT : TxM τ T) (hOK : TxOK T) (hW : WV (tn T) m (τ.1 27)) :
    ∃ τ', zLc τ τ' ∧ f_X11_sessionGoes τ = some τ' ∧ τ'.1 27 = zses T (τ.1 0 45) m (τ.1 27) := by
  have h7 := zWV7 hW
  have hc7 := zcN7 hW
  have hz0 := zss_hi T (τ.1 0 45) m (τ.1 27) hc7
  obtain ⟨⟨s1, b, l⟩, q1, f1, ql, qb⟩ := zinv (st := zMg1) (s0 := (τ, 0, τ.1 27 9, 0))
    (fun t s => fl τ s.1 ∧ s.2.2.2 = nI t ∧ s.2.2.1 = zlast T (τ.1 0 45) (τ.1 27) t ∧ ∀ c, c < 7 → (zb s.2.1 c = true ↔ ∃ j, j < t ∧ zadj T (τ.1 0 45) (τ.1 27) j = true ∧ cN (τ.1 27) j = c))
    (fun r => fl τ r.1 ∧ r.2.2 = zlast T (τ.1 0 45) (τ.1 27) m ∧ ∀ c, c < 7 → (zb r.2.1 c = true ↔ ∃ j, j < m ∧ zadj T (τ.1 0 45) (τ.1 27) j = true ∧ cN (τ.1 27) j = c)) m (by omega)
    ⟨fl_refl _, rfl, rfl, fun c hc => by
      constructor
      · intro z
        rw [zb_0] at z
        cases z
      · rintro ⟨j, hj, _⟩
        exact absurd hj (Nat.not_lt_zero _)⟩ (by
      rintro t ⟨s, b, l, p⟩ ht ⟨h1, h2, h3, h4⟩
      have h1 : fl τ s := h1
      have h2 : p = nI t := h2
      subst h2
      have h3 : l = _ := h3
      obtain ⟨s', g1, g2⟩ := M_ses1 (TxM_fl h1 hT) hOK (by rw [fl27 h1]; exact hW) ht b l
      rw [fl27 h1, h1.2.1 45 (by omega)] at g2
      have hct := hc7 t ht
      obtain ⟨b', hb'⟩ : ∃ b', b' = (if zadj T (τ.1 0 45) (τ.1 27) t = true then b ||| ((1 : Int32) <<< (nI (cN (τ.1 27) t) &&& 31)) else b) := ⟨_, rfl⟩
      obtain ⟨l', hl'⟩ : ∃ l', l' = (if zadj T (τ.1 0 45) (τ.1 27) t = true then l else nI (td T (cN (τ.1 27) t))) := ⟨_, rfl⟩
      rw [← hb', ← hl'] at g2
      refine Or.inl ⟨(s', b', l', nI (t + 1)), g2, fl_trans h1 g1, rfl, ?_, fun c hc => ?_⟩
      · show l' = _
        rw [hl', zlast, h3]
      · show zb b' c = true ↔ _
        have h4 : zb b c = true ↔ _ := h4 c hc
        rw [hb']
        by_cases e : zadj T (τ.1 0 45) (τ.1 27) t = true
        · rw [if_pos e, zb_or (by omega) (by omega), Bool.or_eq_true, decide_eq_true_iff, h4]
          constructor
          · rintro (⟨j, j1, j2, j3⟩ | q)
            · exact ⟨j, by omega, j2, j3⟩
            · exact ⟨t, by omega, e, q.symm⟩
          · rintro ⟨j, j1, j2, j3⟩
            by_cases q : j = t
            · right; rw [← j3, q]
            · left; exact ⟨j, by omega, j2, j3⟩
        · rw [if_neg e, h4]
          constructor
          · rintro ⟨j, j1, j2, j3⟩
            exact ⟨j, by omega, j2, j3⟩
          · rintro ⟨j, j1, j2, j3⟩
            by_cases q : j = t
            · rw [q] at j2; exact absurd j2 e
            · exact ⟨j, by omega, j2, j3⟩) (by
      rintro ⟨s, b, l, p⟩ ⟨h1, h2, h3, h4⟩
      have h1 : fl τ s := h1
      have h2 : p = nI m := h2
      subst h2
      refine ⟨(s, b, l), ?_, h1, h3, h4⟩
      unfold zMg1
      dsimp only [un4]
      rw [if_ib b726, c7, fl27 h1, hW.2.2.1, if_pos ((nI_leN (by omega) (by omega)).mpr (Nat.le_refl _))])
  have f1 : fl τ s1 := f1
  have ql : l = zlast T (τ.1 0 45) (τ.1 27) m := ql
  have qb : ∀ c, c < 7 → (zb b c = true ↔ ∃ j, j < m ∧ zadj T (τ.1 0 45) (τ.1 27) j = true ∧ cN (τ.1 27) j = c) := qb
  have qt : ∀ j, j < m → (zb b (cN (τ.1 27) j) = true ↔ zadj T (τ.1 0 45) (τ.1 27) j = true) := by
    intro j hj
    rw [qb _ (hc7 j hj)]
    constructor
    · rintro ⟨i, i1, i2, i3⟩
      have : i = j := hW.2.2.2.2 i j i1 hj (by rw [(cN_eq hW i1).1, (cN_eq hW hj).1, i3])
      rw [← this]; exact i2
    · intro h
      exact ⟨j, hj, h, rfl⟩
  obtain ⟨s2, q2, f2, v2, u2⟩ := zinv (st := zMg2) (s0 := (s1, 0))
    (fun t s => zLc τ s.1 ∧ s.2 = nI t ∧ s.1.1 27 = τ.1 27 ∧ ∀ j, j < t → s.1.1 28 j = sufAt T (τ.1 27) m j)
    (fun r => zLc τ r ∧ r.1 27 = τ.1 27 ∧ ∀ j, j < m → r.1 28 j = sufAt T (τ.1 27) m j) m (by omega)
    ⟨zLc_fl f1, rfl, fl27 f1, fun j hj => absurd hj (Nat.not_lt_zero _)⟩ (by
      rintro t ⟨s, p⟩ ht ⟨h1, h2, h3, h4⟩
      have h1 : zLc τ s := h1
      have h2 : p = nI t := h2
      subst h2
      have h3 : s.1 27 = τ.1 27 := h3
      have h4 : ∀ j, j < t → s.1 28 j = sufAt T (τ.1 27) m j := h4
      obtain ⟨s', g1, g2⟩ := M_sufferAt' (zTx_Lc h1 hT) hOK (by rw [h3]; exact hW) ht
      rw [h3] at g2
      have n2 : ¬ nI m ≤ nI t := fun z => by have := (nI_leN (by omega) (by omega)).mp z; omega
      refine Or.inl ⟨(si s' 28 t (sufAt T (τ.1 27) m t), nI (t + 1)), ?_, zLc_trans h1 (zLc_trans (zLc_fl g1) (zLc_si _ _ _ (by omega))), rfl, ?_, fun j hj => ?_⟩
      · unfold zMg2
        dsimp only [un2]
        rw [if_ib b726, c7, h3, hW.2.2.1, if_neg n2, bnd2_eq g2, if_ib (ib_t (show t < 7 by omega) (by omega)), nI_clamp (show t < 2 ^ 31 by omega), wlet_eq, wlet_eq, nI_succ]
      · show (si s' 28 t _).1 27 = _
        rw [si_ne (by omega), fl27 g1, h3]
      · show (si s' 28 t _).1 28 j = _
        rw [si_get]
        by_cases e : j = t
        · rw [if_pos ⟨rfl, e⟩, e]
        · rw [if_neg (by omega), g1.1 28 (by omega) (by omega) (by omega)]
          exact h4 j (by omega)) (by
      rintro ⟨s, p⟩ ⟨h1, h2, h3, h4⟩
      have h2 : p = nI m := h2
      subst h2
      have h3 : s.1 27 = τ.1 27 := h3
      refine ⟨s, ?_, h1, h3, h4⟩
      unfold zMg2
      dsimp only [un2]
      rw [if_ib b726, c7, h3, hW.2.2.1, if_pos ((nI_leN (by omega) (by omega)).mpr (Nat.le_refl _))])
  obtain ⟨⟨s3, k3⟩, q3, f3, v3, w3⟩ := zinv (st := zMg3 b (nI m)) (s0 := (s2, 0, 0))
    (fun t s => zLc τ s.1 ∧ s.2.2 = nI t ∧ s.2.1 = nI (zcnt T (τ.1 0 45) (τ.1 27) t) ∧ s.1.1 27 = zss T (τ.1 0 45) m (τ.1 27) t ∧ ∀ j, j < m → s.1.1 28 j = sufAt T (τ.1 27) m j)
    (fun r => zLc τ r.1 ∧ r.1.1 27 = zss T (τ.1 0 45) m (τ.1 27) m ∧ r.2 = nI (zcnt T (τ.1 0 45) (τ.1 27) m)) m (by omega)
    ⟨f2, rfl, rfl, v2, u2⟩ (by
      rintro t ⟨s, k, p⟩ ht ⟨h1, h2, h3, h4, h5⟩
      have h1 : zLc τ s := h1
      have h2 : p = nI t := h2
      have h3 : k = nI (zcnt T (τ.1 0 45) (τ.1 27) t) := h3
      subst h2 h3
      have h4 : s.1 27 = zss T (τ.1 0 45) m (τ.1 27) t := h4
      have h5 : ∀ j, j < m → s.1 28 j = sufAt T (τ.1 27) m j := h5
      have n2 : ¬ nI m ≤ nI t := fun z => by have := (nI_leN (by omega) (by omega)).mp z; omega
      have hk := zcnt_le T (τ.1 0 45) (τ.1 27) t
      have hct := hc7 t ht
      have hv : s.1 27 t = τ.1 27 t := by rw [h4]; exact hz0 t (by omega) h7 t (Nat.le_refl _) (by omega)
      have bt : ib (nI t) 26 = true := ib_t (by omega) (by omega)
      have bt7 : ib (nI t) 7 = true := ib_t (by omega) (by omega)
      have gt : (nI t).toNatClampNeg = t := nI_clamp (by omega)
      have e1 := (cN_eq hW ht).1
      have hx : (si s 27 t 0) = sc s 27 (upd (zss T (τ.1 0 45) m (τ.1 27) t) t 0) := by rw [zsi_as, h4]
      refine Or.inl ?_
      unfold zMg3
      dsimp only [un3]
      rw [if_neg n2, if_ib bt, wlet_eq, if_ib bt, wlet_eq, gt, hv, hx]
      by_cases ea : zadj T (τ.1 0 45) (τ.1 27) t = true
      · have hbt : ((b >>> (τ.1 27 t &&& 31)) &&& (1 : Int32)) = (1 : Int32) := by
          rw [e1]
          exact (zb_t (by omega)).mpr ((qt t ht).mpr ea)
        rw [if_pos hbt, if_ib (ib_t (show zcnt T (τ.1 0 45) (τ.1 27) t < 26 by omega) (by omega)), nI_clamp (show zcnt T (τ.1 0 45) (τ.1 27) t < 2 ^ 31 by omega), wlet_eq, wlet_eq, wlet_eq, ← nI_succ, ← nI_succ, zsi_sc]
        refine ⟨_, rfl, zLc_trans h1 (zLc_sc _ _), rfl, ?_, ?_, fun j hj => ?_⟩
        · show nI _ = nI _
          rw [zcnt, if_pos ea]
        · show (sc s 27 _).1 27 = _
          rw [zsc_eq, zss, if_pos ea]
        · show (sc s 27 _).1 28 j = _
          rw [zsc_ne (by omega)]; exact h5 j hj
      · have hbt : ¬ ((b >>> (τ.1 27 t &&& 31)) &&& (1 : Int32)) = (1 : Int32) := by
          rw [e1]
          exact fun z => ea ((qt t ht).mp ((zb_t (by omega)).mp z))
        have a17 : (17 : Int32) + τ.1 27 t = nI (17 + cN (τ.1 27) t) := by
          rw [e1]
          exact nI_add' 17 _
        have b17 : ib (nI (17 + cN (τ.1 27) t)) 26 = true := ib_t (by omega) (by omega)
        have g17 : (nI (17 + cN (τ.1 27) t)).toNatClampNeg = 17 + cN (τ.1 27) t := nI_clamp (by omega)
        rw [if_neg hbt, a17, if_ib b17, if_ib bt7, if_ib b17, g17, wlet_eq, if_ib b2526, if_ib b2526, tc25, wlet_eq, wlet_eq, ← nI_succ, zsc_eq, zsc_ne (show 28 ≠ 27 by omega), h5 t ht, zsi_sc, zsc_eq, zsi_sc, upd_ne (f := zss T (τ.1 0 45) m (τ.1 27) t) (show 17 + cN (τ.1 27) t ≠ t by omega), upd_ne (show 25 ≠ 17 + cN (τ.1 27) t by omega), upd_ne (f := zss T (τ.1 0 45) m (τ.1 27) t) (show 25 ≠ t by omega)]
        refine ⟨_, rfl, zLc_trans h1 (zLc_sc _ _), rfl, ?_, ?_, fun j hj => ?_⟩
        · show nI _ = nI _
          rw [zcnt, if_neg ea]
        · show (sc s 27 _).1 27 = _
          rw [zsc_eq, zss, if_neg ea]
        · show (sc s 27 _).1 28 j = _
          rw [zsc_ne (by omega)]; exact h5 j hj) (by
      rintro ⟨s, k, p⟩ ⟨h1, h2, h3, h4, h5⟩
      have h2 : p = nI m := h2
      subst h2
      refine ⟨(s, k), ?_, h1, h4, h3⟩
      unfold zMg3
      dsimp only [un3]
      rw [if_pos ((nI_leN (by omega) (by omega)).mpr (Nat.le_refl _))])
  have f3 : zLc τ s3 := f3
  have v3 : s3.1 27 = zss T (τ.1 0 45) m (τ.1 27) m := v3
  have w3 : k3 = nI (zcnt T (τ.1 0 45) (τ.1 27) m) := w3
  refine ⟨sc s3 27 (zses T (τ.1 0 45) m (τ.1 27)), zLc_trans f3 (zLc_sc _ _), ?_, zsc_eq _ _ _⟩
  unfold f_X11_sessionGoes
  rw [if_ib b926, wlet_eq, tc9, wlet_eq]
  refine (bind_eq q1).trans ?_
  dsimp only [un3]
  rw [wlet_eq]
  refine (bind_eq q2).trans ?_
  rw [if_ib b726, wlet_eq, c7, v2, hW.2.2.1, wlet_eq]
  refine (bind_eq q3).trans ?_
  dsimp only [un2]
  rw [if_ib b726, wlet_eq, if_ib b926, wlet_eq, if_ib b2426, wlet_eq, if_ib b826, if_ib b826, wlet_eq, tc8, tc24, zsi_as s3, zsi_sc, zsi_sc, zsc_eq, zsi_sc, v3, w3, ql]
  have h8 : upd (upd (upd (zss T (τ.1 0 45) m (τ.1 27) m) 7 (nI (zcnt T (τ.1 0 45) (τ.1 27) m))) 9 (zlast T (τ.1 0 45) (τ.1 27) m)) 24 0 8 = τ.1 27 8 := by
    rw [upd_ne (by omega), upd_ne (by omega), upd_ne (by omega)]
    exact hz0 m (Nat.le_refl _) h7 8 (by omega) (by omega)
  rw [h8]
  rfl
