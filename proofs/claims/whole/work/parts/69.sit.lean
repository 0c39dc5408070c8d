/-! STAGE B, 20: a session in the class -/
theorem C_has {σ : St} {T : Tx} {c : Nat} (hT : TxC σ 4 T) (hOK : TxOK T) (hc : c < tn T) : f_X8_has σ 4 (nI c) = some 1 := by
  have h7 := hOK.1
  unfold f_X8_has
  rw [if_neg (nI_pos (by omega)), hT.1, if_neg (fun z => by have := (nI_leN (by omega) (by omega)).mp z; omega), if_neg (fun z => by have := (nI_leN (a := 7) (by omega) (by omega)).mp z; omega)]
/-- only scratch and the State at o differ -/
def zFo (o : Nat) (σ σ' : St) : Prop := (∀ c, (c < 22 ∨ 24 < c) → (c < o ∨ o + 3 < c) → σ'.1 c = σ.1 c) ∧ σ'.2 = σ.2
theorem zFo_refl (o : Nat) (σ : St) : zFo o σ σ := ⟨fun _ _ _ => rfl, rfl⟩
theorem zFo_trans {o : Nat} {a b c : St} (h : zFo o a b) (h' : zFo o b c) : zFo o a c := ⟨fun k h1 h2 => (h'.1 k h1 h2).trans (h.1 k h1 h2), h'.2.trans h.2⟩
theorem zFo_fr {o : Nat} {a b : St} (h : fr 22 24 a b) : zFo o a b := ⟨fun k h1 _ => h.1 k (by omega), h.2⟩
theorem zFo_si {o : Nat} (σ : St) {c : Nat} (i : Nat) (v : Int32) (h : o ≤ c ∧ c ≤ o + 3) : zFo o σ (si σ c i v) :=
  ⟨fun k _ h2 => si_ne (by omega), rfl⟩
theorem zTx_Fo {o : Nat} {σ σ' : St} {T : Tx} (h : zFo o σ σ') (ho : 37 < o) (hT : TxC σ 4 T) : TxC σ' 4 T := by
  unfold TxC at hT ⊢
  rw [h.1 4 (by omega) (by omega), h.1 (4 + 1) (by omega) (by omega), h.1 (4 + 2) (by omega) (by omega), h.1 (4 + 3) (by omega) (by omega), h.1 (4 + 4) (by omega) (by omega)]
  exact hT
theorem C_suf {σ : St} {o m j : Nat} {T : Tx} {V : Nat → Int32} (hT : TxC σ 4 T) (hOK : TxOK T) (hR : RS σ o m V) (hW : WV (tn T) m V) (ho : 37 < o) (hj : j < m) :
    ∃ σ', fr 22 23 σ σ' ∧ f_X1_suffering σ o (V j) (nI j) (ahd V j) = some (sufAt T V m j, σ') := by
  have h7 := zWV7 hW
  obtain ⟨e1, e2⟩ := cN_eq hW hj
  obtain ⟨σ', a1, a2⟩ := C_suffering (j := j) (c := cN V j) (a := cN V (j - 1)) hT hOK hR hW.2.2.1 ho h7 hj e2 (by
    by_cases z : j = 0
    · exact Or.inl z
    · exact Or.inr (cN_eq hW (by omega)).2)
  refine ⟨σ', a1, ?_⟩
  rw [ahd_ahN hW hj, e1, a2]
  rfl
def zSt1 (o1 : Nat) (x2 : Int32) : St × Int32 × Int32 → Option ((St × Int32 × Int32) ⊕ (St × Int32)) :=
  un3 (fun (σ5_1 : St) (x3_5_1 : Int32) (x4_5_1 : Int32) => if (σ5_1.1 o1 3) ≤ x4_5_1 then (some (.inr (σ5_1, x3_5_1))) else (if (7 : Int32) ≤ x4_5_1 then (some (.inr (σ5_1, x3_5_1))) else (Option.bind (f_X6_docketAt σ5_1 o1 x4_5_1) fun v30 => Option.bind (f_X6_aheadOf σ5_1 o1 x4_5_1) fun v32 => bnd2 (f_X1_suffering σ5_1 o1 v30 x4_5_1 v32) fun v34 σ35 => if ib x4_5_1 7 = true then wlet (si σ35 24 (Int32.toNatClampNeg x4_5_1) v34) fun σ37 => Option.bind (f_X1_lot x2 (((8 : Int32) * (σ37.1 o1 6)) + v30)) fun v39 => bnd2 (f_X1_chanceOfAdjourning σ37 o1 v30) fun v41 σ42 => if v41 ≤ v39 then (wlet (x4_5_1 + (1 : Int32)) fun v44 => some (.inl (σ42, x3_5_1, v44))) else (wlet (x3_5_1 ||| ((1 : Int32) <<< (x4_5_1 &&& 31))) fun v45 => wlet (x4_5_1 + (1 : Int32)) fun v46 => some (.inl (σ42, v45, v46))) else none)))
def zSt2 (o1 : Nat) (x3_e5_1 : Int32) (v2 : Int32) : St × Int32 → Option ((St × Int32) ⊕ (St)) :=
  un2 (fun (σ102_4 : St) (x5_102_4 : Int32) => if v2 ≤ x5_102_4 then (some (.inr σ102_4)) else (if (7 : Int32) ≤ x5_102_4 then (some (.inr σ102_4)) else (if ib x5_102_4 7 = true then wlet (σ102_4.1 (o1 + 1) (Int32.toNatClampNeg x5_102_4)) fun v10 => if ((x3_e5_1 >>> (x5_102_4 &&& 31)) &&& (1 : Int32)) = (1 : Int32) then (Option.bind (f_X6_append σ102_4 o1 v10) fun σ25 => wlet (x5_102_4 + (1 : Int32)) fun v26 => some (.inl (σ25, v26))) else (Option.bind (f_X8_has σ102_4 4 v10) fun v13 => if v13 = 0 then (wlet (x5_102_4 + (1 : Int32)) fun v15 => some (.inl (σ102_4, v15))) else (if ib v10 7 = true then if ib x5_102_4 7 = true then if ib v10 7 = true then wlet (si σ102_4 (o1 + 3) (Int32.toNatClampNeg v10) ((σ102_4.1 (o1 + 3) (Int32.toNatClampNeg v10)) + (σ102_4.1 24 (Int32.toNatClampNeg x5_102_4)))) fun σ19 => if ib v10 7 = true then wlet (si σ19 o1 5 (σ19.1 7 (Int32.toNatClampNeg v10))) fun σ21 => wlet (si σ21 o1 7 ((σ21.1 o1 7) + (1 : Int32))) fun σ22 => wlet (x5_102_4 + (1 : Int32)) fun v23 => some (.inl (σ22, v23)) else none else none else none else none)) else none)))
theorem C_sit1 {σ : St} {o m : Nat} {T : Tx} {V : Nat → Int32} {x2 : Int32} (hT : TxC σ 4 T) (hOK : TxOK T) (hR : RS σ o m V) (hW : WV (tn T) m V) (ho : 37 < o) {j : Nat} (hj : j < m) (b : Int32) :
    ∃ (σ' : St) (b' : Int32), fr 22 24 σ σ' ∧ σ'.1 24 = upd (σ.1 24) j (sufAt T V m j) ∧ b' = (if zadj T x2 V j = true then b ||| ((1 : Int32) <<< (nI j &&& 31)) else b) ∧
      zSt1 o x2 (σ, b, nI j) = some (.inl (σ', b', nI (j + 1))) := by
  have h7 := zWV7 hW
  obtain ⟨σ1, a1, a2⟩ := C_suf hT hOK hR hW ho hj
  have f1 : fr 22 24 σ (si σ1 24 j (sufAt T V m j)) := fr_trans (fr_mono a1 (by omega) (by omega)) (fr_si _ _ _ _ (by omega))
  have R1 := RS_fr f1 (by omega) hR
  obtain ⟨e1, e2⟩ := cN_eq hW hj
  obtain ⟨σ2, c1, c2⟩ := C_chance (TxC_fr f1 (by omega) hT) hOK R1 hW ho e2
  rw [ls_listed hW hj] at c2
  have n2 : ¬ nI m ≤ nI j := fun z => by have := (nI_leN (by omega) (by omega)).mp z; omega
  have n3 : ¬ (7 : Int32) ≤ nI j := fun z => by have := (nI_leN (a := 7) (by omega) (by omega)).mp z; omega
  have h24 : σ2.1 24 = upd (σ.1 24) j (sufAt T V m j) := by
    rw [c1.1 24 (by omega), zsi_as, zsc_eq, a1.1 24 (by omega)]
  have hz : zadj T x2 V j = decide (zlot x2 ((8 : Int32) * V 8 + V j) < SV T 3 100 (VV T V (cN V j) (nI j) (plB V (ahN j (cN V (j - 1)))) (nI (td T (cN V j))))) := rfl
  have c2' : f_X1_chanceOfAdjourning (si σ1 24 j (sufAt T V m j)) o (V j) = some (SV T 3 100 (VV T V (cN V j) (nI j) (plB V (ahN j (cN V (j - 1)))) (nI (td T (cN V j)))), σ2) := by
    rw [e1]
    exact c2
  have hst : zSt1 o x2 (σ, b, nI j) = if SV T 3 100 (VV T V (cN V j) (nI j) (plB V (ahN j (cN V (j - 1)))) (nI (td T (cN V j)))) ≤ zlot x2 ((8 : Int32) * V 8 + V j) then some (.inl (σ2, b, nI (j + 1))) else some (.inl (σ2, b ||| ((1 : Int32) <<< (nI j &&& 31)), nI (j + 1))) := by
    unfold zSt1
    dsimp only [un3]
    rw [hR.1, if_neg n2, if_neg n3, bind_eq (C_docketAt hR h7 hj), bind_eq (C_aheadOf hR h7 hj), bnd2_eq a2, if_ib (ib_t (show j < 7 by omega) (by omega)), nI_clamp (show j < 2 ^ 31 by omega), wlet_eq, R1.2.2.2.1, bind_eq (C_lot _ _), bnd2_eq c2', nI_succ]
    rfl
  by_cases h : SV T 3 100 (VV T V (cN V j) (nI j) (plB V (ahN j (cN V (j - 1)))) (nI (td T (cN V j)))) ≤ zlot x2 ((8 : Int32) * V 8 + V j)
  · have hz' : ¬ zadj T x2 V j = true := by rw [hz]; simpa using h
    exact ⟨σ2, b, fr_trans f1 (fr_mono c1 (by omega) (by omega)), h24, by rw [if_neg hz'], by rw [hst, if_pos h]⟩
  · have hz' : zadj T x2 V j = true := by rw [hz]; simpa using h
    exact ⟨σ2, _, fr_trans f1 (fr_mono c1 (by omega) (by omega)), h24, by rw [if_pos hz'], by rw [hst, if_neg h]⟩
/-- in the midst of a session: the first t are judged -/
def zMid (T : Tx) (s : Int32) (m : Nat) (V : Nat → Int32) (t : Nat) : Nat → Int32 := upd (zss T s m V t) 9 (zlast T s V t)
theorem C_sitOnce {σ : St} {o m : Nat} {T : Tx} {V : Nat → Int32} {x2 : Int32} (hT : TxC σ 4 T) (hOK : TxOK T) (hR : RS σ o m V) (hW : WV (tn T) m V) (ho : 37 < o) :
    ∃ σ', zFo o σ σ' ∧ f_X1_sitOnce σ o x2 = some σ' ∧ RS σ' o (zcnt T x2 V m) (zses T x2 m V) := by
  have h7 := zWV7 hW
  have hc7 := zcN7 hW
  obtain ⟨⟨s1, b⟩, q1, f1, q24, qb⟩ := zinv (st := zSt1 o x2) (s0 := (σ, 0, 0))
    (fun t s => fr 22 24 σ s.1 ∧ s.2.2 = nI t ∧ (∀ j, j < t → s.1.1 24 j = sufAt T V m j) ∧ ∀ i, i < 31 → zb s.2.1 i = (decide (i < t) && zadj T x2 V i))
    (fun r => fr 22 24 σ r.1 ∧ (∀ j, j < m → r.1.1 24 j = sufAt T V m j) ∧ ∀ i, i < 31 → zb r.2 i = (decide (i < m) && zadj T x2 V i)) m (by omega)
    ⟨fr_refl _ _ _, rfl, fun j hj => absurd hj (Nat.not_lt_zero _), fun i hi => by rw [zb_0]; simp⟩ (by
      rintro t ⟨s, b, p⟩ ht ⟨h1, h2, h3, h4⟩
      have h2 : p = nI t := h2
      subst h2
      obtain ⟨s', b', g1, g2, g3, g4⟩ := C_sit1 (x2 := x2) (TxC_fr h1 (by omega) hT) hOK (RS_fr h1 (by omega) hR) hW ho ht b
      refine Or.inl ⟨(s', b', nI (t + 1)), g4, fr_trans h1 g1, rfl, fun j hj => ?_, fun i hi => ?_⟩
      · show s'.1 24 j = _
        rw [g2]
        by_cases e : j = t
        · rw [e, upd_eq']
        · rw [upd_ne e]; exact h3 j (by omega)
      · show zb b' i = _
        rw [g3]
        have h4 : zb b i = _ := h4 i hi
        by_cases e : zadj T x2 V t = true
        · rw [if_pos e, zb_or (by omega) (by omega), h4]
          by_cases e2 : i = t
          · subst e2; simp [e]
          · simp [e2, show (i < t + 1) ↔ i < t by omega]
        · rw [if_neg e, h4]
          by_cases e2 : i = t
          · subst e2; simp [e]
          · simp [show (i < t + 1) ↔ i < t by omega]) (by
      rintro ⟨s, b, p⟩ ⟨h1, h2, h3, h4⟩
      have h2 : p = nI m := h2
      subst h2
      refine ⟨(s, b), ?_, h1, h3, h4⟩
      unfold zSt1
      dsimp only [un3]
      rw [(RS_fr h1 (by omega) hR).1, if_pos ((nI_leN (by omega) (by omega)).mpr (Nat.le_refl _))])
  have R1 : RS s1 o m V := RS_fr f1 (by omega) hR
  have T1 : TxC s1 4 T := TxC_fr f1 (by omega) hT
  have q24 : ∀ j, j < m → s1.1 24 j = sufAt T V m j := q24
  have qb : ∀ i, i < 31 → zb b i = (decide (i < m) && zadj T x2 V i) := qb
  have hz0 := zss_hi T x2 m V hc7
  have R0 : RS (si s1 o 3 0) o 0 (zMid T x2 m V 0) := by
    obtain ⟨r1, r2, r3, r4, r5, r6, r7, r8⟩ := R1
    refine ⟨?_, ?_, ?_, ?_, ?_, fun i hi => absurd hi (Nat.not_lt_zero _), fun c hc => ?_, fun c hc => ?_⟩
    · rw [si_get, if_pos ⟨rfl, rfl⟩]; rfl
    · rw [si_get, if_neg (by omega)]; exact r2
    · rw [si_get, if_neg (by omega)]; exact r3
    · rw [si_get, if_neg (by omega)]; exact r4
    · rw [si_get, if_neg (by omega)]; exact r5
    · rw [si_get, if_neg (by omega)]
      show _ = upd V 9 _ _
      rw [upd_ne (by omega)]; exact r7 c hc
    · rw [si_get, if_neg (by omega)]
      show _ = upd V 9 _ _
      rw [upd_ne (by omega)]; exact r8 c hc
  have key : ∃ r, lp (zSt2 o b (nI m)) fuel (si s1 o 3 0, 0) = some r ∧ (zFo o s1 r ∧ RS r o (zcnt T x2 V m) (zMid T x2 m V m)) := by
    refine zinv (fun t s => zFo o s1 s.1 ∧ s.2 = nI t ∧ RS s.1 o (zcnt T x2 V t) (zMid T x2 m V t) ∧ (∀ i, t ≤ i → i < m → s.1.1 (o + 1) i = V i) ∧ ∀ j, j < m → s.1.1 24 j = sufAt T V m j) _ m (by omega) ⟨zFo_si _ _ _ (by omega), rfl, R0, fun i _ hi => by rw [si_get, if_neg (by omega)]; exact R1.2.2.2.2.2.1 i hi, fun j hj => by rw [si_get, if_neg (by omega)]; exact q24 j hj⟩ ?_ ?_
    · rintro t ⟨s, p⟩ ht ⟨h1, h2, h3, h4, h5⟩
      have h2 : p = nI t := h2
      subst h2
      have h1 : zFo o s1 s := h1
      have h3 : RS s o (zcnt T x2 V t) (zMid T x2 m V t) := h3
      have h4 : ∀ i, t ≤ i → i < m → s.1 (o + 1) i = V i := h4
      have h5 : ∀ j, j < m → s.1 24 j = sufAt T V m j := h5
      have hk := zcnt_le T x2 V t
      have n2 : ¬ nI m ≤ nI t := fun z => by have := (nI_leN (by omega) (by omega)).mp z; omega
      have n3 : ¬ (7 : Int32) ≤ nI t := fun z => by have := (nI_leN (a := 7) (by omega) (by omega)).mp z; omega
      have b7 : ib (nI t) 7 = true := ib_t (show t < 7 by omega) (by omega)
      have g7 : (nI t).toNatClampNeg = t := nI_clamp (by omega)
      obtain ⟨e1, e2⟩ := cN_eq hW ht
      have hct := hc7 t ht
      refine Or.inl ?_
      unfold zSt2
      dsimp only [un2]
      rw [if_neg n2, if_neg n3, if_ib b7, wlet_eq, g7, h4 t (Nat.le_refl _) ht]
      by_cases ea : zadj T x2 V t = true
      · have hbt : ((b >>> (nI t &&& 31)) &&& (1 : Int32)) = (1 : Int32) := (zb_t (by omega)).mpr (by rw [qb t (by omega)]; simp [ea, ht])
        rw [if_pos hbt, bind_eq (C_append h3.1 (by omega) _), wlet_eq, ← nI_succ]
        refine ⟨_, rfl, zFo_trans h1 (zFo_trans (zFo_si _ _ _ (by omega)) (zFo_si _ _ _ (by omega))), rfl, ?_, fun i hi1 hi2 => ?_, fun j hj => ?_⟩
        · have h8 := zRS_ap h3 (by omega) (V t)
          rw [zcnt, if_pos ea]
          refine zRS_ext h8 (fun i hi => ?_) (fun i hi => ?_)
          · unfold zMid zap
            rw [upd_ne (show i ≠ 9 by omega), zss, if_pos ea, upd_ne (show i ≠ 7 by omega)]
            by_cases e : i = zcnt T x2 V t
            · rw [e, upd_eq', upd_eq']
            · rw [upd_ne e, upd_ne e, upd_ne (show i ≠ t by omega), upd_ne (show i ≠ 9 by omega)]
          · unfold zMid zap
            rw [zlast, if_pos ea, zss, if_pos ea, upd_ne (show i ≠ 7 by omega), upd_ne (show i ≠ zcnt T x2 V t by omega)]
            by_cases e : i = 9
            · rw [e, upd_eq', upd_eq']
            · rw [upd_ne e, upd_ne e, upd_ne (show i ≠ zcnt T x2 V t by omega), upd_ne (show i ≠ t by omega)]
        · show (si (si s (o + 1) (zcnt T x2 V t) (V t)) o 3 (nI (zcnt T x2 V t + 1))).1 (o + 1) i = V i
          rw [si_get, if_neg (by omega), si_get, if_neg (by omega)]
          exact h4 i (by omega) hi2
        · show (si (si s (o + 1) (zcnt T x2 V t) (V t)) o 3 (nI (zcnt T x2 V t + 1))).1 24 j = _
          rw [si_get, if_neg (by omega), si_get, if_neg (by omega)]
          exact h5 j hj
      · have hbt : ¬ ((b >>> (nI t &&& 31)) &&& (1 : Int32)) = (1 : Int32) := fun z => by
          have := (zb_t (by omega)).mp z
          rw [qb t (by omega)] at this
          simp [ea] at this
        have Ts := zTx_Fo h1 ho T1
        have bc : ib (nI (cN V t)) 7 = true := ib_t (by omega) (by omega)
        have gc : (nI (cN V t)).toNatClampNeg = cN V t := nI_clamp (by omega)
        have hd : s.1 7 (cN V t) = nI (td T (cN V t)) := (Ts.2.1 _ e2).1
        obtain ⟨r1, r2, r3, r4, r5, r6, r7, r8⟩ := id h3
        have r8' : s.1 (o + 3) (cN V t) = zss T x2 m V t (17 + cN V t) := by
          rw [r8 _ hct]; unfold zMid; rw [upd_ne (by omega)]
        have r5' : s.1 o 7 = zss T x2 m V t 25 := by
          rw [r5]; unfold zMid; rw [upd_ne (by omega)]
        rw [if_neg hbt, e1, bind_eq (C_has Ts hOK e2), if_neg (by decide), if_ib bc, if_ib b7, if_ib bc, wlet_eq, if_ib bc, wlet_eq, wlet_eq, wlet_eq, gc, ← nI_succ, h5 t ht, r8', si_get (d := 7), if_neg (by omega), hd, si_get (d := o), if_neg (by omega), si_get (d := o), if_neg (by omega), r5']
        refine ⟨_, rfl, zFo_trans h1 (zFo_trans (zFo_trans (zFo_si _ _ _ (by omega)) (zFo_si _ _ _ (by omega))) (zFo_si _ _ _ (by omega))), rfl, ?_, fun i hi1 hi2 => ?_, fun j hj => ?_⟩
        · rw [zcnt, if_neg ea]
          refine ⟨?_, ?_, ?_, ?_, ?_, fun i hi => ?_, fun c hc => ?_, fun c hc => ?_⟩
          · simp only [si_get]; simp [r1]
          · simp only [si_get]; simp [r2]
            unfold zMid
            rw [upd_ne (by omega), upd_ne (by omega), zss, if_neg ea, upd_ne (by omega), upd_ne (by omega), upd_ne (by omega)]
          · simp only [si_get]; simp
            unfold zMid
            rw [upd_eq', zlast, if_neg ea]
          · simp only [si_get]; simp [r4]
            unfold zMid
            rw [upd_ne (by omega), upd_ne (by omega), zss, if_neg ea, upd_ne (by omega), upd_ne (by omega), upd_ne (by omega)]
          · simp only [si_get]; simp
            unfold zMid
            rw [upd_ne (by omega), zss, if_neg ea, upd_eq']
          · simp only [si_get]; simp [r6 i hi]
            unfold zMid
            rw [upd_ne (by omega), upd_ne (by omega), zss, if_neg ea, upd_ne (by omega), upd_ne (by omega), upd_ne (by omega)]
          · simp only [si_get]; simp [r7 c hc]
            unfold zMid
            rw [upd_ne (by omega), upd_ne (by omega), zss, if_neg ea, upd_ne (by omega), upd_ne (by omega), upd_ne (by omega)]
          · simp only [si_get]
            rw [if_neg (by omega), if_neg (by omega)]
            unfold zMid
            rw [upd_ne (by omega), zss, if_neg ea, upd_ne (by omega)]
            by_cases e : c = cN V t
            · rw [if_pos (by simp [e]), e, upd_eq']
            · rw [if_neg (fun z => e z.2), upd_ne (by omega), upd_ne (by omega), r8 c hc]
              unfold zMid
              rw [upd_ne (by omega)]
        · show (si (si (si s (o + 3) _ _) o 5 _) o 7 _).1 (o + 1) i = V i
          rw [si_get, if_neg (by omega), si_get, if_neg (by omega), si_get, if_neg (by omega)]
          exact h4 i (by omega) hi2
        · show (si (si (si s (o + 3) _ _) o 5 _) o 7 _).1 24 j = _
          rw [si_get, if_neg (by omega), si_get, if_neg (by omega), si_get, if_neg (by omega)]
          exact h5 j hj
    · rintro ⟨s, p⟩ ⟨h1, h2, h3, h4, h5⟩
      have h2 : p = nI m := h2
      subst h2
      refine ⟨s, ?_, h1, h3⟩
      unfold zSt2
      dsimp only [un2]
      rw [if_pos ((nI_leN (by omega) (by omega)).mpr (Nat.le_refl _))]
  obtain ⟨s2, g1, g2, g3⟩ := key
  refine ⟨si (si s2 o 4 0) o 6 (V 8 + 1), ?_, ?_, ?_⟩
  · exact zFo_trans (zFo_trans (zFo_trans (zFo_fr f1) g2) (zFo_si _ _ _ (by omega))) (zFo_si _ _ _ (by omega))
  · unfold f_X1_sitOnce
    have g8 : s2.1 o 6 = V 8 := by
      rw [g3.2.2.2.1]; unfold zMid; rw [upd_ne (by omega)]; exact hz0 m (Nat.le_refl _) h7 8 (by omega) (by omega)
    rw [wlet_eq]
    refine (bind_eq q1).trans ?_
    dsimp only [un2]
    rw [R1.1, wlet_eq, wlet_eq, wlet_eq]
    refine (bind_eq g1).trans ?_
    rw [ wlet_eq, wlet_eq, si_get, if_neg (by omega), g8]
  · have hk := zcnt_le T x2 V m
    obtain ⟨r1, r2, r3, r4, r5, r6, r7, r8⟩ := id g3
    refine ⟨?_, ?_, ?_, ?_, ?_, fun i hi => ?_, fun c hc => ?_, fun c hc => ?_⟩
    · simp only [si_get]; simp [r1]
    · simp only [si_get]; simp
      unfold zses
      rw [upd_ne (by omega), upd_eq']
    · simp only [si_get]; simp [r3]
      rw [show zMid T x2 m V m 9 = zlast T x2 V m from upd_eq' _ _ _]
      unfold zses
      rw [upd_ne (by omega), upd_ne (by omega), upd_eq']
    · simp only [si_get]; simp
      unfold zses
      rw [upd_eq']
    · simp only [si_get]; simp [r5]
      unfold zses zMid
      rw [upd_ne (by omega), upd_ne (by omega), upd_ne (by omega), upd_ne (by omega), upd_ne (by omega)]
    · simp only [si_get]; simp [r6 i hi]
      rw [zses_list (by omega)]
      unfold zMid
      rw [upd_ne (by omega)]
    · simp only [si_get]; simp [r7 c hc]
      unfold zses zMid
      rw [upd_ne (by omega), upd_ne (by omega), upd_ne (by omega), upd_ne (by omega), upd_ne (by omega)]
    · simp only [si_get]; simp [r8 c hc]
      unfold zses zMid
      rw [upd_ne (by omega), upd_ne (by omega), upd_ne (by omega), upd_ne (by omega), upd_ne (by omega)]
