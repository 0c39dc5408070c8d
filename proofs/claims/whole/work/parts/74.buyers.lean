/-! STAGE B, 25: who would buy a plea -/
def zfee (T : Tx) (V : Nat → Int32) (j : Nat) : Int32 := SV T 2 99 (VV T V (cN V j) (nI j) (plB V (nI (cN V (j - 1)))) (nI (td T (cN V (j - 1)))))
def zpl (V : Nat → Int32) (j : Nat) : Nat → Int32 := upd V 24 (V 24 ||| ((1 : Int32) <<< (nI (cN V (j - 1)) &&& 31)))
def zbu (T : Tx) (V : Nat → Int32) (m j : Nat) : Bool := if sufAt T V m j - sufAt T (zpl V j) m j ≤ zfee T V j then false else if V (10 + cN V j) < zfee T V j then false else true
def zby (T : Tx) (V : Nat → Int32) (m : Nat) : Nat → Int32
  | 0 => 0
  | t + 1 => if (!zb (V 24) (cN V t) && zbu T V m (t + 1)) = true then zby T V m t ||| ((1 : Int32) <<< (V (t + 1) &&& 31)) else zby T V m t
theorem zahd1 {n m : Nat} {V : Nat → Int32} (hW : WV n m V) {j : Nat} (h0 : 0 < j) (hj : j < m) : ahd V j = nI (cN V (j - 1)) := by
  rw [ahd_ahN hW hj]; unfold ahN; rw [if_neg (by omega)]
theorem zWV_pl {n m : Nat} {V : Nat → Int32} (hW : WV n m V) (j : Nat) : WV n m (zpl V j) := zWV_24 hW _ 24 (by omega)
theorem C_isBuyer {σ : St} {m j : Nat} {T : Tx} {V : Nat → Int32} (hT : TxC σ 4 T) (hOK : TxOK T) (hR : RS σ 38 m V) (hW : WV (tn T) m V) (h0 : 0 < j) (hj : j < m) :
    ∃ σ', zK σ σ' ∧ f_X3_isBuyer σ 38 (nI j) = some ((if zbu T V m j = true then 1 else 0), σ') := by
  have h7 := zWV7 hW
  obtain ⟨e1, e2⟩ := cN_eq hW hj
  obtain ⟨d1, d2⟩ := cN_eq hW (show j - 1 < m by omega)
  have hn := hOK.1
  have hah := zahd1 hW h0 hj
  obtain ⟨σ1, a1, a2, a3⟩ := C_seat hT hOK hR hW.2.2.1 (by omega) e2 (nI j) (nI (cN V (j - 1)))
  have T1 := TxC_fr a1 (by omega) hT
  obtain ⟨σ2, b1, b2, b3⟩ := C_sentence (k := 2) (d := nI (td T (cN V (j - 1)))) (vs := VV T V (cN V j) (nI j) (plB V (nI (cN V (j - 1)))) (nI (td T (cN V (j - 1))))) T1 hOK (by omega) rfl (fun k hk h0 => a3 _ k hk h0)
  have b2 : f_X1_sentence σ1 2 (nI (td T (cN V (j - 1)))) = some (zfee T V j, σ2) := b2
  have k2 : zK σ σ2 := zK_frj (fr_trans (fr_mono a1 (by omega) (by omega)) b1)
  obtain ⟨σ3, c1, c2, c3⟩ := C_copyFrom (σ := σ2) (o := 42) (p := 38) (by omega)
  have R3 := c3 m V h7 (zRS_K k2 hR)
  have l1 := C_letPlead (σ := σ3) (o := 42) (c := cN V (j - 1)) (by omega)
  have R4 : RS (si σ3 42 4 (σ3.1 42 4 ||| ((1 : Int32) <<< (nI (cN V (j - 1)) &&& 31)))) 42 m (zpl V j) := by
    rw [R3.2.1]
    exact zRS_24 R3 h7 _
  have k4 : zK σ (si σ3 42 4 (σ3.1 42 4 ||| ((1 : Int32) <<< (nI (cN V (j - 1)) &&& 31)))) := zK_trans k2 (zK_tr (fr_trans c1 (fr_si _ _ _ _ (by omega))))
  obtain ⟨σ5, f1, f2⟩ := C_sufferingAt (zTx_K k4 hT) hOK (zRS_K k4 hR) hW (by omega) hj
  have k5 := zK_trans k4 (zK_frj f1)
  obtain ⟨σ6, g1, g2⟩ := C_sufferingAt (zTx_K k5 hT) hOK (RS_fr f1 (by omega) R4) (zWV_pl hW j) (by omega) hj
  have k6 := zK_trans k5 (zK_frj g1)
  have R6 := zRS_K k6 hR
  refine ⟨σ6, k6, ?_⟩
  unfold f_X3_isBuyer
  rw [bind_eq (C_docketAt hR h7 hj), bind_eq (C_aheadOf hR h7 hj), hah, e1, bind_eq a2, bind_eq (C_deedOf T1 hOK d2), bnd2_eq b2, bind_eq c2, bind_eq l1, bnd2_eq f2, bnd2_eq g2, wlet_eq]
  unfold zbu
  by_cases q : sufAt T V m j - sufAt T (zpl V j) m j ≤ zfee T V j
  · rw [if_pos q, if_pos q]
    rfl
  · rw [if_neg q, if_neg q, bind_eq (C_has (zTx_K k6 hT) hOK e2), if_neg n10, if_ib (ib_t (show cN V j < 7 by omega) (by omega)), nI_clamp (show cN V j < 2 ^ 31 by omega), show σ6.1 (38 + 2) (cN V j) = V (10 + cN V j) from R6.2.2.2.2.2.2.1 _ (by omega)]
    by_cases q2 : V (10 + cN V j) < zfee T V j
    · rw [if_pos q2, if_pos q2]
      rfl
    · rw [if_neg q2, if_neg q2]
      rfl
def zSb1 (o1 : Nat) : St × Int32 × Int32 → Option ((St × Int32 × Int32) ⊕ (St × Int32)) :=
  un3 (fun (σ4_1 : St) (x2_4_1 : Int32) (x3_4_1 : Int32) => if (σ4_1.1 o1 3) ≤ x3_4_1 then (some (.inr (σ4_1, x2_4_1))) else (Option.bind (f_X6_aheadOf σ4_1 o1 x3_4_1) fun v4 => Option.bind (f_X6_isPleading σ4_1 o1 v4) fun v6 => if v6 = 0 then (bnd2 (f_X3_isBuyer σ4_1 o1 x3_4_1) fun v10 σ11 => if v10 = 0 then (wlet (x3_4_1 + (1 : Int32)) fun v13 => some (.inl (σ11, x2_4_1, v13))) else (Option.bind (f_X6_docketAt σ11 o1 x3_4_1) fun v15 => wlet (x2_4_1 ||| ((1 : Int32) <<< (v15 &&& 31))) fun v16 => wlet (x3_4_1 + (1 : Int32)) fun v17 => some (.inl (σ11, v16, v17)))) else (wlet (x3_4_1 + (1 : Int32)) fun v8 => some (.inl (σ4_1, x2_4_1, v8)))))
def zMb1 : St × Int32 × Int32 → Option ((St × Int32 × Int32) ⊕ (St × Int32)) :=
  un3 (fun (σ4_1 : St) (x1_4_1 : Int32) (x2_4_1 : Int32) => if ib (7 : Int32) 26 = true then if (σ4_1.1 27 (Int32.toNatClampNeg (7 : Int32))) ≤ x2_4_1 then (some (.inr (σ4_1, x1_4_1))) else (bnd2 (f_X11_doesBuy σ4_1 x2_4_1) fun v5 σ6 => if v5 = 0 then (wlet (x2_4_1 + (1 : Int32)) fun v8 => some (.inl (σ6, x1_4_1, v8))) else (if ib x2_4_1 26 = true then wlet (x1_4_1 ||| ((1 : Int32) <<< ((σ6.1 27 (Int32.toNatClampNeg x2_4_1)) &&& 31))) fun v10 => wlet (x2_4_1 + (1 : Int32)) fun v11 => some (.inl (σ6, v10, v11)) else none)) else none)
theorem C_buyers {σ : St} {m : Nat} {T : Tx} {V : Nat → Int32} (hT : TxC σ 4 T) (hOK : TxOK T) (hR : RS σ 38 m V) (hW : WV (tn T) m V) :
    ∃ σ', zK σ σ' ∧ f_X3_buyersOf σ 38 = some (zby T V m (m - 1), σ') := by
  have h7 := zWV7 hW
  have hn := hOK.1
  obtain ⟨⟨s1, v1⟩, q1, f1, r1⟩ := zinv (st := zSb1 38) (s0 := (σ, 0, 1)) (fun t x => zK σ x.1 ∧ x.2.2 = nI (t + 1) ∧ x.2.1 = zby T V m t) (fun r => zK σ r.1 ∧ r.2 = zby T V m (m - 1)) (m - 1) (by omega) ⟨zK_refl _, rfl, rfl⟩ (by
    rintro t ⟨x, v, p⟩ ht ⟨h1, h2, h3⟩
    have h1 : zK σ x := h1
    have h2 : p = nI (t + 1) := h2
    subst h2
    have h3 : v = zby T V m t := h3
    have hj : t + 1 < m := by omega
    have Rx := zRS_K h1 hR
    have hah := zahd1 hW (show 0 < t + 1 by omega) hj
    rw [Nat.add_sub_cancel] at hah
    have hct := (cN_eq hW (show t < m by omega)).2
    have n1 : ¬ nI m ≤ nI (t + 1) := fun z => by have := (nI_leN (by omega) (by omega)).mp z; omega
    by_cases hz : zb (V 24) (cN V t) = true
    · refine Or.inl ⟨(x, zby T V m (t + 1), nI (t + 1 + 1)), ?_, h1, rfl, rfl⟩
      unfold zSb1
      dsimp only [un3]
      rw [Rx.1, if_neg n1, bind_eq (C_aheadOf Rx h7 hj), hah, bind_eq (C_isPleading Rx _), zplB (by omega), if_pos hz, if_neg n10, wlet_eq, ← nI_succ, h3, zby, if_neg (show ¬ (!zb (V 24) (cN V t) && zbu T V m (t + 1)) = true by rw [hz]; simp)]
    · obtain ⟨x1, g1, g2⟩ := C_isBuyer (zTx_K h1 hT) hOK Rx hW (show 0 < t + 1 by omega) hj
      refine Or.inl ⟨(x1, zby T V m (t + 1), nI (t + 1 + 1)), ?_, zK_trans h1 g1, rfl, rfl⟩
      have hz' : zb (V 24) (cN V t) = false := by simpa using hz
      unfold zSb1
      dsimp only [un3]
      rw [Rx.1, if_neg n1, bind_eq (C_aheadOf Rx h7 hj), hah, bind_eq (C_isPleading Rx _), zplB (by omega), if_neg hz, if_pos rfl, bnd2_eq g2, zby, hz', ← nI_succ, h3]
      by_cases q : zbu T V m (t + 1) = true
      · rw [if_pos q, if_neg n10, bind_eq (C_docketAt (zRS_K g1 Rx) h7 hj), wlet_eq, wlet_eq, if_pos (by rw [q]; rfl)]
      · rw [if_neg q, if_pos rfl, wlet_eq, if_neg (by simpa using q)]) (by
    rintro ⟨x, v, p⟩ ⟨h1, h2, h3⟩
    have h1 : zK σ x := h1
    have h2 : p = nI (m - 1 + 1) := h2
    subst h2
    refine ⟨(x, v), ?_, h1, h3⟩
    unfold zSb1
    dsimp only [un3]
    rw [(zRS_K h1 hR).1, if_pos ((nI_leN (by omega) (by omega)).mpr (by omega))])
  refine ⟨s1, f1, ?_⟩
  have r1 : v1 = _ := r1
  unfold f_X3_buyersOf
  rw [wlet_eq]
  refine (bind_eq q1).trans ?_
  dsimp only [un2]
  rw [r1]
theorem M_doesBuy {τ : St} {m j : Nat} {T : Tx} (hT : TxM τ T) (hOK : TxOK T) (hW : WV (tn T) m (τ.1 27)) (h0 : 0 < j) (hj : j < m) :
    ∃ τ', zLc τ τ' ∧ τ'.1 27 = τ.1 27 ∧ f_X11_doesBuy τ (nI j) = some ((if (!zb (τ.1 27 24) (cN (τ.1 27) (j - 1)) && zbu T (τ.1 27) m j) = true then 1 else 0), τ') := by
  have h7 := zWV7 hW
  have hn := hOK.1
  obtain ⟨e1, e2⟩ := cN_eq hW hj
  obtain ⟨d1, d2⟩ := cN_eq hW (show j - 1 < m by omega)
  have b0 : ib (nI (j - 1)) 26 = true := ib_t (by omega) (by omega)
  have g0 : (nI (j - 1)).toNatClampNeg = j - 1 := nI_clamp (by omega)
  have bj : ib (nI j) 26 = true := ib_t (by omega) (by omega)
  have gj : (nI j).toNatClampNeg = j := nI_clamp (by omega)
  have hPL := PL_on hW hj
  rw [zahd1 hW h0 hj] at hPL
  have hp := M_doesPlead (τ := τ) (a := cN (τ.1 27) (j - 1)) (by omega)
  rw [zplB (by omega)] at hp
  unfold f_X11_doesBuy
  rw [nI_sub1 h0, if_ib b0, g0, wlet_eq, d1, bind_eq hp]
  by_cases hz : zb (τ.1 27 24) (cN (τ.1 27) (j - 1)) = true
  · refine ⟨τ, zLc_refl _, rfl, ?_⟩
    rw [if_pos hz, if_neg n10, hz]
    rfl
  · have hz' : zb (τ.1 27 24) (cN (τ.1 27) (j - 1)) = false := by simpa using hz
    obtain ⟨τ1, a1, a2⟩ := M_feeOf (d := nI (td T (cN (τ.1 27) (j - 1)))) hT hOK e2 hPL
    have v1 := fl27 a1
    have a2 : f_X11_feeOf τ (nI (cN (τ.1 27) j)) (nI j) (nI (td T (cN (τ.1 27) (j - 1)))) = some (zfee T (τ.1 27) j, τ1) := a2
    obtain ⟨τ2, b1, b2⟩ := M_sufferAt' (TxM_fl a1 hT) hOK (by rw [v1]; exact hW) hj
    have v2 := (fl27 b1).trans v1
    rw [v1] at b2
    have f2 := fl_trans a1 b1
    have hs : si τ2 27 24 (τ2.1 27 24 ||| ((1 : Int32) <<< (nI (cN (τ.1 27) (j - 1)) &&& 31))) = sc τ2 27 (zpl (τ.1 27) j) := by
      rw [zsi_as, v2]; rfl
    obtain ⟨τ3, c1, c2⟩ := M_sufferAt' (τ := sc τ2 27 (zpl (τ.1 27) j)) (m := m) (j := j) (zTx_Lc (zLc_trans (zLc_fl f2) (zLc_sc _ _)) hT) hOK (by rw [zsc_eq]; exact zWV_pl hW j) hj
    have v3 := fl27 c1
    rw [zsc_eq] at c2 v3
    have hback : upd (zpl (τ.1 27) j) 24 (zpl (τ.1 27) j 24 &&& (((1 : Int32) <<< (nI (cN (τ.1 27) (j - 1)) &&& 31)) ^^^ (-1 : Int32))) = τ.1 27 := by
      funext i
      unfold zpl
      rw [upd_eq', zb_back (by omega) hz']
      by_cases q : i = 24
      · rw [q, upd_eq']
      · rw [upd_ne q, upd_ne q]
    refine ⟨sc τ3 27 (τ.1 27), zLc_trans (zLc_trans (zLc_trans (zLc_fl f2) (zLc_sc _ _)) (zLc_fl c1)) (zLc_sc _ _), zsc_eq _ _ _, ?_⟩
    rw [if_neg hz, if_pos rfl, if_ib bj, gj, e1, bind_eq (M_deedAt hT hOK d2), bnd2_eq a2, bnd2_eq b2, if_ib b2426, if_ib b2426, wlet_eq, tc24, hs, bnd2_eq c2, if_ib b2426, if_ib b2426, wlet_eq, zsi_as τ3, v3, hback, hz']
    show _ = some ((if zbu T (τ.1 27) m j = true then 1 else 0), _)
    unfold zbu
    by_cases q : sufAt T (τ.1 27) m j - sufAt T (zpl (τ.1 27) j) m j ≤ zfee T (τ.1 27) j
    · rw [if_pos q, if_pos q]
      rfl
    · rw [if_neg q, if_neg q, if_ib bj, zsc_eq, e1, za10, if_ib (ib_t (show 10 + cN (τ.1 27) j < 26 by omega) (by omega)), nI_clamp (show 10 + cN (τ.1 27) j < 2 ^ 31 by omega)]
      by_cases q2 : τ.1 27 (10 + cN (τ.1 27) j) < zfee T (τ.1 27) j
      · rw [if_pos q2, if_pos q2]
        rfl
      · rw [if_neg q2, if_neg q2]
        rfl
theorem M_buyers {τ : St} {m : Nat} {T : Tx} (hT : TxM τ T) (hOK : TxOK T) (hW : WV (tn T) m (τ.1 27)) :
    ∃ τ', zLc τ τ' ∧ f_X11_buyersNow τ = some (zby T (τ.1 27) m (m - 1), τ') := by
  have h7 := zWV7 hW
  obtain ⟨⟨s1, v1⟩, q1, f1, r1⟩ := zinv (st := zMb1) (s0 := (τ, 0, 1)) (fun t x => zLc τ x.1 ∧ x.1.1 27 = τ.1 27 ∧ x.2.2 = nI (t + 1) ∧ x.2.1 = zby T (τ.1 27) m t) (fun r => zLc τ r.1 ∧ r.2 = zby T (τ.1 27) m (m - 1)) (m - 1) (by omega) ⟨zLc_refl _, rfl, rfl, rfl⟩ (by
    rintro t ⟨x, v, p⟩ ht ⟨h1, h4, h2, h3⟩
    have h1 : zLc τ x := h1
    have h2 : p = nI (t + 1) := h2
    subst h2
    have h3 : v = zby T (τ.1 27) m t := h3
    have h4 : x.1 27 = τ.1 27 := h4
    have hj : t + 1 < m := by omega
    have n1 : ¬ nI m ≤ nI (t + 1) := fun z => by have := (nI_leN (by omega) (by omega)).mp z; omega
    obtain ⟨x1, g1, g2, g3⟩ := M_doesBuy (zTx_Lc h1 hT) hOK (by rw [h4]; exact hW) (show 0 < t + 1 by omega) hj
    rw [h4, Nat.add_sub_cancel] at g3
    rw [h4] at g2
    refine Or.inl ⟨(x1, zby T (τ.1 27) m (t + 1), nI (t + 1 + 1)), ?_, zLc_trans h1 g1, g2, rfl, rfl⟩
    unfold zMb1
    dsimp only [un3]
    rw [if_ib b726, c7, h4, hW.2.2.1, if_neg n1, bnd2_eq g3, zby, ← nI_succ, h3]
    by_cases q : (!zb (τ.1 27 24) (cN (τ.1 27) t) && zbu T (τ.1 27) m (t + 1)) = true
    · rw [if_pos q, if_pos q, if_neg n10, if_ib (ib_t (show t + 1 < 26 by omega) (by omega)), nI_clamp (show t + 1 < 2 ^ 31 by omega), wlet_eq, wlet_eq, g2]
    · rw [if_neg q, if_neg q, if_pos rfl, wlet_eq]) (by
    rintro ⟨x, v, p⟩ ⟨h1, h4, h2, h3⟩
    have h4 : x.1 27 = τ.1 27 := h4
    have h2 : p = nI (m - 1 + 1) := h2
    subst h2
    refine ⟨(x, v), ?_, h1, h3⟩
    unfold zMb1
    dsimp only [un3]
    rw [if_ib b726, c7, h4, hW.2.2.1, if_pos ((nI_leN (by omega) (by omega)).mpr (by omega))])
  refine ⟨s1, f1, ?_⟩
  have r1 : v1 = _ := r1
  unfold f_X11_buyersNow
  rw [wlet_eq]
  refine (bind_eq q1).trans ?_
  dsimp only [un2]
  rw [r1]
theorem zdo_buyers : sim_buyers Inv := by
  intro σ τ hI
  obtain ⟨-, -, -, -, T, m, a1, a2, a3, a4, a5, -, -⟩ := id hI
  obtain ⟨τ1, b1, b2, b3, b4, b5, b6, b7⟩ := zcop a3 a5
  have R := b7 σ 38 a4
  obtain ⟨σ', c1, c2⟩ := C_buyers a2 a1 R b4
  obtain ⟨τ', d1, d2⟩ := M_buyers b3 a1 b4
  refine ⟨zby T (τ1.1 27) m (m - 1), σ', τ', ?_, ?_, Inv_q hI c1 (zSc_trans b1 (zSc_Lc d1))⟩
  · unfold f_X10_buyers
    rw [bnd2_eq c2]
  · unfold f_X11_buyers
    rw [bind_eq b2, bnd2_eq d2]
