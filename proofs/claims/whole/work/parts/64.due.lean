/-! STAGE B, 15: dues, and cases as they are listed -/
def duV (T : Tx) (V : Nat → Int32) (j c a : Nat) : Int32 := SV T 0 99 (VV T V c (nI j) (plB V (ahN j a)) (nI (td T c)))
def duAt (T : Tx) (V : Nat → Int32) (j : Nat) : Int32 := duV T V j (cN V j) (cN V (j - 1))
/-- a case's place, and whether who is ahead pleads, as listed -/
def plc (V : Nat → Int32) (m c : Nat) : Int32 := if pO V m (nI c) = -1 then nI m else pO V m (nI c)
def plp (V : Nat → Int32) (m c : Nat) : Int32 := if pO V m (nI c) = -1 then plB V (-1) else plB V (ahd V (pO V m (nI c)).toNatClampNeg)
theorem nI_ne_m1 {k : Nat} (h : k < 2 ^ 31) : ¬ nI k = -1 := fun z => by
  have := congrArg Int32.toInt z
  rw [nI_toInt h, show (-1 : Int32).toInt = -1 by decide] at this
  omega
theorem C_due {σ : St} {o m j c a : Nat} {T : Tx} {V : Nat → Int32} (hT : TxC σ 4 T) (hOK : TxOK T) (hR : RS σ o m V) (hmV : V 7 = nI m) (ho : 37 < o) (hc : c < tn T) :
    ∃ σ', fr 22 23 σ σ' ∧ f_X1_due σ o (nI c) (nI j) (ahN j a) = some (duV T V j c a, σ') := by
  obtain ⟨σ1, a1, a2, a3⟩ := C_seat hT hOK hR hmV ho hc (nI j) (ahN j a)
  have T1 := TxC_fr a1 (by omega) hT
  obtain ⟨σ2, b1, b2, b3⟩ := C_sentence (k := 0) (d := nI (td T c)) (vs := VV T V c (nI j) (plB V (ahN j a)) (nI (td T c))) T1 hOK (by omega) rfl (fun k hk h0 => a3 _ k hk h0)
  have b2 : f_X1_sentence σ1 0 (nI (td T c)) = _ := b2
  refine ⟨σ2, fr_trans (fr_mono a1 (by omega) (by omega)) b1, ?_⟩
  unfold f_X1_due
  rw [bind_eq a2, bind_eq (C_deedOf T1 hOK hc), bnd2_eq b2]
  rfl
theorem M_dueAt {τ : St} {m j : Nat} {T : Tx} (hT : TxM τ T) (hOK : TxOK T) (hW : WV (tn T) m (τ.1 27)) (hj : j < m) :
    ∃ τ', fl τ τ' ∧ f_X11_dueAt τ (nI j) = some (duAt T (τ.1 27) j, τ') := by
  have h7 : m ≤ 7 := by have := hW.1; have := hW.2.1; omega
  obtain ⟨e1, e2⟩ := cN_eq hW hj
  have hPL := PL_on hW hj
  rw [ahd_ahN hW hj] at hPL
  obtain ⟨τ', a1, a2⟩ := M_doomOf (d := nI (td T (cN (τ.1 27) j))) hT hOK e2 hPL
  refine ⟨τ', a1, ?_⟩
  have b1 : ib (nI j) 26 = true := ib_t (by omega) (by omega)
  unfold f_X11_dueAt
  rw [if_ib b1, if_ib b1, nI_clamp (by omega), e1, bind_eq (M_deedAt hT hOK e2), bnd2_eq a2]
  rfl
theorem C_seatAsListed {σ : St} {o m c : Nat} {T : Tx} {V : Nat → Int32} (hT : TxC σ 4 T) (hOK : TxOK T) (hR : RS σ o m V) (hW : WV (tn T) m V) (ho : 37 < o) (hc : c < tn T) :
    ∃ σ', fr 22 22 σ σ' ∧ f_X1_seatAsListed σ o (nI c) = some σ' ∧ ∀ d k, k < 9 → k ≠ 0 → σ'.1 22 k = VV T V c (plc V m c) (plp V m c) d k := by
  have h7 : m ≤ 7 := by have := hW.1; have := hW.2.1; omega
  unfold f_X1_seatAsListed plc plp
  rw [bind_eq (C_placeOf h7 hR.1 hR.2.2.2.2.2.1 (nI c))]
  rcases pO_cases V m (nI c) with ⟨j, j1, j2, j3, j4⟩ | ⟨j1, j2⟩
  · have n1 := nI_ne_m1 (k := j) (by omega)
    obtain ⟨σ1, a1, a2, a3⟩ := C_seat hT hOK hR hW.2.2.1 ho hc (nI j) (ahd V j)
    refine ⟨σ1, a1, ?_, ?_⟩
    · rw [j3, if_neg n1, bind_eq (C_aheadOf hR h7 j1), bind_eq a2]
    · rw [j3, if_neg n1, if_neg n1, nI_clamp (by omega)]
      exact a3
  · obtain ⟨σ1, a1, a2, a3⟩ := C_seat hT hOK hR hW.2.2.1 ho hc (nI m) (-1)
    refine ⟨σ1, a1, ?_, ?_⟩
    · rw [j2, if_pos rfl, hR.1, bind_eq a2]
    · rw [j2, if_pos rfl, if_pos rfl]
      exact a3
theorem PL_pO {n m c : Nat} {V : Nat → Int32} (hW : WV n m V) : PL V (pO V m (nI c)) (plc V m c) (plp V m c) := by
  have h7 : m ≤ 7 := by have := hW.1; have := hW.2.1; omega
  unfold plc plp
  rcases pO_cases V m (nI c) with ⟨j, j1, j2, j3, j4⟩ | ⟨j1, j2⟩
  · have n1 := nI_ne_m1 (k := j) (by omega)
    rw [j3, if_neg n1, if_neg n1, nI_clamp (by omega)]
    exact PL_on hW j1
  · rw [j2, if_pos rfl, if_pos rfl]
    have := PL_off V
    rwa [hW.2.2.1] at this
/-- a law of a case as listed -/
def lsV (T : Tx) (V : Nat → Int32) (m k hi c : Nat) (d : Int32) : Int32 := SV T k hi (VV T V c (plc V m c) (plp V m c) d)
theorem C_dueAsListed {σ : St} {o m c : Nat} {T : Tx} {V : Nat → Int32} (hT : TxC σ 4 T) (hOK : TxOK T) (hR : RS σ o m V) (hW : WV (tn T) m V) (ho : 37 < o) (hc : c < tn T) :
    ∃ σ', fr 22 23 σ σ' ∧ f_X1_dueAsListed σ o (nI c) = some (lsV T V m 0 99 c (nI (td T c)), σ') := by
  obtain ⟨σ1, a1, a2, a3⟩ := C_seatAsListed hT hOK hR hW ho hc
  have T1 := TxC_fr a1 (by omega) hT
  obtain ⟨σ2, b1, b2, b3⟩ := C_sentence (k := 0) (d := nI (td T c)) (vs := VV T V c (plc V m c) (plp V m c) (nI (td T c))) T1 hOK (by omega) rfl (fun k hk h0 => a3 _ k hk h0)
  have b2 : f_X1_sentence σ1 0 (nI (td T c)) = _ := b2
  refine ⟨σ2, fr_trans (fr_mono a1 (by omega) (by omega)) b1, ?_⟩
  unfold f_X1_dueAsListed
  rw [bind_eq a2, bind_eq (C_deedOf T1 hOK hc), bnd2_eq b2]
  rfl
theorem C_chance {σ : St} {o m c : Nat} {T : Tx} {V : Nat → Int32} (hT : TxC σ 4 T) (hOK : TxOK T) (hR : RS σ o m V) (hW : WV (tn T) m V) (ho : 37 < o) (hc : c < tn T) :
    ∃ σ', fr 22 23 σ σ' ∧ f_X1_chanceOfAdjourning σ o (nI c) = some (lsV T V m 3 100 c (nI (td T c)), σ') := by
  obtain ⟨σ1, a1, a2, a3⟩ := C_seatAsListed hT hOK hR hW ho hc
  have T1 := TxC_fr a1 (by omega) hT
  obtain ⟨σ2, b1, b2, b3⟩ := C_law (k := 3) (d := nI (td T c)) (vs := VV T V c (plc V m c) (plp V m c) (nI (td T c))) T1 hOK (by omega) rfl (fun k hk h0 => a3 _ k hk h0)
  have b2 : f_X1_lawFor σ1 3 (nI (td T c)) = _ := b2
  refine ⟨σ2, fr_trans (fr_mono a1 (by omega) (by omega)) b1, ?_⟩
  unfold f_X1_chanceOfAdjourning
  rw [bind_eq a2, bind_eq (C_deedOf T1 hOK hc), bnd2_eq b2]
  rfl
theorem pO_listed {n m : Nat} {V : Nat → Int32} (hW : WV n m V) {j : Nat} (hj : j < m) : pO V m (nI (cN V j)) = nI j := by
  rw [← (cN_eq hW hj).1]
  exact pO_at hj (fun t ht e => by have := hW.2.2.2.2 t j (by omega) hj e; omega)
theorem ls_listed {n m : Nat} {T : Tx} {V : Nat → Int32} (hW : WV n m V) {j : Nat} (hj : j < m) (k hi : Nat) (d : Int32) : lsV T V m k hi (cN V j) d = SV T k hi (VV T V (cN V j) (nI j) (plB V (ahN j (cN V (j - 1)))) d) := by
  have h7 : m ≤ 7 := by have := hW.1; have := hW.2.1; omega
  have n1 := nI_ne_m1 (k := j) (by omega)
  unfold lsV plc plp
  rw [pO_listed hW hj, if_neg n1, if_neg n1, nI_clamp (by omega), ahd_ahN hW hj]
theorem C_allDue {σ : St} {o m : Nat} {T : Tx} {V : Nat → Int32} (hT : TxC σ 4 T) (hOK : TxOK T) (hR : RS σ o m V) (hW : WV (tn T) m V) (ho : 37 < o) :
    ∃ σ', fr 22 23 σ σ' ∧ f_X1_allDue σ o = some (fo (· + ·) (duAt T V) m 0 0, σ') := by
  have h7 : m ≤ 7 := by have := hW.1; have := hW.2.1; omega
  refine lp_foldB (fr 22 23 σ) (· + ·) (duAt T V) m (by omega) σ 0 (fr_refl _ _ _) (fun s a j hP hj => ?_) (fun s a hP => ?_)
  · have Rs := RS_fr hP (by omega) hR
    obtain ⟨e1, e2⟩ := cN_eq hW hj
    obtain ⟨s', a1, a2⟩ := C_dueAsListed (TxC_fr hP (by omega) hT) hOK Rs hW ho e2
    rw [ls_listed hW hj] at a2
    have n2 : ¬ nI m ≤ nI j := fun z => by have := (nI_leN (by omega) (by omega)).mp z; omega
    refine ⟨s', fr_trans hP a1, ?_⟩
    dsimp only [un3]
    rw [Rs.1, if_neg n2, bind_eq (C_docketAt Rs h7 hj), e1, bnd2_eq a2, wlet_eq, wlet_eq, nI_succ]
    rfl
  · have Rs := RS_fr hP (by omega) hR
    dsimp only [un3]
    rw [Rs.1, if_pos ((nI_leN (by omega) (by omega)).mpr (Nat.le_refl _))]
theorem M_farAll {τ : St} {m : Nat} {T : Tx} (hT : TxM τ T) (hOK : TxOK T) (hW : WV (tn T) m (τ.1 27)) :
    ∃ τ', fl τ τ' ∧ f_X11_farAll τ = some (fo (· + ·) (fun j => ab (sufAt T (τ.1 27) m j - duAt T (τ.1 27) j)) m 0 0, τ') := by
  have h7 : m ≤ 7 := by have := hW.1; have := hW.2.1; omega
  refine lp_foldB (fl τ) (· + ·) (fun j => ab (sufAt T (τ.1 27) m j - duAt T (τ.1 27) j)) m (by omega) τ 0 (fl_refl _) (fun s a j hP hj => ?_) (fun s a hP => ?_)
  · obtain ⟨s', a1, a2⟩ := M_sufferAt' (TxM_fl hP hT) hOK (by rw [fl27 hP]; exact hW) hj
    have hP2 := fl_trans hP a1
    obtain ⟨s2, b1, b2⟩ := M_dueAt (TxM_fl hP2 hT) hOK (by rw [fl27 hP2]; exact hW) hj
    rw [fl27 hP] at a2
    rw [fl27 hP2] at b2
    have n2 : ¬ nI m ≤ nI j := fun z => by have := (nI_leN (by omega) (by omega)).mp z; omega
    refine ⟨s2, fl_trans hP2 b1, ?_⟩
    dsimp only [un3]
    rw [if_ib b726, c7, fl27 hP, hW.2.2.1, if_neg n2, bnd2_eq a2, bnd2_eq b2, wlet_eq]
    unfold ab
    by_cases q : 0 ≤ sufAt T (τ.1 27) m j - duAt T (τ.1 27) j
    · rw [if_pos q, if_pos q, wlet_eq, wlet_eq, nI_succ]
    · rw [if_neg q, if_neg q, wlet_eq, wlet_eq, nI_succ, Int32.zero_sub]
  · dsimp only [un3]
    rw [if_ib b726, c7, fl27 hP, hW.2.2.1, if_pos ((nI_leN (by omega) (by omega)).mpr (Nat.le_refl _))]
