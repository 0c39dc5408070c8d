/-! STAGE B, 13: what a case suffers, in the reference -/
theorem knd_lt (T : Tx) (m j c a : Nat) : knd T m j c a < 5 := by
  unfold knd
  by_cases z : j = 0
  · rw [if_pos z]; omega
  · rw [if_neg z]
    by_cases z : td T a = 0
    · rw [if_pos z]; omega
    · rw [if_neg z]
      by_cases z : td T a < td T c
      · rw [if_pos z]; omega
      · rw [if_neg z]
        by_cases z : j + 1 = m
        · rw [if_pos z]; omega
        · rw [if_neg z]; omega
theorem knd_0 {T : Tx} {m j c a : Nat} : knd T m j c a = 0 ↔ j = 0 := by
  unfold knd
  constructor
  · intro h
    by_cases z : j = 0
    · exact z
    · rw [if_neg z] at h
      by_cases z : td T a = 0
      · rw [if_pos z] at h; omega
      · rw [if_neg z] at h
        by_cases z : td T a < td T c
        · rw [if_pos z] at h; omega
        · rw [if_neg z] at h
          by_cases z : j + 1 = m
          · rw [if_pos z] at h; omega
          · rw [if_neg z] at h; omega
  · intro h; rw [if_pos h]
theorem M_kindAt {τ : St} {m j c a : Nat} {T : Tx} (hT : TxM τ T) (hOK : TxOK T) (hW : WV (tn T) m (τ.1 27)) (hj : j < m) (hVc : τ.1 27 j = nI c) (hc : c < tn T) (ha : j = 0 ∨ (a < tn T ∧ τ.1 27 (j - 1) = nI a)) : f_X11_kindAt τ (nI j) = some (nI (knd T m j c a)) := by
  obtain ⟨w1, w2, w3, _⟩ := hW
  have hdc := hOK.2.1 c hc
  unfold f_X11_kindAt knd
  by_cases h0 : j = 0
  · rw [if_pos (by rw [h0]; decide), if_pos h0]; rfl
  · obtain ⟨ha, hVa⟩ : a < tn T ∧ τ.1 27 (j - 1) = nI a := by rcases ha with z | z; exact absurd z h0; exact z
    have hda := hOK.2.1 a ha
    have n0 : ¬ nI j = (0 : Int32) := fun z => h0 ((nI_eqN (b := 0) (by omega) (by omega)).mp z)
    have e1 : nI j - (1 : Int32) = nI (j - 1) := nI_sub (b := 1) (by omega)
    rw [if_neg n0, if_neg h0, e1, if_ib (ib_t (show j - 1 < 26 by omega) (by omega)), nI_clamp (show j - 1 < 2 ^ 31 by omega), hVa, bind_eq (M_deedAt hT hOK ha)]
    by_cases h1 : td T a = 0
    · rw [if_pos (by rw [h1]; decide), if_pos h1]; rfl
    · have n1 : ¬ nI (td T a) = (0 : Int32) := fun z => h1 ((nI_eqN (b := 0) (by omega) (by omega)).mp z)
      rw [if_neg n1, if_neg h1, if_ib (ib_t (show j < 26 by omega) (by omega)), nI_clamp (show j < 2 ^ 31 by omega), hVc, bind_eq (M_deedAt hT hOK hc)]
      by_cases h2 : td T a < td T c
      · rw [if_pos h2, if_neg (fun z => by have := (nI_leN (by omega) (by omega)).mp z; omega)]; rfl
      · rw [if_neg h2, if_pos ((nI_leN (by omega) (by omega)).mpr (by omega)), if_ib b726, c7, w3, show nI m - (1 : Int32) = nI (m - 1) from nI_sub (b := 1) (by omega)]
        by_cases h3 : j + 1 = m
        · rw [if_pos h3, if_pos (by rw [show m - 1 = j by omega])]; rfl
        · rw [if_neg h3, if_neg (fun z => by have := (nI_eqN (by omega) (by omega)).mp z; omega)]; rfl
theorem M_sufferAt {τ : St} {m j c a : Nat} {T : Tx} (hT : TxM τ T) (hOK : TxOK T) (hW : WV (tn T) m (τ.1 27)) (hj : j < m) (hVc : τ.1 27 j = nI c) (hc : c < tn T) (ha : j = 0 ∨ (a < tn T ∧ τ.1 27 (j - 1) = nI a)) :
    ∃ τ', fl τ τ' ∧ f_X11_sufferAt τ (nI j) = some (suf T (τ.1 27) m j c a, τ') := by
  have hk := M_kindAt hT hOK hW hj hVc hc ha
  have hPL := PL_on hW hj
  have hk5 := knd_lt T m j c a
  obtain ⟨w1, w2, w3, _⟩ := hW
  unfold f_X11_sufferAt suf
  rw [if_ib (ib_t (show j < 26 by omega) (by omega)), nI_clamp (show j < 2 ^ 31 by omega), hVc, wlet_eq, bind_eq hk]
  by_cases h0 : knd T m j c a = 0
  · have hj0 := knd_0.mp h0
    have hah : ahd (τ.1 27) j = -1 := by unfold ahd; rw [if_pos hj0]
    rw [hah, hj0] at hPL
    obtain ⟨τ1, a1, a2⟩ := M_doomOf (d := τ.1 27 9) hT hOK hc hPL
    have a2 : f_X11_doomOf τ (nI c) 0 (τ.1 27 9) = _ := a2
    have n1 : ¬ knd T m j c a = 1 := by omega
    refine ⟨τ1, a1, ?_⟩
    rw [if_neg n1, if_pos h0, if_pos (by rw [h0]; decide), if_ib b926, tc9, bnd2_eq a2, hj0]
  · have n0 : ¬ nI (knd T m j c a) = (0 : Int32) := fun z => h0 ((nI_eqN (b := 0) (by omega) (by omega)).mp z)
    rw [if_neg n0]
    by_cases h1 : knd T m j c a = 1
    · exact ⟨τ, fl_refl _, by rw [if_pos h1, if_pos (by rw [h1]; decide)]⟩
    · have n1 : ¬ nI (knd T m j c a) = (1 : Int32) := fun z => h1 ((nI_eqN (b := 1) (by omega) (by omega)).mp z)
      have hj0 : ¬ j = 0 := fun z => h0 (knd_0.mpr z)
      obtain ⟨ha, hVa⟩ : a < tn T ∧ τ.1 27 (j - 1) = nI a := by rcases ha with z | z; exact absurd z hj0; exact z
      have hah : ahd (τ.1 27) j = nI a := by unfold ahd; rw [if_neg hj0, hVa]
      rw [hah] at hPL
      have e1 : nI j - (1 : Int32) = nI (j - 1) := nI_sub (b := 1) (by omega)
      have b1' : ib (nI (j - 1)) 26 = true := ib_t (by omega) (by omega)
      have g1' : (nI (j - 1)).toNatClampNeg = j - 1 := nI_clamp (by omega)
      obtain ⟨τ1, a1, a2⟩ := M_doomOf (d := nI (td T a)) hT hOK hc hPL
      have T1 := TxM_fl a1 hT
      have V1 : τ1.1 27 = τ.1 27 := a1.1 27 (by omega) (by omega) (by omega)
      rw [if_neg n1, if_neg h1, if_neg h0, e1, if_ib b1', g1', hVa, bind_eq (M_deedAt hT hOK ha), bnd2_eq a2, if_ib b1', V1, hVa]
      have dp := M_doesPlead (τ := τ1) (a := a) (by have := hOK.1; omega)
      rw [V1] at dp
      rw [bind_eq dp, wlet_eq]
      have fin : ∀ (s : St) (x : Int32), TxM s T → (if nI (knd T m j c a) = (2 : Int32) then (some ((x / (2 : Int32)), s)) else (if nI (knd T m j c a) = (3 : Int32) then (Option.bind (f_X11_deedAt s (nI c)) fun v18 => some ((x + (v18 / (4 : Int32))), s)) else (some (x, s)))) = some (sufK (knd T m j c a) x (td T c), s) := by
        intro s x hs
        unfold sufK
        by_cases h2 : knd T m j c a = 2
        · rw [if_pos h2, if_pos (by rw [h2]; decide)]
        · have n2 : ¬ nI (knd T m j c a) = (2 : Int32) := fun z => h2 ((nI_eqN (b := 2) (by omega) (by omega)).mp z)
          rw [if_neg h2, if_neg n2]
          by_cases h3 : knd T m j c a = 3
          · rw [if_pos h3, if_pos (by rw [h3]; decide), bind_eq (M_deedAt hs hOK hc)]
          · have n3 : ¬ nI (knd T m j c a) = (3 : Int32) := fun z => h3 ((nI_eqN (b := 3) (by omega) (by omega)).mp z)
            rw [if_neg h3, if_neg n3]
      unfold sufM
      by_cases hp : plB (τ.1 27) (nI a) = 0
      · rw [if_pos hp, if_pos hp]
        exact ⟨τ1, a1, fin _ _ T1⟩
      · rw [if_neg hp, if_neg hp]
        obtain ⟨τ2, c1, c2⟩ := M_pleaOf (d := nI (td T a)) T1 hOK hc (by rw [V1]; exact hPL)
        rw [V1] at c2
        obtain ⟨x, x1, x2⟩ := SV_nat T 0 (hi := 99) (VV T (τ.1 27) c (nI j) (plB (τ.1 27) (nI a)) (nI (td T a))) (by omega)
        obtain ⟨y, y1, y2⟩ := SV_nat T 1 (hi := 99) (VV T (τ.1 27) c (nI j) (plB (τ.1 27) (nI a)) (nI (td T a))) (by omega)
        rw [bnd2_eq c2, show (99 : Int32) = nI 99 from rfl, bind_eq (within_eq _ 99 (by omega)), x2, y2, mx_mn_sub x1 y1]
        exact ⟨τ2, fl_trans a1 c1, fin _ _ (TxM_fl c1 T1)⟩
