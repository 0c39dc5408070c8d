/-! STAGE B, 12: what a case suffers -/
def knd (T : Tx) (m j c a : Nat) : Nat := if j = 0 then 0 else if td T a = 0 then 1 else if td T a < td T c then 2 else if j + 1 = m then 3 else 4
def sufM (T : Tx) (vs : Int32 → Nat → Int32) (V : Nat → Int32) (a : Nat) : Int32 :=
  if plB V (nI a) = 0 then SV T 0 99 (vs (nI (td T a))) else mx 0 (SV T 0 99 (vs (nI (td T a))) - SV T 1 99 (vs (nI (td T a))))
def sufK (k : Nat) (x : Int32) (d : Nat) : Int32 := if k = 2 then x / 2 else if k = 3 then x + nI d / 4 else x
/-- the suffering of case c at place j (of m) behind a -/
def suf (T : Tx) (V : Nat → Int32) (m j c a : Nat) : Int32 :=
  if knd T m j c a = 1 then 0 else if knd T m j c a = 0 then SV T 0 99 (VV T V c (nI j) (plB V (-1)) (V 9))
  else sufK (knd T m j c a) (sufM T (VV T V c (nI j) (plB V (nI a))) V a) (td T c)
def ahN (j a : Nat) : Int32 := if j = 0 then -1 else nI a
theorem mx_mn {hi : Nat} (v : Int32) (h : hi < 1000) : ∃ x, x ≤ hi ∧ mx 0 (mn (nI hi) v) = nI x := by
  unfold mx mn
  by_cases h1 : v < nI hi
  · rw [if_pos h1]
    by_cases h2 : (0 : Int32) < v
    · rw [if_pos h2]
      obtain ⟨k, k1, k2⟩ := i_nat (x := v) (fun z => Int32.lt_irrefl (Int32.lt_trans z h2))
      rw [k2] at h1
      have := (nI_ltN k1 (by omega)).mp h1
      exact ⟨k, by omega, k2⟩
    · rw [if_neg h2]; exact ⟨0, by omega, rfl⟩
  · rw [if_neg h1]
    by_cases h2 : (0 : Int32) < nI hi
    · rw [if_pos h2]; exact ⟨hi, Nat.le_refl _, rfl⟩
    · rw [if_neg h2]; exact ⟨0, by omega, rfl⟩
theorem SV_nat (T : Tx) (k : Nat) {hi : Nat} (vs : Nat → Int32) (h : hi < 1000) : ∃ x, x ≤ hi ∧ SV T k hi vs = nI x := mx_mn _ h
theorem mx_mn_sub {x y : Nat} (hx : x ≤ 99) (hy : y ≤ 99) : mx 0 (mn (nI 99) (nI x - nI y)) = mx 0 (nI x - nI y) := by
  have : x < y ∨ y ≤ x := by omega
  rcases this with h | h
  · have hneg : nI x - nI y < 0 := by
      rw [Int32.lt_iff_toInt_lt, Int32.toInt_sub, nI_toInt (by omega), nI_toInt (by omega), show (0 : Int32).toInt = 0 by decide]
      rw [Int.bmod_eq_of_le (by omega) (by omega)]
      omega
    have h1 : nI x - nI y < nI 99 := Int32.lt_of_lt_of_le hneg (by decide)
    unfold mn
    rw [if_pos h1]
  · rw [nI_sub h]
    unfold mn
    by_cases h1 : nI (x - y) < nI 99
    · rw [if_pos h1]
    · rw [if_neg h1]
      have : ¬ x - y < 99 := fun z => h1 ((nI_ltN (by omega) (by omega)).mpr z)
      rw [show x - y = 99 by omega]
theorem C_kindOf {σ : St} {o m j c a : Nat} {T : Tx} {V : Nat → Int32} (hT : TxC σ 4 T) (hOK : TxOK T) (hR : RS σ o m V) (hm : m ≤ 7) (hj : j < m) (hc : c < tn T) (ha : j = 0 ∨ a < tn T) : f_X1_kindOf σ o (nI c) (nI j) (ahN j a) = some (nI (knd T m j c a)) := by
  have h7 := hOK.1
  have hdc := hOK.2.1 c hc
  unfold f_X1_kindOf knd ahN
  by_cases h0 : j = 0
  · rw [if_pos (by rw [h0]; decide), if_pos h0]; rfl
  · have ha : a < tn T := by rcases ha with z | z; exact absurd z h0; exact z
    have hda := hOK.2.1 a ha
    have n0 : ¬ nI j = (0 : Int32) := fun z => h0 ((nI_eqN (b := 0) (by omega) (by omega)).mp z)
    rw [if_neg n0, if_neg h0, if_neg h0, bind_eq (C_deedOf hT hOK ha), bind_eq (C_deedOf hT hOK hc)]
    by_cases h1 : td T a = 0
    · rw [if_pos (by rw [h1]; decide), if_pos h1]; rfl
    · have n1 : ¬ nI (td T a) = (0 : Int32) := fun z => h1 ((nI_eqN (b := 0) (by omega) (by omega)).mp z)
      rw [if_neg n1, if_neg h1]
      by_cases h2 : td T a < td T c
      · rw [if_pos h2, if_neg (fun z => by have := (nI_leN (by omega) (by omega)).mp z; omega)]; rfl
      · rw [if_neg h2, if_pos ((nI_leN (by omega) (by omega)).mpr (by omega)), hR.1, show nI m - (1 : Int32) = nI (m - 1) from nI_sub (b := 1) (by omega)]
        by_cases h3 : j + 1 = m
        · rw [if_pos h3, if_pos (by rw [show m - 1 = j by omega])]; rfl
        · rw [if_neg h3, if_neg (fun z => by have := (nI_eqN (by omega) (by omega)).mp z; omega)]; rfl
theorem C_suffering {σ : St} {o m j c a : Nat} {T : Tx} {V : Nat → Int32} (hT : TxC σ 4 T) (hOK : TxOK T) (hR : RS σ o m V) (hmV : V 7 = nI m) (ho : 37 < o) (hm : m ≤ 7) (hj : j < m) (hc : c < tn T) (ha : j = 0 ∨ a < tn T) :
    ∃ σ', fr 22 23 σ σ' ∧ f_X1_suffering σ o (nI c) (nI j) (ahN j a) = some (suf T V m j c a, σ') := by
  have hk := C_kindOf hT hOK hR hm hj hc ha
  unfold f_X1_suffering suf
  rw [bind_eq hk]
  by_cases h1 : knd T m j c a = 1
  · exact ⟨σ, fr_refl _ _ _, by rw [if_pos h1, if_pos (by rw [h1]; decide)]⟩
  · have hk5 : knd T m j c a < 5 := by
      unfold knd
      by_cases z : j = 0
      · rw [if_pos z]; omega
      · rw [if_neg z]
        by_cases z : td T a = 0
        · rw [if_pos z]; omega
        · rw [if_neg z]
          by_cases z : td T a < td T c
          · rw [if_pos z]; omega
          · rw [if_neg z]
            by_cases z : j + 1 = m
            · rw [if_pos z]; omega
            · rw [if_neg z]; omega
    have n1 : ¬ nI (knd T m j c a) = (1 : Int32) := fun z => h1 ((nI_eqN (b := 1) (by omega) (by omega)).mp z)
    rw [if_neg n1, if_neg h1]
    obtain ⟨σ1, a1, a2, a3⟩ := C_seat hT hOK hR hmV ho hc (nI j) (ahN j a)
    have T1 := TxC_fr a1 (by omega) hT
    have R1 := RS_fr a1 (by omega) hR
    rw [bind_eq a2]
    by_cases h0 : knd T m j c a = 0
    · have hj0 : j = 0 := by
        unfold knd at h0
        by_cases z : j = 0
        · exact z
        · rw [if_neg z] at h0
          by_cases z : td T a = 0
          · rw [if_pos z] at h0; omega
          · rw [if_neg z] at h0
            by_cases z : td T a < td T c
            · rw [if_pos z] at h0; omega
            · rw [if_neg z] at h0
              by_cases z : j + 1 = m
              · rw [if_pos z] at h0; omega
              · rw [if_neg z] at h0; omega
      obtain ⟨σ2, b1, b2, b3⟩ := C_sentence (k := 0) (d := V 9) (vs := VV T V c (nI j) (plB V (ahN j a)) (V 9)) T1 hOK (by omega) rfl (fun k hk h0 => a3 _ k hk h0)
      have b2 : f_X1_sentence σ1 0 (V 9) = _ := b2
      refine ⟨σ2, fr_trans (fr_mono a1 (by omega) (by omega)) b1, ?_⟩
      rw [if_pos h0, if_pos (by rw [h0]; decide), R1.2.2.1, bnd2_eq b2]
      rw [show ahN j a = -1 by unfold ahN; rw [if_pos hj0]]
    · have n0 : ¬ nI (knd T m j c a) = (0 : Int32) := fun z => h0 ((nI_eqN (b := 0) (by omega) (by omega)).mp z)
      have hj0 : ¬ j = 0 := fun z => h0 (by unfold knd; rw [if_pos z])
      have ha : a < tn T := by rcases ha with z | z; exact absurd z hj0; exact z
      have hah : ahN j a = nI a := by unfold ahN; rw [if_neg hj0]
      rw [hah] at a3 ⊢
      obtain ⟨σ2, b1, b2, b3⟩ := C_sentence (k := 0) (d := nI (td T a)) (vs := VV T V c (nI j) (plB V (nI a)) (nI (td T a))) T1 hOK (by omega) rfl (fun k hk h0 => a3 _ k hk h0)
      have b2 : f_X1_sentence σ1 0 (nI (td T a)) = _ := b2
      have T2 := TxC_fr b1 (by omega) T1
      have R2 := RS_fr b1 (by omega) R1
      have g2 : fr 22 23 σ σ2 := fr_trans (fr_mono a1 (by omega) (by omega)) b1
      rw [if_neg n0, if_neg h0, bind_eq (C_deedOf T1 hOK ha), bnd2_eq b2, bind_eq (C_isPleading R2 (nI a)), wlet_eq]
      have fin : ∀ (s : St) (x : Int32), TxC s 4 T → (if nI (knd T m j c a) = (2 : Int32) then (some ((x / (2 : Int32)), s)) else (if nI (knd T m j c a) = (3 : Int32) then (Option.bind (f_X8_deedOf s 4 (nI c)) fun v18 => some ((x + (v18 / (4 : Int32))), s)) else (some (x, s)))) = some (sufK (knd T m j c a) x (td T c), s) := by
        intro s x hs
        unfold sufK
        by_cases h2 : knd T m j c a = 2
        · rw [if_pos h2, if_pos (by rw [h2]; decide)]
        · have n2 : ¬ nI (knd T m j c a) = (2 : Int32) := fun z => h2 ((nI_eqN (b := 2) (by omega) (by omega)).mp z)
          rw [if_neg h2, if_neg n2]
          by_cases h3 : knd T m j c a = 3
          · rw [if_pos h3, if_pos (by rw [h3]; decide), bind_eq (C_deedOf hs hOK hc)]
          · have n3 : ¬ nI (knd T m j c a) = (3 : Int32) := fun z => h3 ((nI_eqN (b := 3) (by omega) (by omega)).mp z)
            rw [if_neg h3, if_neg n3]
      unfold sufM
      by_cases hp : plB V (nI a) = 0
      · rw [if_pos hp, if_pos hp]
        exact ⟨σ2, g2, fin _ _ T2⟩
      · rw [if_neg hp, if_neg hp, bind_eq (C_deedOf T2 hOK ha)]
        obtain ⟨σ3, c1, c2, c3⟩ := C_sentence (k := 1) (d := nI (td T a)) (vs := VV T V c (nI j) (plB V (nI a)) (nI (td T a))) T2 hOK (by omega) rfl (fun k hk h0 => (b3 k hk h0).trans (a3 _ k hk h0))
        have c2 : f_X1_sentence σ2 1 (nI (td T a)) = _ := c2
        rw [bnd2_eq c2, wlet_eq]
        exact ⟨σ3, fr_trans g2 c1, fin _ _ (TxC_fr c1 (by omega) T2)⟩
