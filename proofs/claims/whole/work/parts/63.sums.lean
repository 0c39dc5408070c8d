/-! STAGE B, 14: sums over the list -/
def fo (g : Int32 → Int32 → Int32) (f : Nat → Int32) : Nat → Nat → Int32 → Int32
  | 0, _, a => a
  | k + 1, i, a => fo g f k (i + 1) (g a (f i))
theorem fo_congr {g : Int32 → Int32 → Int32} {f f' : Nat → Int32} : ∀ {k i : Nat} {a : Int32}, (∀ j, i ≤ j → j < i + k → f j = f' j) → fo g f k i a = fo g f' k i a := by
  intro k
  induction k with
  | zero => intro i a _; rfl
  | succ k ih =>
    intro i a h
    rw [fo, fo, h i (Nat.le_refl _) (by omega)]
    exact ih (fun j h1 h2 => h j (by omega) (by omega))
theorem lp_fold {st : St × Int32 × Int32 → Option ((St × Int32 × Int32) ⊕ (St × Int32))} (P : St → Prop) (g : Int32 → Int32 → Int32) (f : Nat → Int32) (m : Nat) (hm : m < 1000) (hs : ∀ s a j, P s → j < m → ∃ s', P s' ∧ st (s, a, nI j) = some (.inl (s', g a (f j), nI (j + 1)))) (ho : ∀ s a, P s → st (s, a, nI m) = some (.inr (s, a))) :
    ∀ (k i F : Nat) (s : St) (a : Int32), P s → i + k = m → ∃ s', P s' ∧ lp st (F + k + 1) (s, a, nI i) = some (s', fo g f k i a) := by
  intro k
  induction k with
  | zero =>
    intro i F s a hP hi
    have hi : i = m := hi
    subst hi
    exact ⟨s, hP, lp_out (ho s a hP)⟩
  | succ k ih =>
    intro i F s a hP hi
    obtain ⟨s', h1, h2⟩ := hs s a i hP (by omega)
    obtain ⟨s2, h3, h4⟩ := ih (i + 1) F s' (g a (f i)) h1 (by omega)
    refine ⟨s2, h3, ?_⟩
    rw [show F + (k + 1) + 1 = F + k + 1 + 1 by omega, lp_step h2, h4]
    rfl
theorem lp_foldB {st : St × Int32 × Int32 → Option ((St × Int32 × Int32) ⊕ (St × Int32))} (P : St → Prop) (g : Int32 → Int32 → Int32) (f : Nat → Int32) (m : Nat) (hm : m < 1000) (s : St) (a : Int32) (hP : P s) (hs : ∀ s a j, P s → j < m → ∃ s', P s' ∧ st (s, a, nI j) = some (.inl (s', g a (f j), nI (j + 1)))) (ho : ∀ s a, P s → st (s, a, nI m) = some (.inr (s, a))) :
    ∃ s', P s' ∧ Option.bind (lp st fuel (s, a, 0)) (un2 (fun (e : St) (x : Int32) => some (x, e))) = some (fo g f m 0 a, s') := by
  obtain ⟨s', h1, h2⟩ := lp_fold P g f m hm hs ho m 0 (fuel - m - 1) s a hP (by omega)
  rw [show fuel - m - 1 + m + 1 = fuel by rw [fuel_eq]; omega] at h2
  have h2 : lp st fuel (s, a, 0) = _ := h2
  exact ⟨s', h1, by rw [h2]; rfl⟩
/-- the case at a place -/
def cN (V : Nat → Int32) (j : Nat) : Nat := (V j).toNatClampNeg
theorem cN_eq {n m : Nat} {V : Nat → Int32} (hW : WV n m V) {j : Nat} (hj : j < m) : V j = nI (cN V j) ∧ cN V j < n := by
  obtain ⟨k, k1, k2⟩ := hW.2.2.2.1 j hj
  have : cN V j = k := by unfold cN; rw [k2, nI_clamp (by have := hW.2.1; omega)]
  rw [this]; exact ⟨k2, k1⟩
/-- the suffering at a place of the list -/
def sufAt (T : Tx) (V : Nat → Int32) (m j : Nat) : Int32 := suf T V m j (cN V j) (cN V (j - 1))
theorem C_docketAt {σ : St} {o m j : Nat} {V : Nat → Int32} (hR : RS σ o m V) (hm : m ≤ 7) (hj : j < m) : f_X6_docketAt σ o (nI j) = some (V j) := by
  have n1 : ¬ nI j < 0 := nI_pos (by omega)
  have n2 : ¬ nI m ≤ nI j := fun z => by have := (nI_leN (by omega) (by omega)).mp z; omega
  have n3 : ¬ (7 : Int32) ≤ nI j := fun z => by have := (nI_leN (a := 7) (by omega) (by omega)).mp z; omega
  unfold f_X6_docketAt
  rw [if_neg n1, hR.1, if_neg n2, if_neg n3, if_ib (ib_t (by omega) (by omega)), nI_clamp (by omega), hR.2.2.2.2.2.1 j hj]
theorem C_docketAt_out {σ : St} {o m : Nat} {V : Nat → Int32} (hR : RS σ o m V) {x : Int32} (h : x < 0 ∨ nI m ≤ x) : f_X6_docketAt σ o x = some (-1) := by
  unfold f_X6_docketAt
  by_cases n1 : x < 0
  · rw [if_pos n1]
  · rw [if_neg n1, hR.1, if_pos (by rcases h with h | h; exact absurd h n1; exact h)]
theorem C_aheadOf {σ : St} {o m j : Nat} {V : Nat → Int32} (hR : RS σ o m V) (hm : m ≤ 7) (hj : j < m) : f_X6_aheadOf σ o (nI j) = some (ahd V j) := by
  unfold f_X6_aheadOf ahd
  by_cases h : j = 0
  · rw [if_pos h, h, bind_eq (C_docketAt_out hR (Or.inl (by decide)))]
  · rw [if_neg h, show nI j - (1 : Int32) = nI (j - 1) from nI_sub (b := 1) (by omega), bind_eq (C_docketAt hR hm (by omega))]
theorem ahd_ahN {n m : Nat} {V : Nat → Int32} (hW : WV n m V) {j : Nat} (hj : j < m) : ahd V j = ahN j (cN V (j - 1)) := by
  unfold ahd ahN
  by_cases h : j = 0
  · rw [if_pos h, if_pos h]
  · rw [if_neg h, if_neg h]; exact (cN_eq hW (by omega)).1
theorem C_sufferingAt {σ : St} {o m j : Nat} {T : Tx} {V : Nat → Int32} (hT : TxC σ 4 T) (hOK : TxOK T) (hR : RS σ o m V) (hW : WV (tn T) m V) (ho : 37 < o) (hj : j < m) :
    ∃ σ', fr 22 23 σ σ' ∧ f_X1_sufferingAt σ o (nI j) = some (sufAt T V m j, σ') := by
  have h7 : m ≤ 7 := by have := hW.1; have := hW.2.1; omega
  obtain ⟨e1, e2⟩ := cN_eq hW hj
  obtain ⟨σ', a1, a2⟩ := C_suffering (j := j) (c := cN V j) (a := cN V (j - 1)) hT hOK hR hW.2.2.1 ho h7 hj e2 (by
    by_cases z : j = 0
    · exact Or.inl z
    · exact Or.inr (cN_eq hW (by omega)).2)
  refine ⟨σ', a1, ?_⟩
  unfold f_X1_sufferingAt
  rw [bind_eq (C_docketAt hR h7 hj), bind_eq (C_aheadOf hR h7 hj), ahd_ahN hW hj, e1, bnd2_eq a2]
  rfl
theorem M_sufferAt' {τ : St} {m j : Nat} {T : Tx} (hT : TxM τ T) (hOK : TxOK T) (hW : WV (tn T) m (τ.1 27)) (hj : j < m) :
    ∃ τ', fl τ τ' ∧ f_X11_sufferAt τ (nI j) = some (sufAt T (τ.1 27) m j, τ') := by
  obtain ⟨e1, e2⟩ := cN_eq hW hj
  exact M_sufferAt (c := cN (τ.1 27) j) (a := cN (τ.1 27) (j - 1)) hT hOK hW hj e1 e2 (by
    by_cases z : j = 0
    · exact Or.inl z
    · exact Or.inr ⟨(cN_eq hW (by omega)).2, (cN_eq hW (by omega)).1⟩)
theorem C_allSuffering {σ : St} {o m : Nat} {T : Tx} {V : Nat → Int32} (hT : TxC σ 4 T) (hOK : TxOK T) (hR : RS σ o m V) (hW : WV (tn T) m V) (ho : 37 < o) :
    ∃ σ', fr 22 23 σ σ' ∧ f_X1_allSuffering σ o = some (fo (· + ·) (sufAt T V m) m 0 0, σ') := by
  have h7 : m ≤ 7 := by have := hW.1; have := hW.2.1; omega
  refine lp_foldB (fr 22 23 σ) (· + ·) (sufAt T V m) m (by omega) σ 0 (fr_refl _ _ _) (fun s a j hP hj => ?_) (fun s a hP => ?_)
  · have Rs := RS_fr hP (by omega) hR
    obtain ⟨s', a1, a2⟩ := C_sufferingAt (TxC_fr hP (by omega) hT) hOK Rs hW ho hj
    have n2 : ¬ nI m ≤ nI j := fun z => by have := (nI_leN (by omega) (by omega)).mp z; omega
    refine ⟨s', fr_trans hP a1, ?_⟩
    dsimp only [un3]
    rw [Rs.1, if_neg n2, bnd2_eq a2, wlet_eq, wlet_eq, nI_succ]
  · have Rs := RS_fr hP (by omega) hR
    dsimp only [un3]
    rw [Rs.1, if_pos ((nI_leN (by omega) (by omega)).mpr (Nat.le_refl _))]
theorem C_worstSuffering {σ : St} {o m : Nat} {T : Tx} {V : Nat → Int32} (hT : TxC σ 4 T) (hOK : TxOK T) (hR : RS σ o m V) (hW : WV (tn T) m V) (ho : 37 < o) :
    ∃ σ', fr 22 23 σ σ' ∧ f_X1_worstSuffering σ o = some (fo mx (sufAt T V m) m 0 0, σ') := by
  have h7 : m ≤ 7 := by have := hW.1; have := hW.2.1; omega
  refine lp_foldB (fr 22 23 σ) mx (sufAt T V m) m (by omega) σ 0 (fr_refl _ _ _) (fun s a j hP hj => ?_) (fun s a hP => ?_)
  · have Rs := RS_fr hP (by omega) hR
    obtain ⟨s', a1, a2⟩ := C_sufferingAt (TxC_fr hP (by omega) hT) hOK Rs hW ho hj
    have n2 : ¬ nI m ≤ nI j := fun z => by have := (nI_leN (by omega) (by omega)).mp z; omega
    refine ⟨s', fr_trans hP a1, ?_⟩
    dsimp only [un3]
    rw [Rs.1, if_neg n2, bnd2_eq a2, wlet_eq, wlet_eq, nI_succ]
  · have Rs := RS_fr hP (by omega) hR
    dsimp only [un3]
    rw [Rs.1, if_pos ((nI_leN (by omega) (by omega)).mpr (Nat.le_refl _))]
theorem fl27 {τ τ' : St} (h : fl τ τ') : τ'.1 27 = τ.1 27 := h.1 27 (by omega) (by omega) (by omega)
theorem M_sufferAll {τ : St} {m : Nat} {T : Tx} (hT : TxM τ T) (hOK : TxOK T) (hW : WV (tn T) m (τ.1 27)) :
    ∃ τ', fl τ τ' ∧ f_X11_sufferAll τ = some (fo (· + ·) (sufAt T (τ.1 27) m) m 0 0, τ') := by
  have h7 : m ≤ 7 := by have := hW.1; have := hW.2.1; omega
  refine lp_foldB (fl τ) (· + ·) (sufAt T (τ.1 27) m) m (by omega) τ 0 (fl_refl _) (fun s a j hP hj => ?_) (fun s a hP => ?_)
  · obtain ⟨s', a1, a2⟩ := M_sufferAt' (TxM_fl hP hT) hOK (by rw [fl27 hP]; exact hW) hj
    rw [fl27 hP] at a2
    have n2 : ¬ nI m ≤ nI j := fun z => by have := (nI_leN (by omega) (by omega)).mp z; omega
    refine ⟨s', fl_trans hP a1, ?_⟩
    dsimp only [un3]
    rw [if_ib b726, c7, fl27 hP, hW.2.2.1, if_neg n2, bnd2_eq a2, wlet_eq, wlet_eq, nI_succ]
  · dsimp only [un3]
    rw [if_ib b726, c7, fl27 hP, hW.2.2.1, if_pos ((nI_leN (by omega) (by omega)).mpr (Nat.le_refl _))]
theorem M_mostAny {τ : St} {m : Nat} {T : Tx} (hT : TxM τ T) (hOK : TxOK T) (hW : WV (tn T) m (τ.1 27)) :
    ∃ τ', fl τ τ' ∧ f_X11_mostAny τ = some (fo mx (sufAt T (τ.1 27) m) m 0 0, τ') := by
  have h7 : m ≤ 7 := by have := hW.1; have := hW.2.1; omega
  refine lp_foldB (fl τ) mx (sufAt T (τ.1 27) m) m (by omega) τ 0 (fl_refl _) (fun s a j hP hj => ?_) (fun s a hP => ?_)
  · obtain ⟨s', a1, a2⟩ := M_sufferAt' (TxM_fl hP hT) hOK (by rw [fl27 hP]; exact hW) hj
    have hP2 := fl_trans hP a1
    obtain ⟨s2, b1, b2⟩ := M_sufferAt' (TxM_fl hP2 hT) hOK (by rw [fl27 hP2]; exact hW) hj
    rw [fl27 hP] at a2
    rw [fl27 hP2] at b2
    have n2 : ¬ nI m ≤ nI j := fun z => by have := (nI_leN (by omega) (by omega)).mp z; omega
    by_cases q : sufAt T (τ.1 27) m j ≤ a
    · refine ⟨s', hP2, ?_⟩
      dsimp only [un3]
      rw [if_ib b726, c7, fl27 hP, hW.2.2.1, if_neg n2, bnd2_eq a2, if_pos q, wlet_eq, nI_succ]
      unfold mx
      rw [if_neg (Int32.not_lt.mpr q)]
    · refine ⟨s2, fl_trans hP2 b1, ?_⟩
      dsimp only [un3]
      rw [if_ib b726, c7, fl27 hP, hW.2.2.1, if_neg n2, bnd2_eq a2, if_neg q, bnd2_eq b2, wlet_eq, nI_succ]
      unfold mx
      rw [if_pos (Int32.not_le.mp q)]
  · dsimp only [un3]
    rw [if_ib b726, c7, fl27 hP, hW.2.2.1, if_pos ((nI_leN (by omega) (by omega)).mpr (Nat.le_refl _))]
