/-! STAGE B, 11: doom, plea, fee, chance of the reference -/
theorem M_law {τ : St} {T : Tx} {k : Nat} {x2 : Int32} {vs : Nat → Int32} (hT : TxM τ T) (hOK : TxOK T) (hk : k < 4) (hvs : ∀ k, k < 9 → τ.1 24 k = vs k) (hx : lawV vs [] (dflt k) = x2) :
    ∃ τ', fl τ τ' ∧ f_X11_lawTells τ (nI k) x2 = some (lawV vs (tr T k) (te T k), τ') := by
  obtain ⟨w, w1, w2, _, _, _, _, w7⟩ := hT
  have hat : (4 : Int32) * τ.1 0 18 + nI k = nI (4 * w + k) := by rw [w2, mul4 w1, nI_add']
  rcases w7 k hk with ⟨h1, h2, h3⟩ | ⟨b, B, h1, h2, h3, h4, h5⟩
  · refine ⟨τ, fl_refl _, ?_⟩
    rw [M_lawPlain (by omega) hat h1, h2, h3, hx]
  · exact M_lawTells (by omega) hat (by omega) (by omega) (hOK.2.2.2.2 k hk) h5 h3 h4 hvs
theorem dflt0 (vs : Nat → Int32) : lawV vs [] (dflt 0) = vs 0 := rfl
theorem dflt1 (vs : Nat → Int32) : lawV vs [] (dflt 1) = vs 0 / 2 := rfl
theorem dflt2 (vs : Nat → Int32) : lawV vs [] (dflt 2) = vs 0 / 4 := rfl
theorem dflt3 (vs : Nat → Int32) : lawV vs [] (dflt 3) = 0 := rfl
/-- where a case is seen: its place (the list's length where it is off the list) and who pleads ahead -/
def PL (V : Nat → Int32) (i place pl : Int32) : Prop := ((i ≤ 0 ∧ pl = 0) ∨ (∃ j a, j + 1 < 26 ∧ i = nI (j + 1) ∧ a < 7 ∧ V j = nI a ∧ pl = plB V (nI a))) ∧ ((0 ≤ i ∧ place = i) ∨ (¬ 0 ≤ i ∧ place = V 7))
theorem M_doomOf {τ : St} {T : Tx} {c : Nat} {i place pl d : Int32} (hT : TxM τ T) (hOK : TxOK T) (hc : c < tn T) (h : PL (τ.1 27) i place pl) :
    ∃ τ', fl τ τ' ∧ f_X11_doomOf τ (nI c) i d = some (SV T 0 99 (VV T (τ.1 27) c place pl d), τ') := by
  obtain ⟨τ1, a1, a2, a3⟩ := M_views (deed := d) hT hOK hc h.1 h.2
  obtain ⟨τ2, b1, b2⟩ := M_law (k := 0) (TxM_fl a1 hT) hOK (by omega) a3 (x2 := d) (dflt0 _)
  refine ⟨τ2, fl_trans a1 b1, ?_⟩
  unfold f_X11_doomOf
  rw [bind_eq a2, show (0 : Int32) = nI 0 from rfl, bnd2_eq b2, show (99 : Int32) = nI 99 from rfl, show nI 0 = (0 : Int32) from rfl, bind_eq (within_eq _ 99 (by omega))]
  rfl
theorem M_pleaOf {τ : St} {T : Tx} {c : Nat} {i place pl d : Int32} (hT : TxM τ T) (hOK : TxOK T) (hc : c < tn T) (h : PL (τ.1 27) i place pl) :
    ∃ τ', fl τ τ' ∧ f_X11_pleaOf τ (nI c) i d = some (SV T 1 99 (VV T (τ.1 27) c place pl d), τ') := by
  obtain ⟨τ1, a1, a2, a3⟩ := M_views (deed := d) hT hOK hc h.1 h.2
  obtain ⟨τ2, b1, b2⟩ := M_law (k := 1) (TxM_fl a1 hT) hOK (by omega) a3 (x2 := d / 2) (dflt1 _)
  have b2 : f_X11_lawTells τ1 1 (d / 2) = _ := b2
  refine ⟨τ2, fl_trans a1 b1, ?_⟩
  unfold f_X11_pleaOf
  rw [bind_eq a2, bnd2_eq b2, show (99 : Int32) = nI 99 from rfl, bind_eq (within_eq _ 99 (by omega))]
  rfl
theorem M_feeOf {τ : St} {T : Tx} {c : Nat} {i place pl d : Int32} (hT : TxM τ T) (hOK : TxOK T) (hc : c < tn T) (h : PL (τ.1 27) i place pl) :
    ∃ τ', fl τ τ' ∧ f_X11_feeOf τ (nI c) i d = some (SV T 2 99 (VV T (τ.1 27) c place pl d), τ') := by
  obtain ⟨τ1, a1, a2, a3⟩ := M_views (deed := d) hT hOK hc h.1 h.2
  obtain ⟨τ2, b1, b2⟩ := M_law (k := 2) (TxM_fl a1 hT) hOK (by omega) a3 (x2 := d / 4) (dflt2 _)
  have b2 : f_X11_lawTells τ1 2 (d / 4) = _ := b2
  refine ⟨τ2, fl_trans a1 b1, ?_⟩
  unfold f_X11_feeOf
  rw [bind_eq a2, bnd2_eq b2, show (99 : Int32) = nI 99 from rfl, bind_eq (within_eq _ 99 (by omega))]
  rfl
theorem M_adjournsOf {τ : St} {T : Tx} {c : Nat} {i place pl : Int32} (hT : TxM τ T) (hOK : TxOK T) (hc : c < tn T) (h : PL (τ.1 27) i place pl) :
    ∃ τ', fl τ τ' ∧ f_X11_adjournsOf τ (nI c) i = some (SV T 3 100 (VV T (τ.1 27) c place pl (nI (td T c))), τ') := by
  obtain ⟨τ1, a1, a2, a3⟩ := M_views (deed := nI (td T c)) hT hOK hc h.1 h.2
  obtain ⟨τ2, b1, b2⟩ := M_law (k := 3) (TxM_fl a1 hT) hOK (by omega) a3 (x2 := 0) (dflt3 _)
  have b2 : f_X11_lawTells τ1 3 0 = _ := b2
  refine ⟨τ2, fl_trans a1 b1, ?_⟩
  unfold f_X11_adjournsOf
  rw [bind_eq (M_deedAt hT hOK hc), bind_eq a2, bnd2_eq b2, show (100 : Int32) = nI 100 from rfl, bind_eq (within_eq _ 100 (by omega))]
  rfl
/-- who is ahead of place j -/
def ahd (V : Nat → Int32) (j : Nat) : Int32 := if j = 0 then -1 else V (j - 1)
theorem plB_m1 (V : Nat → Int32) : plB V (-1) = 0 := by
  unfold plB
  rw [if_pos (by decide)]
theorem PL_on {n m : Nat} {V : Nat → Int32} (hW : WV n m V) {j : Nat} (hj : j < m) : PL V (nI j) (nI j) (plB V (ahd V j)) := by
  obtain ⟨h1, h2, h3, h4, h5⟩ := hW
  refine ⟨?_, Or.inl ⟨nI_pos' (by omega), rfl⟩⟩
  unfold ahd
  cases j with
  | zero => exact Or.inl ⟨by decide, by rw [if_pos rfl, plB_m1]⟩
  | succ j =>
    obtain ⟨k, k1, k2⟩ := h4 j (by omega)
    exact Or.inr ⟨j, k, by omega, rfl, by omega, k2, by rw [if_neg (by omega), show j + 1 - 1 = j by omega, k2]⟩
theorem PL_off (V : Nat → Int32) : PL V (-1) (V 7) (plB V (-1)) :=
  ⟨Or.inl ⟨by decide, plB_m1 V⟩, Or.inr ⟨by decide, rfl⟩⟩
theorem ahd_case {n m : Nat} {V : Nat → Int32} (hW : WV n m V) {j : Nat} (hj : j < m) : ahd V j = -1 ∧ j = 0 ∨ ∃ a, a < n ∧ ahd V j = nI a ∧ 0 < j ∧ V (j - 1) = nI a := by
  unfold ahd
  by_cases h : j = 0
  · exact Or.inl ⟨by rw [if_pos h], h⟩
  · obtain ⟨a, a1, a2⟩ := hW.2.2.2.1 (j - 1) (by omega)
    exact Or.inr ⟨a, a1, by rw [if_neg h, a2], by omega, a2⟩
