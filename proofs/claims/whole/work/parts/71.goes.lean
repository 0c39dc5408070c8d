/-! STAGE B, 22: sessions go by; which a case is; scratch of a call -/
def zSg1 (o1 : Nat) (x2 : Int32) (x3 : Int32) : St × Int32 → Option ((St × Int32) ⊕ (St)) :=
  un2 (fun (σ3_1 : St) (x4_3_1 : Int32) => if x2 ≤ x4_3_1 then (some (.inr σ3_1)) else (Option.bind (f_X1_sitOnce σ3_1 o1 x3) fun σ4 => wlet (x4_3_1 + (1 : Int32)) fun v5 => some (.inl (σ4, v5))))
def zMh1 (x1 : Int32) : St × Int32 → Option ((St × Int32) ⊕ (St)) :=
  un2 (fun (σ2_1 : St) (x2_2_1 : Int32) => if x1 ≤ x2_2_1 then (some (.inr σ2_1)) else (Option.bind (f_X11_sessionGoes σ2_1) fun σ4 => wlet (x2_2_1 + (1 : Int32)) fun v5 => some (.inl (σ4, v5))))
theorem zWV_goes {T : Tx} {s : Int32} {n m : Nat} {V : Nat → Int32} (hW : WV n m V) : ∀ k, WV n (zgoes T s k (m, V)).1 (zgoes T s k (m, V)).2 := by
  intro k
  induction k with
  | zero => exact hW
  | succ k ih => exact zWV_ses ih
theorem C_goThrough {σ : St} {o m k : Nat} {T : Tx} {V : Nat → Int32} {s : Int32} (hT : TxC σ 4 T) (hOK : TxOK T) (hR : RS σ o m V) (hW : WV (tn T) m V) (ho : 37 < o) (hk : k ≤ 40) :
    ∃ σ', zFo o σ σ' ∧ f_X1_goThrough σ o (nI k) s = some σ' ∧ RS σ' o (zgoes T s k (m, V)).1 (zgoes T s k (m, V)).2 := by
  obtain ⟨s1, q1, f1, r1⟩ := zinv (st := zSg1 o (nI k) s) (s0 := (σ, 0)) (fun t x => zFo o σ x.1 ∧ x.2 = nI t ∧ RS x.1 o (zgoes T s t (m, V)).1 (zgoes T s t (m, V)).2) (fun r => zFo o σ r ∧ RS r o (zgoes T s k (m, V)).1 (zgoes T s k (m, V)).2) k (by omega) ⟨zFo_refl _ _, rfl, hR⟩ (by
    rintro t ⟨x, p⟩ ht ⟨h1, h2, h3⟩
    have h1 : zFo o σ x := h1
    have h2 : p = nI t := h2
    subst h2
    obtain ⟨x', g1, g2, g3⟩ := C_sitOnce (x2 := s) (zTx_Fo h1 ho hT) hOK h3 (zWV_goes hW t) ho
    have n1 : ¬ nI k ≤ nI t := fun z => by have := (nI_leN (by omega) (by omega)).mp z; omega
    refine Or.inl ⟨(x', nI (t + 1)), ?_, zFo_trans h1 g1, rfl, g3⟩
    unfold zSg1
    dsimp only [un2]
    rw [if_neg n1, bind_eq g2, wlet_eq, nI_succ]) (by
    rintro ⟨x, p⟩ ⟨h1, h2, h3⟩
    have h2 : p = nI k := h2
    subst h2
    refine ⟨x, ?_, h1, h3⟩
    unfold zSg1
    dsimp only [un2]
    rw [if_pos ((nI_leN (by omega) (by omega)).mpr (Nat.le_refl _))])
  refine ⟨s1, f1, ?_, r1⟩
  unfold f_X1_goThrough
  rw [wlet_eq]
  exact bind_eq q1
theorem M_goes {τ : St} {m k : Nat} {T : Tx} (hT : TxM τ T) (hOK : TxOK T) (hW : WV (tn T) m (τ.1 27)) (hk : k ≤ 40) :
    ∃ τ', zLc τ τ' ∧ f_X11_goes τ (nI k) = some τ' ∧ τ'.1 27 = (zgoes T (τ.1 0 45) k (m, τ.1 27)).2 := by
  obtain ⟨s1, q1, f1, r1⟩ := zinv (st := zMh1 (nI k)) (s0 := (τ, 0)) (fun t x => zLc τ x.1 ∧ x.2 = nI t ∧ x.1.1 27 = (zgoes T (τ.1 0 45) t (m, τ.1 27)).2) (fun r => zLc τ r ∧ r.1 27 = (zgoes T (τ.1 0 45) k (m, τ.1 27)).2) k (by omega) ⟨zLc_refl _, rfl, rfl⟩ (by
    rintro t ⟨x, p⟩ ht ⟨h1, h2, h3⟩
    have h1 : zLc τ x := h1
    have h2 : p = nI t := h2
    subst h2
    have h3 : x.1 27 = _ := h3
    obtain ⟨x', g1, g2, g3⟩ := M_sessionGoes (m := (zgoes T (τ.1 0 45) t (m, τ.1 27)).1) (zTx_Lc h1 hT) hOK (by rw [h3]; exact zWV_goes hW t)
    rw [h3, h1.2.1 45 (by omega)] at g3
    have n1 : ¬ nI k ≤ nI t := fun z => by have := (nI_leN (by omega) (by omega)).mp z; omega
    refine Or.inl ⟨(x', nI (t + 1)), ?_, zLc_trans h1 g1, rfl, g3⟩
    unfold zMh1
    dsimp only [un2]
    rw [if_neg n1, bind_eq g2, wlet_eq, nI_succ]) (by
    rintro ⟨x, p⟩ ⟨h1, h2, h3⟩
    have h2 : p = nI k := h2
    subst h2
    refine ⟨x, ?_, h1, h3⟩
    unfold zMh1
    dsimp only [un2]
    rw [if_pos ((nI_leN (by omega) (by omega)).mpr (Nat.le_refl _))])
  refine ⟨s1, f1, ?_, r1⟩
  unfold f_X11_goes
  rw [wlet_eq]
  exact bind_eq q1
-- which a number is
theorem zin_l {x lo hi : Int32} (h : x < lo) : f_X11_in x lo hi = some 0 := by
  unfold f_X11_in
  rw [if_pos h]
theorem zin_r {x lo hi : Int32} (h : hi < x) : f_X11_in x lo hi = some 0 := by
  unfold f_X11_in
  by_cases h1 : x < lo
  · rw [if_pos h1]
  · rw [if_neg h1, if_pos h]
theorem zin_t {x lo hi : Int32} (h : ¬ x < lo) (h2 : ¬ hi < x) : f_X11_in x lo hi = some 1 := by
  unfold f_X11_in
  rw [if_neg h, if_neg h2]
theorem bz0 : bz 0 = true := by decide
theorem bz1 : bz 1 = true := by decide
theorem M_isLong_f {x : Int32} (h : x < 0 ∨ (40 : Int32) < x) : f_X11_isLong x = some 0 := by
  unfold f_X11_isLong
  have : f_X11_in x 0 40 = some 0 := by
    rcases h with h | h
    · exact zin_l h
    · exact zin_r h
  rw [bind_eq this, if_pos bz0]
theorem M_isLong_t {x : Int32} (h : ¬ x < 0) (h2 : ¬ (40 : Int32) < x) : f_X11_isLong x = some 1 := by
  unfold f_X11_isLong
  rw [bind_eq (zin_t h h2), if_pos bz1]
theorem M_isMark_f {x : Int32} (h : x < 0 ∨ (999 : Int32) < x) : f_X11_isMark x = some 0 := by
  unfold f_X11_isMark
  have : f_X11_in x 0 999 = some 0 := by
    rcases h with h | h
    · exact zin_l h
    · exact zin_r h
  rw [bind_eq this, if_pos bz0]
theorem M_isMark_t {x : Int32} (h : ¬ x < 0) (h2 : ¬ (999 : Int32) < x) : f_X11_isMark x = some 1 := by
  unfold f_X11_isMark
  rw [bind_eq (zin_t h h2), if_pos bz1]
theorem zlt_le {n : Nat} {x : Int32} (hn : n < 2 ^ 31) : ¬ (nI n - (1 : Int32)) < x ↔ x < nI n := by
  rw [Int32.lt_iff_toInt_lt, Int32.lt_iff_toInt_lt, Int32.toInt_sub, nI_toInt hn, show (1 : Int32).toInt = 1 by decide, Int.bmod_eq_of_le (by omega) (by omega)]
  omega
theorem M_isCase_t {τ : St} {T : Tx} {c : Nat} (hT : TxM τ T) (hOK : TxOK T) (hc : c < tn T) : f_X11_isCase τ (nI c) = some 1 := by
  have h7 := hOK.1
  obtain ⟨w, w1, w2, w3, _⟩ := hT
  unfold f_X11_isCase
  rw [w2, if_ib (ib_t (by omega) (by omega)), nI_clamp (by omega), w3, bind_eq (zin_t (nI_pos (by omega)) ((zlt_le (by omega)).mpr ((nI_ltN (by omega) (by omega)).mpr hc))), if_pos bz1]
theorem M_isCase_f {τ : St} {T : Tx} {x : Int32} (hT : TxM τ T) (hOK : TxOK T) (h : x < 0 ∨ nI (tn T) ≤ x) : f_X11_isCase τ x = some 0 := by
  have h7 := hOK.1
  obtain ⟨w, w1, w2, w3, _⟩ := hT
  unfold f_X11_isCase
  have : f_X11_in x 0 (nI (tn T) - (1 : Int32)) = some 0 := by
    rcases h with h | h
    · exact zin_l h
    · refine zin_r (Classical.byContradiction fun z => ?_)
      exact (Int32.not_lt.mpr h) ((zlt_le (by omega)).mp z)
  rw [w2, if_ib (ib_t (by omega) (by omega)), nI_clamp (by omega), w3, bind_eq this, if_pos bz0]
theorem C_has_f {σ : St} {T : Tx} {x : Int32} (hT : TxC σ 4 T) (h : x < 0 ∨ nI (tn T) ≤ x) : f_X8_has σ 4 x = some 0 := by
  unfold f_X8_has
  by_cases h1 : x < 0
  · rw [if_pos h1]
  · rw [if_neg h1, hT.1, if_pos (by rcases h with h | h; exact absurd h h1; exact h)]
theorem M_isOn {τ : St} {m : Nat} (hm : m ≤ 7) (h : τ.1 27 7 = nI m) (x : Int32) : f_X11_isOn τ x = some (if pO (τ.1 27) m x = -1 then 0 else 1) := by
  unfold f_X11_isOn
  rw [bind_eq (M_placeOf hm h x)]
  rcases pO_cases (τ.1 27) m x with ⟨j, j1, j2, j3, j4⟩ | ⟨j1, j2⟩
  · rw [j3, if_neg (nI_pos (by omega)), if_neg (nI_ne_m1 (by omega))]
  · rw [j2, if_pos (by decide), if_pos rfl]
/-- on the list, off it, no case -/
theorem zwho {n m : Nat} {V : Nat → Int32} (hW : WV n m V) (x : Int32) : (∃ j, j < m ∧ x = V j) ∨ (∃ c, c < n ∧ x = nI c ∧ pO V m x = -1) ∨ ((x < 0 ∨ nI n ≤ x) ∧ pO V m x = -1) := by
  rcases pO_cases V m x with ⟨j, j1, j2, j3, j4⟩ | ⟨j1, j2⟩
  · exact Or.inl ⟨j, j1, j2.symm⟩
  · by_cases h : x < 0
    · exact Or.inr (Or.inr ⟨Or.inl h, j2⟩)
    · obtain ⟨k, k1, rfl⟩ := i_nat h
      by_cases h2 : k < n
      · exact Or.inr (Or.inl ⟨k, h2, rfl, j2⟩)
      · exact Or.inr (Or.inr ⟨Or.inr ((nI_leN (by have := hW.2.1; omega) k1).mpr (by omega)), j2⟩)
theorem zcase {n : Nat} (hn : n ≤ 7) (x : Int32) : (∃ c, c < n ∧ x = nI c) ∨ (x < 0 ∨ nI n ≤ x) := by
  by_cases h : x < 0
  · exact Or.inr (Or.inl h)
  · obtain ⟨k, k1, rfl⟩ := i_nat h
    by_cases h2 : k < n
    · exact Or.inl ⟨k, h2, rfl⟩
    · exact Or.inr (Or.inr ((nI_leN (by omega) k1).mpr (by omega)))
theorem znat {x : Int32} {N : Nat} (hN : N < 2 ^ 31) (h : ¬ x < 0) (h2 : ¬ nI N < x) : ∃ k, k ≤ N ∧ x = nI k := by
  obtain ⟨k, k1, rfl⟩ := i_nat h
  exact ⟨k, Nat.le_of_not_lt fun z => h2 ((nI_ltN hN k1).mpr z), rfl⟩
-- scratch of a call of the class
def zK (σ σ' : St) : Prop := (∀ c, (c < 22 ∨ (30 < c ∧ c ≠ 31 ∧ c ≠ 35 ∧ (c < 42 ∨ 45 < c))) → σ'.1 c = σ.1 c) ∧ (∀ i, i ≠ 5 → i ≠ 6 → σ'.1 31 i = σ.1 31 i) ∧ σ'.2 = σ.2
theorem zK_refl (σ : St) : zK σ σ := ⟨fun _ _ => rfl, fun _ _ _ => rfl, rfl⟩
theorem zK_trans {a b c : St} (h : zK a b) (h' : zK b c) : zK a c := ⟨fun k hk => (h'.1 k hk).trans (h.1 k hk), fun i h1 h2 => (h'.2.1 i h1 h2).trans (h.2.1 i h1 h2), h'.2.2.trans h.2.2⟩
theorem zK_fr {a b : St} (h : fr 22 30 a b) : zK a b := ⟨fun k hk => h.1 k (by omega), fun i _ _ => by rw [h.1 31 (by omega)], h.2⟩
theorem zK_frj {a b : St} (h : fr 22 23 a b) : zK a b := zK_fr (fr_mono h (by omega) (by omega))
theorem zK_tr {a b : St} (h : fr 42 45 a b) : zK a b := ⟨fun k hk => h.1 k (by omega), fun i _ _ => by rw [h.1 31 (by omega)], h.2⟩
theorem zK_Fo {a b : St} (h : zFo 42 a b) : zK a b := ⟨fun k hk => h.1 k (by omega) (by omega), fun i _ _ => by rw [h.1 31 (by omega) (by omega)], h.2⟩
theorem zTx_K {σ σ' : St} {T : Tx} (h : zK σ σ') (hT : TxC σ 4 T) : TxC σ' 4 T := by
  unfold TxC at hT ⊢
  rw [h.1 4 (by omega), h.1 (4 + 1) (by omega), h.1 (4 + 2) (by omega), h.1 (4 + 3) (by omega), h.1 (4 + 4) (by omega)]
  exact hT
theorem zRS_K {σ σ' : St} {m : Nat} {V : Nat → Int32} (h : zK σ σ') (hR : RS σ 38 m V) : RS σ' 38 m V := by
  unfold RS at hR ⊢
  rw [h.1 38 (by omega), h.1 (38 + 1) (by omega), h.1 (38 + 2) (by omega), h.1 (38 + 3) (by omega)]
  exact hR
