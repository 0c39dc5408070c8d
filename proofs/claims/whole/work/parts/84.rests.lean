/-! STAGE B, 35: lists that rest, who would trade, settling -/
def zrs (T : Tx) (W : Nat → Int32) (m : Nat) : Prop := ∀ p o, p < o → o < m → ztr T W m p o = false
noncomputable def zrsI (T : Tx) (W : Nat → Int32) (m : Nat) : Int32 := @ite Int32 (zrs T W m) (Classical.propDecidable _) 1 0
theorem zrsI_t {T : Tx} {W : Nat → Int32} {m : Nat} (h : zrs T W m) : zrsI T W m = 1 := by unfold zrsI; rw [if_pos h]
theorem zrsI_f {T : Tx} {W : Nat → Int32} {m : Nat} (h : ¬ zrs T W m) : zrsI T W m = 0 := by unfold zrsI; rw [if_neg h]
def zSr1 : St × Int32 → Option ((St × Int32) ⊕ ((St) ⊕ (Int32 × St))) :=
  un2 (fun (σ2_1 : St) (x1_2_1 : Int32) => if (σ2_1.1 25 5) ≤ x1_2_1 then (some (.inr (.inl σ2_1))) else (wlet (x1_2_1 + (1 : Int32)) fun v3 => wlet (un2 (fun (σ14_4 : St) (x2_14_4 : Int32) => if (σ14_4.1 25 5) ≤ x2_14_4 then (some (.inr (.inl σ14_4))) else (bnd2 (f_X2_isTrade σ14_4 x1_2_1 x2_14_4) fun v8 σ9 => if v8 = 0 then (wlet (x2_14_4 + (1 : Int32)) fun v11 => some (.inl (σ9, v11))) else (some (.inr (.inr ((0 : Int32), σ9)))))) : St × Int32 → Option ((St × Int32) ⊕ ((St) ⊕ (Int32 × St)))) fun st14_4 => Option.bind (lp st14_4 fuel (σ2_1, v3)) (sumk (fun (σe14_4 : St) => wlet (x1_2_1 + (1 : Int32)) fun v5 => some (.inl (σe14_4, v5))) (fun m => some (.inr (.inr m))))))
def zSr2 (x1_2_1 : Int32) : St × Int32 → Option ((St × Int32) ⊕ ((St) ⊕ (Int32 × St))) :=
  un2 (fun (σ14_4 : St) (x2_14_4 : Int32) => if (σ14_4.1 25 5) ≤ x2_14_4 then (some (.inr (.inl σ14_4))) else (bnd2 (f_X2_isTrade σ14_4 x1_2_1 x2_14_4) fun v8 σ9 => if v8 = 0 then (wlet (x2_14_4 + (1 : Int32)) fun v11 => some (.inl (σ9, v11))) else (some (.inr (.inr ((0 : Int32), σ9))))))
def zMr1 : St × Int32 → Option ((St × Int32) ⊕ ((St) ⊕ (Int32 × St))) :=
  un2 (fun (σ2_1 : St) (x1_2_1 : Int32) => if ib (7 : Int32) 26 = true then if (σ2_1.1 27 (Int32.toNatClampNeg (7 : Int32))) ≤ x1_2_1 then (some (.inr (.inl σ2_1))) else (wlet (un2 (fun (σ15_4 : St) (x2_15_4 : Int32) => if x1_2_1 ≤ x2_15_4 then (some (.inr (.inl σ15_4))) else (bnd2 (f_X11_doTrade σ15_4 x1_2_1 x2_15_4) fun v8 σ9 => if v8 = 0 then (wlet (x2_15_4 + (1 : Int32)) fun v11 => some (.inl (σ9, v11))) else (some (.inr (.inr ((0 : Int32), σ9)))))) : St × Int32 → Option ((St × Int32) ⊕ ((St) ⊕ (Int32 × St)))) fun st15_4 => Option.bind (lp st15_4 fuel (σ2_1, (0 : Int32))) (sumk (fun (σe15_4 : St) => wlet (x1_2_1 + (1 : Int32)) fun v5 => some (.inl (σe15_4, v5))) (fun m => some (.inr (.inr m))))) else none)
def zMr2 (x1_2_1 : Int32) : St × Int32 → Option ((St × Int32) ⊕ ((St) ⊕ (Int32 × St))) :=
  un2 (fun (σ15_4 : St) (x2_15_4 : Int32) => if x1_2_1 ≤ x2_15_4 then (some (.inr (.inl σ15_4))) else (bnd2 (f_X11_doTrade σ15_4 x1_2_1 x2_15_4) fun v8 σ9 => if v8 = 0 then (wlet (x2_15_4 + (1 : Int32)) fun v11 => some (.inl (σ9, v11))) else (some (.inr (.inr ((0 : Int32), σ9))))))
theorem C_isResting {T : Tx} {V W : Nat → Int32} {m : Nat} {s : St} (hn : tn T ≤ 7) (h : zO T V m s W) : f_X2_isResting s = some (zrsI T W m, s) := by
  have h7 := zWV7 h.2.2.1
  have inner : ∀ p, p < m → ∃ r, lp (zSr2 (nI p)) fuel (s, nI (p + 1)) = some r ∧ ((r = .inl s ∧ ∀ o, p < o → o < m → ztr T W m p o = false) ∨ (r = .inr (0, s) ∧ ¬ zrs T W m)) := by
    intro p hp
    refine zinv (fun t x => x = (s, nI (p + 1 + t)) ∧ ∀ o, p < o → o < p + 1 + t → ztr T W m p o = false) _ (m - (p + 1)) (by omega) ⟨rfl, fun o h1 h2 => by omega⟩ ?_ ?_
    · rintro t x ht ⟨rfl, h2⟩
      have n1 : ¬ nI m ≤ nI (p + 1 + t) := fun z => by have := (nI_leN (by omega) (by omega)).mp z; omega
      unfold zSr2
      dsimp only [un2]
      rw [h.1, if_neg n1, bnd2_eq (C_isTrade hn h hp (show p + 1 + t < m by omega))]
      by_cases q : ztr T W m p (p + 1 + t) = true
      · rw [if_pos q, if_neg n10]
        exact Or.inr ⟨_, rfl, Or.inr ⟨rfl, fun z => by rw [z p (p + 1 + t) (by omega) (by omega)] at q; cases q⟩⟩
      · rw [if_neg q, if_pos rfl, wlet_eq, ← nI_succ]
        refine Or.inl ⟨_, rfl, rfl, fun o h3 h4 => ?_⟩
        by_cases e : o = p + 1 + t
        · rw [e]; simpa using q
        · exact h2 o h3 (by omega)
    · rintro x ⟨rfl, h2⟩
      refine ⟨.inl s, ?_, Or.inl ⟨rfl, fun o h3 h4 => h2 o h3 (by omega)⟩⟩
      unfold zSr2
      dsimp only [un2]
      rw [h.1, if_pos ((nI_leN (by omega) (by omega)).mpr (by omega))]
  obtain ⟨r, q1, q2⟩ := zinv (st := zSr1) (s0 := (s, 0)) (fun t x => x = (s, nI t) ∧ ∀ p o, p < t → p < o → o < m → ztr T W m p o = false) (fun r => (r = .inl s ∧ zrs T W m) ∨ (r = .inr (0, s) ∧ ¬ zrs T W m)) m (by omega) ⟨rfl, fun p o h1 => by omega⟩ (by
    rintro t x ht ⟨rfl, h2⟩
    obtain ⟨r, r1, r2⟩ := inner t ht
    have n1 : ¬ nI m ≤ nI t := fun z => by have := (nI_leN (by omega) (by omega)).mp z; omega
    unfold zSr1
    dsimp only [un2]
    rw [h.1, if_neg n1, wlet_eq, wlet_eq, ← nI_succ]
    rcases r2 with ⟨rfl, r2⟩ | ⟨rfl, r2⟩
    · refine Or.inl ⟨(s, nI (t + 1)), ?_, rfl, fun p o h3 h4 h5 => ?_⟩
      · exact (bind_eq r1).trans rfl
      · by_cases e : p = t
        · rw [e]; rw [e] at h4; exact r2 o h4 h5
        · exact h2 p o (by omega) h4 h5
    · exact Or.inr ⟨_, (bind_eq r1).trans rfl, Or.inr ⟨rfl, r2⟩⟩) (by
    rintro x ⟨rfl, h2⟩
    refine ⟨.inl s, ?_, Or.inl ⟨rfl, fun p o h3 h4 => h2 p o (by omega) h3 h4⟩⟩
    unfold zSr1
    dsimp only [un2]
    rw [h.1, if_pos ((nI_leN (by omega) (by omega)).mpr (Nat.le_refl _))])
  unfold f_X2_isResting
  rw [wlet_eq]
  refine (bind_eq q1).trans ?_
  rcases q2 with ⟨rfl, q2⟩ | ⟨rfl, q2⟩
  · rw [zrsI_t q2]; rfl
  · rw [zrsI_f q2]; rfl
theorem M_isRest {τ : St} {m : Nat} {T : Tx} (hT : TxM τ T) (hOK : TxOK T) (hW : WV (tn T) m (τ.1 27)) : ∃ τ', fl τ τ' ∧ f_X11_isRest τ = some (zrsI T (τ.1 27) m, τ') := by
  have h7 := zWV7 hW
  have inner : ∀ p s, p < m → fl τ s → ∃ r, lp (zMr2 (nI p)) fuel (s, 0) = some r ∧ ((∃ s', r = .inl s' ∧ fl τ s' ∧ ∀ o, o < p → ztr T (τ.1 27) m o p = false) ∨ (∃ s', r = .inr (0, s') ∧ fl τ s' ∧ ¬ zrs T (τ.1 27) m)) := by
    intro p s hp hs
    refine zinv (fun t x => fl τ x.1 ∧ x.2 = nI t ∧ ∀ o, o < t → ztr T (τ.1 27) m o p = false) _ p (by omega) ⟨hs, rfl, fun o h1 => by omega⟩ ?_ ?_
    · rintro t ⟨x, y⟩ ht ⟨h1, h2, h3⟩
      have h2 : y = nI t := h2
      subst h2
      have h1 : fl τ x := h1
      have n1 : ¬ nI p ≤ nI t := fun z => by have := (nI_leN (by omega) (by omega)).mp z; omega
      obtain ⟨x', g1, g2⟩ := M_doTrade (TxM_fl h1 hT) hOK (by rw [fl27 h1]; exact hW) hp (show t < m by omega)
      rw [fl27 h1, ztr_sym] at g2
      unfold zMr2
      dsimp only [un2]
      rw [if_neg n1, bnd2_eq g2]
      by_cases q : ztr T (τ.1 27) m t p = true
      · rw [if_pos q, if_neg n10]
        exact Or.inr ⟨_, rfl, Or.inr ⟨x', rfl, fl_trans h1 g1, fun z => by rw [z t p ht hp] at q; cases q⟩⟩
      · rw [if_neg q, if_pos rfl, wlet_eq, ← nI_succ]
        refine Or.inl ⟨_, rfl, fl_trans h1 g1, rfl, fun o h4 => ?_⟩
        by_cases e : o = t
        · rw [e]; simpa using q
        · exact h3 o (by omega)
    · rintro ⟨x, y⟩ ⟨h1, h2, h3⟩
      have h2 : y = nI p := h2
      subst h2
      refine ⟨.inl x, ?_, Or.inl ⟨x, rfl, h1, h3⟩⟩
      unfold zMr2
      dsimp only [un2]
      rw [if_pos ((nI_leN (by omega) (by omega)).mpr (Nat.le_refl _))]
  obtain ⟨r, q1, q2⟩ := zinv (st := zMr1) (s0 := (τ, 0)) (fun t x => fl τ x.1 ∧ x.2 = nI t ∧ ∀ p o, p < o → o < t → ztr T (τ.1 27) m p o = false) (fun r => (∃ s', r = .inl s' ∧ fl τ s' ∧ zrs T (τ.1 27) m) ∨ (∃ s', r = .inr (0, s') ∧ fl τ s' ∧ ¬ zrs T (τ.1 27) m)) m (by omega) ⟨fl_refl _, rfl, fun p o h1 h2 => by omega⟩ (by
    rintro t ⟨x, y⟩ ht ⟨h1, h2, h3⟩
    have h2 : y = nI t := h2
    subst h2
    have h1 : fl τ x := h1
    obtain ⟨r, r1, r2⟩ := inner t x ht h1
    have n1 : ¬ nI m ≤ nI t := fun z => by have := (nI_leN (by omega) (by omega)).mp z; omega
    unfold zMr1
    dsimp only [un2]
    rw [if_ib b726, c7, fl27 h1, hW.2.2.1, if_neg n1, wlet_eq]
    rcases r2 with ⟨x', rfl, r2, r3⟩ | ⟨x', rfl, r2, r3⟩
    · refine Or.inl ⟨(x', nI (t + 1)), ?_, r2, rfl, fun p o h4 h5 => ?_⟩
      · rw [nI_succ]
        exact (bind_eq r1).trans rfl
      · by_cases e : o = t
        · rw [e]; exact r3 p (by omega)
        · exact h3 p o h4 (by omega)
    · exact Or.inr ⟨_, (bind_eq r1).trans rfl, Or.inr ⟨x', rfl, r2, r3⟩⟩) (by
    rintro ⟨x, y⟩ ⟨h1, h2, h3⟩
    have h2 : y = nI m := h2
    subst h2
    have h1 : fl τ x := h1
    refine ⟨.inl x, ?_, Or.inl ⟨x, rfl, h1, h3⟩⟩
    unfold zMr1
    dsimp only [un2]
    rw [if_ib b726, c7, fl27 h1, hW.2.2.1, if_pos ((nI_leN (by omega) (by omega)).mpr (Nat.le_refl _))])
  rcases q2 with ⟨s', rfl, q2, q3⟩ | ⟨s', rfl, q2, q3⟩
  · refine ⟨s', q2, ?_⟩
    unfold f_X11_isRest
    rw [wlet_eq, zrsI_t q3]
    exact (bind_eq q1).trans rfl
  · refine ⟨s', q2, ?_⟩
    unfold f_X11_isRest
    rw [wlet_eq, zrsI_f q3]
    exact (bind_eq q1).trans rfl
/-- with whom the one at place a would trade (the first t places) -/
def ztd (T : Tx) (W : Nat → Int32) (m a : Nat) : Nat → Int32
  | 0 => 0
  | t + 1 => if t = a then ztd T W m a t else if ztr T W m a t = true then ztd T W m a t ||| ((1 : Int32) <<< (W t &&& 31)) else ztd T W m a t
theorem C_placeInRow {T : Tx} {V W : Nat → Int32} {m : Nat} {s : St} (h : zO T V m s W) (x : Int32) : f_X2_placeInRow s x = some (pO W m x) := by
  have hm := zWV7 h.2.2.1
  have e0 : pO W m x = pO (s.1 28) m x := by
    unfold pO
    rw [pX_congr (V := W) (V' := s.1 28) (fun t _ h2 => (h.2.1 t (by omega)).symm)]
  rw [e0]
  unfold f_X2_placeInRow
  simp only [wlet_eq]
  refine lp_bind (fun k z => ∃ i, i + k = m ∧ z = nI i ∧ pX (s.1 28) x m 0 = pX (s.1 28) x k i) (fun r => r = match pX (s.1 28) x m 0 with | none => .inl () | some i => .inr (nI i)) m ⟨0, by omega, rfl, rfl⟩ (by omega) ?_ ?_
  · rintro k z ⟨i, hi, rfl, hp⟩
    cases k with
    | zero =>
      refine Or.inr ⟨.inl (), ?_, ?_⟩
      · rw [h.1, if_pos ((nI_leN (by omega) (by omega)).mpr (by omega))]
      · rw [hp]; rfl
    | succ k =>
      have e1 : ¬ nI m ≤ nI i := fun q => by have := (nI_leN (by omega) (by omega)).mp q; omega
      rw [h.1, if_neg e1, if_ib (ib_t (by omega) (by omega)), nI_clamp (by omega)]
      by_cases hx : s.1 28 i = x
      · refine Or.inr ⟨.inr (nI i), by rw [if_pos hx], ?_⟩
        rw [hp, pX, if_pos hx]
      · refine Or.inl ⟨nI (i + 1), k, by rw [if_neg hx, nI_succ], by omega, i + 1, by omega, rfl, ?_⟩
        rw [hp, pX, if_neg hx]
  · rintro r rfl
    unfold pO
    cases pX (s.1 28) x m 0 <;> rfl
def zSt3 (v2 : Int32) : St × Int32 × Int32 → Option ((St × Int32 × Int32) ⊕ (St × Int32)) :=
  un3 (fun (σ11_3 : St) (x3_11_3 : Int32) (x4_11_3 : Int32) => if (σ11_3.1 25 5) ≤ x4_11_3 then (some (.inr (σ11_3, x3_11_3))) else (if v2 = (-1 : Int32) then (some (.inr (σ11_3, x3_11_3))) else (if x4_11_3 = v2 then (wlet (x4_11_3 + (1 : Int32)) fun v7 => some (.inl (σ11_3, x3_11_3, v7))) else (bnd2 (f_X2_isTrade σ11_3 v2 x4_11_3) fun v9 σ10 => if v9 = 0 then (wlet (x4_11_3 + (1 : Int32)) fun v12 => some (.inl (σ10, x3_11_3, v12))) else (if ib x4_11_3 7 = true then wlet (x3_11_3 ||| ((1 : Int32) <<< ((σ10.1 28 (Int32.toNatClampNeg x4_11_3)) &&& 31))) fun v14 => wlet (x4_11_3 + (1 : Int32)) fun v15 => some (.inl (σ10, v14, v15)) else none)))))
def zMt3 (v2 : Int32) : St × Int32 × Int32 → Option ((St × Int32 × Int32) ⊕ (St × Int32)) :=
  un3 (fun (σ11_3 : St) (x2_11_3 : Int32) (x4_11_3 : Int32) => if ib (7 : Int32) 26 = true then if (σ11_3.1 27 (Int32.toNatClampNeg (7 : Int32))) ≤ x4_11_3 then (some (.inr (σ11_3, x2_11_3))) else (if x4_11_3 = v2 then (wlet (x4_11_3 + (1 : Int32)) fun v7 => some (.inl (σ11_3, x2_11_3, v7))) else (bnd2 (f_X11_doTrade σ11_3 v2 x4_11_3) fun v9 σ10 => if v9 = 0 then (wlet (x4_11_3 + (1 : Int32)) fun v12 => some (.inl (σ10, x2_11_3, v12))) else (if ib x4_11_3 26 = true then wlet (x2_11_3 ||| ((1 : Int32) <<< ((σ10.1 27 (Int32.toNatClampNeg x4_11_3)) &&& 31))) fun v14 => wlet (x4_11_3 + (1 : Int32)) fun v15 => some (.inl (σ10, v14, v15)) else none))) else none)
theorem C_tradersOf {T : Tx} {V W : Nat → Int32} {m a : Nat} {s : St} {x : Int32} (hn : tn T ≤ 7) (h : zO T V m s W) (ha : a < m) (hx : pO W m x = nI a) : f_X2_tradersOf s x = some (ztd T W m a m, s) := by
  have h7 := zWV7 h.2.2.1
  unfold f_X2_tradersOf
  rw [bind_eq (C_placeInRow h x), hx, wlet_eq]
  refine (bind_eq (zrun (st := zSt3 (nI a)) (r := (s, ztd T W m a m)) (fun t => (s, ztd T W m a t, nI t)) m (by omega) rfl ?_ ?_)).trans rfl
  · intro t ht
    have n1 : ¬ nI m ≤ nI t := fun z => by have := (nI_leN (by omega) (by omega)).mp z; omega
    unfold zSt3
    dsimp only [un3]
    rw [h.1, if_neg n1, if_neg (nI_ne_m1 (by omega)), ztd]
    by_cases e : t = a
    · rw [if_pos (by rw [e]), if_pos e, wlet_eq, ← nI_succ]
    · rw [if_neg (fun z => e ((nI_eqN (by omega) (by omega)).mp z)), if_neg e, bnd2_eq (C_isTrade hn h ha ht)]
      by_cases q : ztr T W m a t = true
      · rw [if_pos q, if_pos q, if_neg n10, if_ib (ib_t (show t < 7 by omega) (by omega)), nI_clamp (show t < 2 ^ 31 by omega), h.2.1 t ht, wlet_eq, wlet_eq, ← nI_succ]
      · rw [if_neg q, if_neg q, if_pos rfl, wlet_eq, ← nI_succ]
  · unfold zSt3
    dsimp only [un3]
    rw [h.1, if_pos ((nI_leN (by omega) (by omega)).mpr (Nat.le_refl _))]
theorem C_tradersOff {T : Tx} {V W : Nat → Int32} {m : Nat} {s : St} {x : Int32} (h : zO T V m s W) (hx : pO W m x = -1) : f_X2_tradersOf s x = some (0, s) := by
  have h7 := zWV7 h.2.2.1
  unfold f_X2_tradersOf
  rw [bind_eq (C_placeInRow h x), hx, wlet_eq]
  refine (bind_eq (zrun (st := zSt3 (-1)) (r := (s, 0)) (fun t => (s, 0, nI t)) 0 (by omega) rfl ?_ ?_)).trans rfl
  · intro t ht; omega
  · unfold zSt3
    dsimp only [un3]
    by_cases q : s.1 25 5 ≤ nI 0
    · rw [if_pos q]
    · rw [if_neg q, if_pos rfl]
theorem M_tradersOf {τ : St} {m a : Nat} {T : Tx} {x : Int32} (hT : TxM τ T) (hOK : TxOK T) (hW : WV (tn T) m (τ.1 27)) (ha : a < m) (hx : pO (τ.1 27) m x = nI a) : ∃ τ', fl τ τ' ∧ f_X11_tradersOf τ x = some (ztd T (τ.1 27) m a m, τ') := by
  have h7 := zWV7 hW
  obtain ⟨⟨s1, v1⟩, q1, f1, r1⟩ := zinv (st := zMt3 (nI a)) (s0 := (τ, 0, 0)) (fun t y => fl τ y.1 ∧ y.2.2 = nI t ∧ y.2.1 = ztd T (τ.1 27) m a t) (fun r => fl τ r.1 ∧ r.2 = ztd T (τ.1 27) m a m) m (by omega) ⟨fl_refl _, rfl, rfl⟩ (by
    rintro t ⟨y, v, p⟩ ht ⟨h1, h2, h3⟩
    have h2 : p = nI t := h2
    subst h2
    have h1 : fl τ y := h1
    have h3 : v = _ := h3
    have n1 : ¬ nI m ≤ nI t := fun z => by have := (nI_leN (by omega) (by omega)).mp z; omega
    refine Or.inl ?_
    unfold zMt3
    dsimp only [un3]
    rw [if_ib b726, c7, fl27 h1, hW.2.2.1, if_neg n1]
    by_cases e : t = a
    · refine ⟨(y, v, nI (t + 1)), ?_, h1, rfl, ?_⟩
      · rw [if_pos (by rw [e]), wlet_eq, nI_succ]
      · show v = _
        rw [ztd, if_pos e]; exact h3
    · obtain ⟨y', g1, g2⟩ := M_doTrade (TxM_fl h1 hT) hOK (by rw [fl27 h1]; exact hW) ha ht
      rw [fl27 h1] at g2
      rw [if_neg (fun z => e ((nI_eqN (by omega) (by omega)).mp z)), bnd2_eq g2]
      have f2 := fl_trans h1 g1
      by_cases q : ztr T (τ.1 27) m a t = true
      · refine ⟨(y', v ||| ((1 : Int32) <<< (τ.1 27 t &&& 31)), nI (t + 1)), ?_, f2, rfl, ?_⟩
        · rw [if_pos q, if_neg n10, if_ib (ib_t (show t < 26 by omega) (by omega)), nI_clamp (show t < 2 ^ 31 by omega), fl27 f2, wlet_eq, wlet_eq, nI_succ]
        · show v ||| _ = _
          rw [ztd, if_neg e, if_pos q, h3]
      · refine ⟨(y', v, nI (t + 1)), ?_, f2, rfl, ?_⟩
        · rw [if_neg q, if_pos rfl, wlet_eq, nI_succ]
        · show v = _
          rw [ztd, if_neg e, if_neg q]; exact h3) (by
    rintro ⟨y, v, p⟩ ⟨h1, h2, h3⟩
    have h2 : p = nI m := h2
    subst h2
    have h1 : fl τ y := h1
    refine ⟨(y, v), ?_, h1, h3⟩
    unfold zMt3
    dsimp only [un3]
    rw [if_ib b726, c7, fl27 h1, hW.2.2.1, if_pos ((nI_leN (by omega) (by omega)).mpr (Nat.le_refl _))])
  have r1 : v1 = _ := r1
  refine ⟨s1, f1, ?_⟩
  unfold f_X11_tradersOf
  rw [bind_eq (M_placeOf h7 hW.2.2.1 x), hx, wlet_eq]
  refine (bind_eq q1).trans ?_
  dsimp only [un2]
  rw [r1]
theorem zdo_traders : sim_traders Inv := by
  intro σ τ hI x
  obtain ⟨-, -, -, -, T, m, a1, a2, a3, a4, a5, -, -⟩ := id hI
  obtain ⟨τ1, b1, b2, b3, b4, b5, b6, b7⟩ := zcop a3 a5
  have R := b7 σ 38 a4
  have h7 := zWV7 b4
  have hQ := Inv_q hI (zK_refl _) b1
  unfold f_X10_traders f_X11_traders
  rw [bind_eq b2, bind_eq (C_isListed h7 R _)]
  rcases zwho b4 x with ⟨j, hj, rfl⟩ | ⟨c, hc, rfl, hp⟩ | ⟨hx, hp⟩
  · obtain ⟨e1, e2⟩ := cN_eq b4 hj
    have hcase : f_X11_isCase τ1 (τ1.1 27 j) = some 1 := by rw [e1]; exact M_isCase_t b3 a1 e2
    have hpl := zpO_at b4 hj
    obtain ⟨σ1, c1, c2, c3⟩ := C_layAsListed a2 a1 R b4
    obtain ⟨τ2, d1, d2⟩ := M_tradersOf b3 a1 b4 hj hpl
    have hc4 := C_tradersOf a1.1 c3 hj hpl
    rw [hpl, if_neg (nI_ne_m1 (by omega)), if_neg n10, bind_eq c1, bnd2_eq hc4, bind_eq hcase, if_neg n10, bind_eq (M_isOn h7 b4.2.2.1 _), hpl, if_neg (nI_ne_m1 (by omega)), if_neg n10, bnd2_eq d2]
    exact ⟨_, _, _, rfl, rfl, Inv_q hI c2 (zSc_trans b1 (zSc_fl d1))⟩
  · rw [hp, if_pos rfl, if_pos rfl, bind_eq (M_isCase_t b3 a1 hc), if_neg n10, bind_eq (M_isOn h7 b4.2.2.1 _), hp, if_pos rfl, if_pos rfl]
    exact ⟨_, _, _, rfl, rfl, hQ⟩
  · rw [hp, if_pos rfl, if_pos rfl, bind_eq (M_isCase_f b3 a1 hx), if_pos rfl]
    exact ⟨_, _, _, rfl, rfl, hQ⟩
-- the lowest bit
theorem zorb : ∀ k, k < 128 → ∀ c, c < 7 → nI k ||| ((1 : Int32) <<< (nI c &&& 31)) = nI (k ||| (1 <<< c)) ∧ (k ||| (1 <<< c)) < 128 := by decide +kernel
theorem zlow : ∀ k, k < 128 → k ≠ 0 → ∃ l, l < 7 ∧ f_J6_numberOfTrailingZeros_0f7a4 (nI k) = some (nI l) ∧ f_X11_lowestOf (nI k) = some (nI l) ∧ zb (nI k) l = true := by decide +kernel
theorem ztd_nat {T : Tx} {W : Nat → Int32} {n m a : Nat} (hW : WV n m W) : ∀ t, t ≤ m → ∃ k, k < 128 ∧ ztd T W m a t = nI k := by
  have h7 := hW.2.1
  intro t
  induction t with
  | zero => intro _; exact ⟨0, by omega, rfl⟩
  | succ t ih =>
    intro ht
    obtain ⟨k, k1, k2⟩ := ih (by omega)
    obtain ⟨e1, e2⟩ := cN_eq hW (show t < m by omega)
    rw [ztd]
    by_cases e : t = a
    · rw [if_pos e]; exact ⟨k, k1, k2⟩
    · rw [if_neg e]
      by_cases q : ztr T W m a t = true
      · rw [if_pos q, k2, e1]
        obtain ⟨z1, z2⟩ := zorb k k1 (cN W t) (by omega)
        exact ⟨_, z2, z1⟩
      · rw [if_neg q]; exact ⟨k, k1, k2⟩
theorem ztd_bit {T : Tx} {W : Nat → Int32} {n m a i : Nat} (hW : WV n m W) (hi : i < 31) : ∀ t, t ≤ m → zb (ztd T W m a t) i = true → ∃ u, u < t ∧ cN W u = i := by
  have h7 := hW.2.1
  intro t
  induction t with
  | zero => intro _ h; rw [ztd, zb_0] at h; cases h
  | succ t ih =>
    intro ht h
    obtain ⟨e1, e2⟩ := cN_eq hW (show t < m by omega)
    have go : zb (ztd T W m a t) i = true → ∃ u, u < t + 1 ∧ cN W u = i := fun z => by
      obtain ⟨u, u1, u2⟩ := ih (by omega) z
      exact ⟨u, by omega, u2⟩
    rw [ztd] at h
    by_cases e : t = a
    · rw [if_pos e] at h; exact go h
    · rw [if_neg e] at h
      by_cases q : ztr T W m a t = true
      · rw [if_pos q, e1, zb_or (by omega) (by omega), Bool.or_eq_true, decide_eq_true_iff] at h
        rcases h with h | h
        · exact go h
        · exact ⟨t, by omega, h.symm⟩
      · rw [if_neg q] at h; exact go h
theorem zfirst (P : Nat → Prop) : ∀ N, (∀ c, c < N → ¬ P c) ∨ ∃ c, c < N ∧ P c ∧ ∀ d, d < c → ¬ P d := by
  intro N
  induction N with
  | zero => exact Or.inl (fun c hc => absurd hc (Nat.not_lt_zero _))
  | succ N ih =>
    rcases ih with h | ⟨c, c1, c2, c3⟩
    · by_cases q : P N
      · exact Or.inr ⟨N, Nat.lt_succ_self _, q, h⟩
      · refine Or.inl (fun c hc => ?_)
        by_cases e : c = N
        · rw [e]; exact q
        · exact h c (by omega)
    · exact Or.inr ⟨c, by omega, c2, c3⟩
/-- with whom a case would trade -/
def ztv (T : Tx) (W : Nat → Int32) (m c : Nat) : Int32 := if pO W m (nI c) = -1 then 0 else ztd T W m (pO W m (nI c)).toNatClampNeg m
theorem C_ztv {T : Tx} {V W : Nat → Int32} {m c : Nat} {s : St} (hn : tn T ≤ 7) (h : zO T V m s W) : f_X2_tradersOf s (nI c) = some (ztv T W m c, s) := by
  have h7 := zWV7 h.2.2.1
  unfold ztv
  rcases pO_cases W m (nI c) with ⟨j, j1, j2, j3, j4⟩ | ⟨j1, j2⟩
  · rw [if_neg (by rw [j3]; exact nI_ne_m1 (by omega)), j3, nI_clamp (by omega)]
    exact C_tradersOf hn h j1 j3
  · rw [if_pos j2]
    exact C_tradersOff h j2
def zSl3 : St × Int32 → Option ((St × Int32) ⊕ ((St) ⊕ (Int32 × St))) :=
  un2 (fun (σ2_1 : St) (x1_2_1 : Int32) => if (7 : Int32) ≤ x1_2_1 then (some (.inr (.inl σ2_1))) else (bnd2 (f_X2_tradersOf σ2_1 x1_2_1) fun v4 σ5 => if v4 = 0 then (wlet (x1_2_1 + (1 : Int32)) fun v7 => some (.inl (σ5, v7))) else (Option.bind (f_X2_placeInRow σ5 x1_2_1) fun v9 => Option.bind (f_J6_numberOfTrailingZeros_0f7a4 v4) fun v11 => Option.bind (f_X2_placeInRow σ5 v11) fun v13 => Option.bind (f_X2_exchange σ5 v9 v13) fun σ15 => some (.inr (.inr ((1 : Int32), σ15))))))
def zMl3 : St × Int32 → Option ((St × Int32) ⊕ ((St) ⊕ (Int32 × St))) :=
  un2 (fun (σ2_1 : St) (x1_2_1 : Int32) => if ib (σ2_1.1 0 18) 2 = true then if (σ2_1.1 9 (Int32.toNatClampNeg (σ2_1.1 0 18))) ≤ x1_2_1 then (some (.inr (.inl σ2_1))) else (Option.bind (f_X11_isOn σ2_1 x1_2_1) fun v5 => wlet (fun (σ_32_6 : St) (s0_32_6 : Int32) => (if s0_32_6 = 0 then (wlet (x1_2_1 + (1 : Int32)) fun v16 => some (.inl (σ_32_6, v16))) else (Option.bind (f_X11_placeOf σ_32_6 x1_2_1) fun v9 => Option.bind (f_X11_lowestOf s0_32_6) fun v11 => Option.bind (f_X11_placeOf σ_32_6 v11) fun v13 => Option.bind (f_X11_changes σ_32_6 v9 v13) fun σ15 => some (.inr (.inr ((1 : Int32), σ15)))) : Option ((St × Int32) ⊕ ((St) ⊕ (Int32 × St))))) fun k32_6 => if v5 = 0 then (k32_6 σ2_1 (0 : Int32)) else (bnd2 (f_X11_tradersOf σ2_1 x1_2_1) fun v19 σ20 => k32_6 σ20 v19)) else none)
def zSc3 : St × Int32 → Option ((St × Int32) ⊕ ((St) ⊕ (Int32 × St))) :=
  un2 (fun (σ2_1 : St) (x1_2_1 : Int32) => if (50 : Int32) < x1_2_1 then (some (.inr (.inl σ2_1))) else (bnd2 (f_X2_tradeLowest σ2_1) fun v4 σ5 => if v4 = 0 then (some (.inr (.inr (x1_2_1, σ5)))) else (wlet (x1_2_1 + (1 : Int32)) fun v7 => some (.inl (σ5, v7)))))
def zMc3 : St × Int32 → Option ((St × Int32) ⊕ ((St) ⊕ (Int32 × St))) :=
  un2 (fun (σ6_3 : St) (x1_6_3 : Int32) => if (50 : Int32) < x1_6_3 then (some (.inr (.inl σ6_3))) else (bnd2 (f_X11_tradesOnce σ6_3) fun v6 σ7 => if v6 = 0 then (some (.inr (.inr (x1_6_3, σ7)))) else (wlet (x1_6_3 + (1 : Int32)) fun v9 => some (.inl (σ7, v9)))))
theorem zlowest {T : Tx} {V W : Nat → Int32} {m : Nat} {σ τ : St} (hOK : TxOK T) (h : zO T V m σ W) (hT : TxM τ T) (ht : τ.1 27 = W) :
    (f_X2_tradeLowest σ = some (0, σ) ∧ ∃ τ', fl τ τ' ∧ f_X11_tradesOnce τ = some (0, τ')) ∨ ∃ a b τ', a < m ∧ b < m ∧ fl τ τ' ∧ f_X2_tradeLowest σ = some (1, sc σ 28 (zsw (σ.1 28) a b)) ∧ f_X11_tradesOnce τ = some (1, sc τ' 27 (zsw W a b)) := by
  have hn := hOK.1
  have hW := h.2.2.1
  have h7 := zWV7 hW
  have C0 : ∀ t, ztv T W m t = 0 → t < 7 → zSl3 (σ, nI t) = some (.inl (σ, nI (t + 1))) := fun t hz h7 => by
    have n1 : ¬ (7 : Int32) ≤ nI t := fun z => by have := (nI_leN (a := 7) (by omega) (by omega)).mp z; omega
    unfold zSl3
    dsimp only [un2]
    rw [if_neg n1, bnd2_eq (C_ztv hn h), hz, if_pos rfl, wlet_eq, nI_succ]
  have M0 : ∀ t x, fl τ x → t < tn T → ∃ x', fl τ x' ∧ zMl3 (x, nI t) = (if ztv T W m t = 0 then some (.inl (x', nI (t + 1))) else Option.bind (f_X11_placeOf x' (nI t)) fun v9 => Option.bind (f_X11_lowestOf (ztv T W m t)) fun v11 => Option.bind (f_X11_placeOf x' v11) fun v13 => Option.bind (f_X11_changes x' v9 v13) fun σ15 => some (.inr (.inr ((1 : Int32), σ15)))) := fun t x hx htn => by
    obtain ⟨l, l1, l2, l3⟩ := zcases (TxM_fl hx hT)
    have hx27 : x.1 27 = W := by rw [fl27 hx, ht]
    have n1 : ¬ nI (tn T) ≤ nI t := fun z => by have := (nI_leN (by omega) (by omega)).mp z; omega
    have hon := M_isOn (τ := x) h7 (by rw [hx27]; exact hW.2.2.1) (nI t)
    rw [hx27] at hon
    rcases pO_cases W m (nI t) with ⟨j, j1, j2, j3, j4⟩ | ⟨j1, j2⟩
    · obtain ⟨x', g1, g2⟩ := M_tradersOf (τ := x) (x := nI t) (TxM_fl hx hT) hOK (by rw [hx27]; exact hW) j1 (by rw [hx27]; exact j3)
      rw [hx27] at g2
      have hv : ztv T W m t = ztd T W m j m := by unfold ztv; rw [if_neg (by rw [j3]; exact nI_ne_m1 (by omega)), j3, nI_clamp (by omega)]
      rw [← hv] at g2
      refine ⟨x', fl_trans hx g1, ?_⟩
      unfold zMl3
      dsimp only [un2]
      rw [l2, if_ib (ib_t (show l < 2 by omega) (by omega)), nI_clamp (show l < 2 ^ 31 by omega), l3, if_neg n1, bind_eq hon, j3, if_neg (nI_ne_m1 (by omega)), wlet_eq, if_neg n10, bnd2_eq g2, nI_succ]
      rfl
    · have hv : ztv T W m t = 0 := by unfold ztv; rw [if_pos j2]
      refine ⟨x, hx, ?_⟩
      unfold zMl3
      dsimp only [un2]
      rw [l2, if_ib (ib_t (show l < 2 by omega) (by omega)), nI_clamp (show l < 2 ^ 31 by omega), l3, if_neg n1, bind_eq hon, if_pos j2, wlet_eq, if_pos rfl, if_pos hv]
      dsimp only
      rw [if_pos rfl, wlet_eq, nI_succ]
  rcases zfirst (fun c => ¬ ztv T W m c = 0) 7 with hz | ⟨c, c1, c2, c3⟩
  · refine Or.inl ⟨?_, ?_⟩
    · unfold f_X2_tradeLowest
      rw [wlet_eq]
      refine (bind_eq (zrun (st := zSl3) (r := .inl σ) (fun t => (σ, nI t)) 7 (by omega) rfl (fun t ht => C0 t (Classical.byContradiction (hz t ht)) ht) ?_)).trans rfl
      unfold zSl3
      dsimp only [un2]
      rw [if_pos (by decide)]
    · obtain ⟨r, q1, s', rfl, q3⟩ := zinv (st := zMl3) (s0 := (τ, 0)) (fun t x => fl τ x.1 ∧ x.2 = nI t) (fun r => ∃ s', r = .inl s' ∧ fl τ s') (tn T) (by omega) ⟨fl_refl _, rfl⟩ (by
        rintro t ⟨x, y⟩ htn ⟨h1, h2⟩
        have h2 : y = nI t := h2
        subst h2
        obtain ⟨x', g1, g2⟩ := M0 t x h1 htn
        rw [if_pos (Classical.byContradiction (hz t (by omega)))] at g2
        exact Or.inl ⟨_, g2, g1, rfl⟩) (by
        rintro ⟨x, y⟩ ⟨h1, h2⟩
        have h2 : y = nI (tn T) := h2
        subst h2
        have h1 : fl τ x := h1
        obtain ⟨l, l1, l2, l3⟩ := zcases (TxM_fl h1 hT)
        refine ⟨.inl x, ?_, x, rfl, h1⟩
        unfold zMl3
        dsimp only [un2]
        rw [l2, if_ib (ib_t (show l < 2 by omega) (by omega)), nI_clamp (show l < 2 ^ 31 by omega), l3, if_pos ((nI_leN (by omega) (by omega)).mpr (Nat.le_refl _))])
      refine ⟨s', q3, ?_⟩
      unfold f_X11_tradesOnce
      rw [wlet_eq]
      exact (bind_eq q1).trans rfl
  · have hlis : ¬ pO W m (nI c) = -1 := fun z => c2 (by unfold ztv; rw [if_pos z])
    obtain ⟨a, a1, a2, a3, a4⟩ := zon hW hlis (by omega)
    have hv : ztv T W m c = ztd T W m a m := by unfold ztv; rw [if_neg hlis, a3, nI_clamp (by omega)]
    obtain ⟨k, k1, k2⟩ := ztd_nat (T := T) (a := a) hW m (Nat.le_refl _)
    have hk : ztv T W m c = nI k := hv.trans k2
    have k0 : k ≠ 0 := fun z => c2 (by rw [hk, z]; rfl)
    obtain ⟨l, l1, l2, l3, l4⟩ := zlow k k1 k0
    obtain ⟨u, u1, u2⟩ := ztd_bit (T := T) (a := a) hW (show l < 31 by omega) m (Nat.le_refl _) (by rw [k2]; exact l4)
    have hu : pO W m (nI l) = nI u := by rw [← u2, ← (cN_eq hW u1).1]; exact zpO_at hW u1
    rw [← hk] at l2 l3
    have hCc : zSl3 (σ, nI c) = some (.inr (.inr (1, sc σ 28 (zsw (σ.1 28) a u)))) := by
      have n1 : ¬ (7 : Int32) ≤ nI c := fun z => by have := (nI_leN (a := 7) (by omega) (by omega)).mp z; omega
      unfold zSl3
      dsimp only [un2]
      rw [if_neg n1, bnd2_eq (C_ztv hn h), if_neg c2, bind_eq (C_placeInRow h _), a3, bind_eq l2, bind_eq (C_placeInRow h _), hu, bind_eq (C_exchange h.1 h7 a1 u1)]
    have hC : f_X2_tradeLowest σ = some (1, sc σ 28 (zsw (σ.1 28) a u)) := by
      unfold f_X2_tradeLowest
      rw [wlet_eq]
      exact (bind_eq (zrun (st := zSl3) (fun t => (σ, nI t)) c (by omega) rfl (fun t ht => C0 t (Classical.byContradiction (c3 t ht)) (by omega)) hCc)).trans rfl
    obtain ⟨r, q1, s', rfl, q3⟩ := zinv (st := zMl3) (s0 := (τ, 0)) (fun t x => fl τ x.1 ∧ x.2 = nI t) (fun r => ∃ s', r = .inr (1, sc s' 27 (zsw W a u)) ∧ fl τ s') c (by omega) ⟨fl_refl _, rfl⟩ (by
      rintro t ⟨x, y⟩ htn ⟨h1, h2⟩
      have h2 : y = nI t := h2
      subst h2
      obtain ⟨x', g1, g2⟩ := M0 t x h1 (by omega)
      rw [if_pos (Classical.byContradiction (c3 t htn))] at g2
      exact Or.inl ⟨_, g2, g1, rfl⟩) (by
      rintro ⟨x, y⟩ ⟨h1, h2⟩
      have h2 : y = nI c := h2
      subst h2
      obtain ⟨x', g1, g2⟩ := M0 c x h1 a4
      have hx27 : x'.1 27 = W := by rw [fl27 g1, ht]
      have hp := fun z => M_placeOf (τ := x') (m := m) h7 (by rw [hx27]; exact hW.2.2.1) z
      rw [hx27] at hp
      refine ⟨.inr (1, sc x' 27 (zsw W a u)), ?_, x', rfl, g1⟩
      rw [g2, if_neg c2, bind_eq (hp _), a3, bind_eq l3, bind_eq (hp _), hu, bind_eq (M_changes (by omega) (by omega)), hx27])
    refine Or.inr ⟨a, u, s', a1, u1, q3, hC, ?_⟩
    unfold f_X11_tradesOnce
    rw [wlet_eq]
    exact (bind_eq q1).trans rfl
theorem zdo_settles : sim_settles Inv := by
  intro σ τ hI
  obtain ⟨-, -, -, -, T, m, a1, a2, a3, a4, a5, -, -⟩ := id hI
  obtain ⟨τ1, b1, b2, b3, b4, b5, b6, b7⟩ := zcop a3 a5
  have R := b7 σ 38 a4
  have h7 := zWV7 b4
  obtain ⟨σ1, c1, c2, c3⟩ := C_layAsListed a2 a1 R b4
  obtain ⟨r, r', q1, q2, v, σ', τ', f1, f2, hr⟩ := lp_sim (s1 := zSc3) (s2 := zMc3) (fun k s t => ∃ i W, i + k = 51 ∧ s.2 = nI i ∧ t.2 = nI i ∧ zO T (τ1.1 27) m s.1 W ∧ t.1.1 27 = W ∧ fr 28 28 σ1 s.1 ∧ zSc τ1 t.1) (fun r r' => ∃ (v : Int32) (σ' τ' : St), fr 28 28 σ1 σ' ∧ zSc τ1 τ' ∧ ((v = -2 ∧ r = .inl σ' ∧ r' = .inl τ') ∨ (r = .inr (v, σ') ∧ r' = .inr (v, τ')))) (by
    rintro k ⟨s, x⟩ ⟨t, y⟩ ⟨i, W, h1, h2, h3, h4, h5, h6, h8⟩
    have h2 : x = nI i := h2
    have h3 : y = nI i := h3
    subst h2 h3
    have h4 : zO T (τ1.1 27) m s W := h4
    have h5 : t.1 27 = W := h5
    have h8 : zSc τ1 t := h8
    have h6 : fr 28 28 σ1 s := h6
    cases k with
    | zero =>
      have h1 : i = 51 := by omega
      subst h1
      refine Or.inr ⟨.inl s, .inl t, ?_, ?_, -2, s, t, h6, h8, Or.inl ⟨rfl, rfl, rfl⟩⟩
      · unfold zSc3
        dsimp only [un2]
        rw [if_pos (by decide)]
      · unfold zMc3
        dsimp only [un2]
        rw [if_pos (by decide)]
    | succ k =>
      have n1 : ¬ (50 : Int32) < nI i := fun z => by have := (nI_ltN (a := 50) (by omega) (by omega)).mp z; omega
      rcases zlowest a1 h4 (zTxM_Sc h8 b3) h5 with ⟨g1, t', g2, g3⟩ | ⟨a, b, t', g1, g2, g3, g4, g5⟩
      · refine Or.inr ⟨.inr (nI i, s), .inr (nI i, t'), ?_, ?_, nI i, s, t', h6, zSc_trans h8 (zSc_fl g2), Or.inr ⟨rfl, rfl⟩⟩
        · unfold zSc3
          dsimp only [un2]
          rw [if_neg n1, bnd2_eq g1, if_pos rfl]
        · unfold zMc3
          dsimp only [un2]
          rw [if_neg n1, bnd2_eq g3, if_pos rfl]
      · refine Or.inl ⟨(sc s 28 (zsw (s.1 28) a b), nI (i + 1)), (sc t' 27 (zsw W a b), nI (i + 1)), k, ?_, ?_, by omega, i + 1, zsw W a b, by omega, rfl, rfl, zO_sw h4 g1 g2, zsc_eq _ _ _, fr_trans h6 (zfr_sc _ _ _ (by omega)), zSc_trans h8 (zSc_trans (zSc_fl g3) (zSc_Lc (zLc_sc _ _)))⟩
        · unfold zSc3
          dsimp only [un2]
          rw [if_neg n1, bnd2_eq g4, if_neg n10, wlet_eq, nI_succ]
        · unfold zMc3
          dsimp only [un2]
          rw [if_neg n1, bnd2_eq g5, if_neg n10, wlet_eq, nI_succ]) fuel 51 (σ1, 0) (τ1, 0) ⟨0, τ1.1 27, by omega, rfl, rfl, c3, rfl, fr_refl _ _ _, zSc_refl _⟩ (by rw [fuel_eq]; omega)
  refine ⟨v, σ', τ', ?_, ?_, Inv_q hI (zK_trans c2 (zK_fr (fr_mono f1 (by omega) (by omega)))) (zSc_trans b1 f2)⟩
  · unfold f_X10_settles f_X2_countTrades
    rw [bind_eq c1, wlet_eq]
    rcases hr with ⟨rfl, rfl, rfl⟩ | ⟨rfl, rfl⟩
    · exact (bnd2_eq (x := -2) (y := σ') ((bind_eq q1).trans rfl)).trans rfl
    · exact (bnd2_eq (x := v) (y := σ') ((bind_eq q1).trans rfl)).trans rfl
  · unfold f_X11_settles
    rw [bind_eq b2, wlet_eq]
    rcases hr with ⟨rfl, rfl, rfl⟩ | ⟨rfl, rfl⟩
    · exact (bind_eq q2).trans rfl
    · exact (bind_eq q2).trans rfl
def zSq3 : St × Int32 × Int32 × Int32 → Option ((St × Int32 × Int32 × Int32) ⊕ (St × Int32)) :=
  un4 (fun (σ6_1 : St) (x1_6_1 : Int32) (x2_6_1 : Int32) (x3_6_1 : Int32) => if (5040 : Int32) ≤ x3_6_1 then (some (.inr (σ6_1, x1_6_1))) else (if x2_6_1 = 0 then (some (.inr (σ6_1, x1_6_1))) else (bnd2 (f_X2_isResting σ6_1) fun v5 σ6 => wlet (fun (x1_27_7 : Int32) => (bnd2 (f_X2_stepOn σ6) fun v9 σ10 => wlet (x3_6_1 + (1 : Int32)) fun v11 => some (.inl (σ10, x1_27_7, v9, v11)) : Option ((St × Int32 × Int32 × Int32) ⊕ (St × Int32)))) fun k27_7 => if v5 = 0 then (k27_7 x1_6_1) else (wlet (x1_6_1 + (1 : Int32)) fun v13 => k27_7 v13))))
def zMq3 : St × Int32 × Int32 → Option ((St × Int32 × Int32) ⊕ (St × Int32)) :=
  un3 (fun (σ12_5 : St) (x1_12_5 : Int32) (x2_12_5 : Int32) => if x2_12_5 = 0 then (some (.inr (σ12_5, x1_12_5))) else (bnd2 (f_X11_isRest σ12_5) fun v8 σ9 => wlet (fun (x1_26_10 : Int32) => (bnd2 (f_X11_nextOrder σ9) fun v12 σ13 => some (.inl (σ13, x1_26_10, v12)) : Option ((St × Int32 × Int32) ⊕ (St × Int32)))) fun k26_10 => if v8 = 0 then (k26_10 x1_12_5) else (wlet (x1_12_5 + (1 : Int32)) fun v15 => k26_10 v15)))
/-- the orders stand side by side: k more -/
def zAl (T : Tx) (V : Nat → Int32) (m k : Nat) (σ τ : St) : Prop := ∃ W, zCV m k W ∧ zO T V m σ W ∧ τ.1 27 = W
/-- both lay the first order -/
theorem zlay {σ τ1 : St} {T : Tx} {m : Nat} (hT : TxC σ 4 T) (hOK : TxOK T) (hM : TxM τ1 T) (hR : RS σ 38 m (τ1.1 27)) (hW : WV (tn T) m (τ1.1 27)) : ∃ σ1 W k, f_X2_layFirst σ 38 = some σ1 ∧ f_X11_firstOrder τ1 = some (sc τ1 27 W) ∧ zK σ σ1 ∧ k < 5040 ∧ zAl T (τ1.1 27) m k σ1 (sc τ1 27 W) := by
  have h7 := zWV7 hW
  have hn := hOK.1
  obtain ⟨W, w1, w2, w3, w4, w5, w6⟩ := M_firstOrder hW
  obtain ⟨σ1, c1, c2, c3⟩ := C_layFirst hT hOK hR hW w2 w3 w4 w5 w6
  obtain ⟨k, k1, k2⟩ := zasc (c := cN W) h7 w3 (fun x hx => by have := (cN_eq w2 hx).2; omega) (fun i hi => (cN_eq w2 hi).1)
  exact ⟨σ1, W, k, c1, w1, c2, k1, W, k2, c3, zsc_eq _ _ _⟩
theorem zdo_rests : sim_rests Inv := by
  intro σ τ hI
  obtain ⟨-, -, -, -, T, m, a1, a2, a3, a4, a5, -, -⟩ := id hI
  obtain ⟨τ1, b1, b2, b3, b4, b5, b6, b7⟩ := zcop a3 a5
  have R := b7 σ 38 a4
  obtain ⟨σ1, W0, K, c1, c2, c3, c4, c5⟩ := zlay a2 a1 b3 R b4
  obtain ⟨r, r', q1, q2, v, σ', τ', rfl, rfl, f1, f2⟩ := lp_sim (s1 := zSq3) (s2 := zMq3) (fun k s t => ∃ (x : Int32) (i : Nat), fr 28 28 σ1 s.1 ∧ zSc τ1 t.1 ∧ s.2.1 = x ∧ t.2.1 = x ∧ s.2.2.2 = nI i ∧ i ≤ 5040 ∧ ((k = 0 ∧ s.2.2.1 = 0 ∧ t.2.2 = 0) ∨ (∃ k', k = k' + 1 ∧ s.2.2.1 = 1 ∧ t.2.2 = 1 ∧ i + k' < 5040 ∧ zAl T (τ1.1 27) m k' s.1 t.1))) (fun r r' => ∃ (v : Int32) (σ' τ' : St), r = (σ', v) ∧ r' = (τ', v) ∧ fr 28 28 σ1 σ' ∧ zSc τ1 τ') (by
    rintro k ⟨s, x, mo, j⟩ ⟨t, y, mo'⟩ ⟨z, i, h1, h2, h3, h4, h5, h6, h8⟩
    have h1 : fr 28 28 σ1 s := h1
    have h2 : zSc τ1 t := h2
    have h3 : x = z := h3
    have h4 : y = z := h4
    have h5 : j = nI i := h5
    subst h3 h4 h5
    rcases h8 with ⟨rfl, g1, g2⟩ | ⟨k', rfl, g1, g2, g3, W, g4, g5, g6⟩
    · have g1 : mo = 0 := g1
      have g2 : mo' = 0 := g2
      subst g1 g2
      refine Or.inr ⟨(s, y), (t, y), ?_, ?_, y, s, t, rfl, rfl, h1, h2⟩
      · unfold zSq3
        dsimp only [un4]
        by_cases q : (5040 : Int32) ≤ nI i
        · rw [if_pos q]
        · rw [if_neg q, if_pos rfl]
      · unfold zMq3
        dsimp only [un3]
        rw [if_pos rfl]
    · have g1 : mo = 1 := g1
      have g2 : mo' = 1 := g2
      subst g1 g2
      have g5 : zO T (τ1.1 27) m s W := g5
      have g6 : t.1 27 = W := g6
      have n1 : ¬ (5040 : Int32) ≤ nI i := fun z => by have := (nI_leN (a := 5040) (by omega) (by omega)).mp z; omega
      have hCr := C_isResting a1.1 g5
      obtain ⟨t1, l1, l2⟩ := M_isRest (zTxM_Sc h2 b3) a1 (by rw [g6]; exact g5.2.2.1)
      rw [g6] at l2
      have g6' : t1.1 27 = W := by rw [fl27 l1, g6]
      have key : ∃ (y' : Int32), (∀ f : Int32 → Option ((St × Int32 × Int32 × Int32) ⊕ (St × Int32)), (if zrsI T W m = 0 then f y else wlet (y + 1) fun v13 => f v13) = f y') ∧ (∀ f : Int32 → Option ((St × Int32 × Int32) ⊕ (St × Int32)), (if zrsI T W m = 0 then f y else wlet (y + 1) fun v13 => f v13) = f y') := by
        by_cases q : zrsI T W m = 0
        · exact ⟨y, fun f => by rw [if_pos q], fun f => by rw [if_pos q]⟩
        · exact ⟨y + 1, fun f => by rw [if_neg q, wlet_eq], fun f => by rw [if_neg q, wlet_eq]⟩
      obtain ⟨y', ky1, ky2⟩ := key
      rcases zstep g5 g6' with ⟨o1, o2, o3⟩ | ⟨W', L, o1, o2, o3, o4⟩
      · refine Or.inl ⟨(s, y', 0, nI (i + 1)), (t1, y', 0), 0, ?_, ?_, by omega, y', i + 1, h1, zSc_trans h2 (zSc_fl l1), rfl, rfl, rfl, by omega, Or.inl ⟨rfl, rfl, rfl⟩⟩
        · unfold zSq3
          dsimp only [un4]
          rw [if_neg n1, if_neg n10, bnd2_eq hCr, wlet_eq]
          refine (ky1 _).trans ?_
          rw [bnd2_eq o2, wlet_eq, nI_succ]
        · unfold zMq3
          dsimp only [un3]
          rw [if_neg n10, bnd2_eq l2, wlet_eq]
          refine (ky2 _).trans ?_
          rw [bnd2_eq o3]
      · cases k' with
        | zero => rw [show zmnx m W = none from g4] at o1; cases o1
        | succ k' =>
          obtain ⟨W2, p1, p2⟩ := g4
          rw [p1] at o1
          cases o1
          refine Or.inl ⟨(sc s 28 L, y', 1, nI (i + 1)), (sc t1 27 W', y', 1), k' + 1, ?_, ?_, by omega, y', i + 1, fr_trans h1 (zfr_sc _ _ _ (by omega)), zSc_trans h2 (zSc_trans (zSc_fl l1) (zSc_Lc (zLc_sc _ _))), rfl, rfl, rfl, by omega, Or.inr ⟨k', rfl, rfl, rfl, by omega, W', p2, o4, zsc_eq _ _ _⟩⟩
          · unfold zSq3
            dsimp only [un4]
            rw [if_neg n1, if_neg n10, bnd2_eq hCr, wlet_eq]
            refine (ky1 _).trans ?_
            rw [bnd2_eq o2, wlet_eq, nI_succ]
          · unfold zMq3
            dsimp only [un3]
            rw [if_neg n10, bnd2_eq l2, wlet_eq]
            refine (ky2 _).trans ?_
            rw [bnd2_eq o3]) fuel (K + 1) (σ1, 0, 1, 0) (sc τ1 27 W0, 0, 1) ⟨0, 0, fr_refl _ _ _, zSc_Lc (zLc_sc _ _), rfl, rfl, rfl, by omega, Or.inr ⟨K, rfl, rfl, rfl, by omega, c5⟩⟩ (by rw [fuel_eq]; omega)
  refine ⟨v, σ', τ', ?_, ?_, Inv_q hI (zK_trans c3 (zK_fr (fr_mono f1 (by omega) (by omega)))) (zSc_trans b1 f2)⟩
  · unfold f_X10_rests f_X2_countResting
    rw [bind_eq c1, wlet_eq]
    exact (bnd2_eq (x := v) (y := σ') ((bind_eq q1).trans rfl)).trans rfl
  · unfold f_X11_rests
    rw [bind_eq b2, bind_eq c2, wlet_eq]
    exact (bind_eq q2).trans rfl
