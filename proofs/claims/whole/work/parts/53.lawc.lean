/-! STAGE B, 4: the class gives sentence by the steps of a law -/
def sLaw : St × Int32 × Int32 → Option ((St × Int32 × Int32) ⊕ ((St) ⊕ (Int32 × St))) :=
  un3 (fun (σ41_5 : St) (x3_41_5 : Int32) (x5_41_5 : Int32) => if (σ41_5.1 4 5) ≤ x5_41_5 then (some (.inr (.inl σ41_5))) else (if (420 : Int32) ≤ x5_41_5 then (some (.inr (.inl σ41_5))) else (if ib x5_41_5 420 = true then wlet ((σ41_5.1 5 (Int32.toNatClampNeg x5_41_5)) &&& (7 : Int32)) fun v9 => if ib x5_41_5 420 = true then wlet ((σ41_5.1 5 (Int32.toNatClampNeg x5_41_5)) >>> ((3 : Int32) &&& 31)) fun v11 => if v9 = (7 : Int32) then (if x3_41_5 ≤ 0 then (some (.inr (.inr ((0 : Int32), σ41_5)))) else (if ib (x3_41_5 - (1 : Int32)) 40 = true then some (.inr (.inr ((σ41_5.1 23 (Int32.toNatClampNeg (x3_41_5 - (1 : Int32)))), σ41_5))) else none)) else (wlet (fun (_ : Unit) => (if (40 : Int32) ≤ x3_41_5 then (some (.inr (.inr ((0 : Int32), σ41_5)))) else (if v11 < 0 then (some (.inr (.inr ((0 : Int32), σ41_5)))) else (wlet (fun (_ : Unit) => (if v9 = 0 then (if ib x3_41_5 40 = true then wlet (si σ41_5 23 (Int32.toNatClampNeg x3_41_5) v11) fun σ24 => wlet (x3_41_5 + (1 : Int32)) fun v25 => wlet (x5_41_5 + (1 : Int32)) fun v26 => some (.inl (σ24, v25, v26)) else none) else (if ib v11 9 = true then if ib x3_41_5 40 = true then wlet (si σ41_5 23 (Int32.toNatClampNeg x3_41_5) (σ41_5.1 22 (Int32.toNatClampNeg v11))) fun σ20 => wlet (x3_41_5 + (1 : Int32)) fun v21 => wlet (x5_41_5 + (1 : Int32)) fun v22 => some (.inl (σ20, v21, v22)) else none else none) : Option ((St × Int32 × Int32) ⊕ ((St) ⊕ (Int32 × St))))) fun k159_16 => if v9 = (1 : Int32) then (if v11 < (9 : Int32) then (k159_16 ()) else (some (.inr (.inr ((0 : Int32), σ41_5))))) else (k159_16 ()))) : Option ((St × Int32 × Int32) ⊕ ((St) ⊕ (Int32 × St))))) fun k130_13 => if v9 = 0 then (k130_13 ()) else (if v9 = (1 : Int32) then (k130_13 ()) else (if (2 : Int32) ≤ x3_41_5 then (wlet (x3_41_5 + (-2 : Int32)) fun v32 => if ib v32 40 = true then wlet (σ41_5.1 23 (Int32.toNatClampNeg v32)) fun v34 => if ib (v32 + (1 : Int32)) 40 = true then wlet (σ41_5.1 23 (Int32.toNatClampNeg (v32 + (1 : Int32)))) fun v36 => if v9 = (6 : Int32) then (if v36 ≤ v34 then (wlet (mx x5_41_5 (v11 - (1 : Int32))) fun v48 => wlet (v48 + (1 : Int32)) fun v49 => some (.inl (σ41_5, v32, v49))) else (wlet (x5_41_5 + (1 : Int32)) fun v50 => some (.inl (σ41_5, v32, v50)))) else (wlet (fun (_ : Unit) => (Option.bind (f_X1_reckon v9 v34 v36) fun v40 => if ib v32 40 = true then wlet (si σ41_5 23 (Int32.toNatClampNeg v32) v40) fun σ42 => wlet (v32 + (1 : Int32)) fun v43 => wlet (x5_41_5 + (1 : Int32)) fun v44 => some (.inl (σ42, v43, v44)) else none : Option ((St × Int32 × Int32) ⊕ ((St) ⊕ (Int32 × St))))) fun k262_38 => if v9 = (5 : Int32) then (if v36 = 0 then (some (.inr (.inr ((0 : Int32), σ41_5)))) else (k262_38 ())) else (k262_38 ())) else none else none) else (some (.inr (.inr ((0 : Int32), σ41_5))))))) else none else none)))
def LawSt (σ : St) (L p o v : Nat) : Prop := σ.1 4 5 = nI L ∧ L ≤ 420 ∧ p < L ∧ σ.1 5 p = nI (8 * v + o) ∧ o < 8 ∧ v < 10000
theorem sLaw_int {σ : St} {L p v hh : Nat} (H : LawSt σ L p 0 v) (h : hh < 40) : sLaw (σ, nI hh, nI p) = some (.inl (si σ 23 hh (nI v), nI (hh + 1), nI (p + 1))) := by
  obtain ⟨hL, hL2, hp, hc, ho, hv⟩ := H
  have e1 : ¬ nI L ≤ nI p := fun q => by have := (nI_leN (by omega) (by omega)).mp q; omega
  have e2 : ¬ (420 : Int32) ≤ nI p := fun q => by have := (nI_leN (a := 420) (by omega) (by omega)).mp q; omega
  have e3 : ib (nI p) 420 = true := ib_t (by omega) (by omega)
  have e4 : ¬ (40 : Int32) ≤ nI hh := fun q => by have := (nI_leN (a := 40) (by omega) (by omega)).mp q; omega
  have e5 : ib (nI hh) 40 = true := ib_t (by omega) (by omega)
  have e6 : ¬ nI v < 0 := nI_pos (by omega)
  have f1 : nI (8 * v + 0) &&& (7 : Int32) = 0 := enc_op (by omega) (by omega)
  have f2 : nI (8 * v + 0) >>> ((3 : Int32) &&& 31) = nI v := enc_num (by omega) (by omega)
  have g1 : (nI p).toNatClampNeg = p := nI_clamp (by omega)
  have g2 : (nI hh).toNatClampNeg = hh := nI_clamp (by omega)
  unfold sLaw un3
  dsimp only
  rw [hL, if_neg e1, if_neg e2, if_ib e3, g1, hc, f1, wlet_eq, if_ib e3, f2, wlet_eq, if_neg (by decide), wlet_eq, if_pos rfl, if_neg e4, if_neg e6, wlet_eq, if_neg (by decide), if_pos rfl, if_ib e5, g2, wlet_eq, wlet_eq, wlet_eq, nI_succ, nI_succ]
theorem sLaw_var {σ : St} {L p v hh : Nat} (H : LawSt σ L p 1 v) (h : hh < 40) (h9 : v < 9) : sLaw (σ, nI hh, nI p) = some (.inl (si σ 23 hh (σ.1 22 v), nI (hh + 1), nI (p + 1))) := by
  obtain ⟨hL, hL2, hp, hc, ho, hv⟩ := H
  have e1 : ¬ nI L ≤ nI p := fun q => by have := (nI_leN (by omega) (by omega)).mp q; omega
  have e2 : ¬ (420 : Int32) ≤ nI p := fun q => by have := (nI_leN (a := 420) (by omega) (by omega)).mp q; omega
  have e3 : ib (nI p) 420 = true := ib_t (by omega) (by omega)
  have e4 : ¬ (40 : Int32) ≤ nI hh := fun q => by have := (nI_leN (a := 40) (by omega) (by omega)).mp q; omega
  have e5 : ib (nI hh) 40 = true := ib_t (by omega) (by omega)
  have e6 : ¬ nI v < 0 := nI_pos (by omega)
  have e7 : nI v < (9 : Int32) := (nI_ltN (b := 9) (by omega) (by omega)).mpr h9
  have e8 : ib (nI v) 9 = true := ib_t (by omega) (by omega)
  have f1 : nI (8 * v + 1) &&& (7 : Int32) = 1 := enc_op (by omega) (by omega)
  have f2 : nI (8 * v + 1) >>> ((3 : Int32) &&& 31) = nI v := enc_num (by omega) (by omega)
  have g1 : (nI p).toNatClampNeg = p := nI_clamp (by omega)
  have g2 : (nI hh).toNatClampNeg = hh := nI_clamp (by omega)
  have g3 : (nI v).toNatClampNeg = v := nI_clamp (by omega)
  unfold sLaw un3
  dsimp only
  rw [hL, if_neg e1, if_neg e2, if_ib e3, g1, hc, f1, wlet_eq, if_ib e3, f2, wlet_eq, if_neg (by decide), wlet_eq, if_neg (by decide), if_pos rfl, if_neg e4, if_neg e6, wlet_eq, if_pos rfl, if_pos e7, if_neg (by decide), if_ib e8, if_ib e5, g2, g3, wlet_eq, wlet_eq, wlet_eq, nI_succ, nI_succ]
theorem sLaw_fin {σ : St} {L p v hh : Nat} (H : LawSt σ L p 7 v) (h : hh < 40) : sLaw (σ, nI (hh + 1), nI p) = some (.inr (.inr (σ.1 23 hh, σ))) := by
  obtain ⟨hL, hL2, hp, hc, ho, hv⟩ := H
  have e1 : ¬ nI L ≤ nI p := fun q => by have := (nI_leN (by omega) (by omega)).mp q; omega
  have e2 : ¬ (420 : Int32) ≤ nI p := fun q => by have := (nI_leN (a := 420) (by omega) (by omega)).mp q; omega
  have e3 : ib (nI p) 420 = true := ib_t (by omega) (by omega)
  have e4 : ¬ nI (hh + 1) ≤ (0 : Int32) := fun q => by have := (nI_leN (b := 0) (by omega) (by omega)).mp q; omega
  have e5 : ib (nI hh) 40 = true := ib_t (by omega) (by omega)
  have e6 : nI (hh + 1) - (1 : Int32) = nI hh := nI_sub (b := 1) (by omega)
  have f1 : nI (8 * v + 7) &&& (7 : Int32) = 7 := enc_op (by omega) (by omega)
  have g1 : (nI p).toNatClampNeg = p := nI_clamp (by omega)
  have g2 : (nI hh).toNatClampNeg = hh := nI_clamp (by omega)
  unfold sLaw un3
  dsimp only
  rw [hL, if_neg e1, if_neg e2, if_ib e3, g1, hc, f1, wlet_eq, if_ib e3, wlet_eq, if_pos rfl, if_neg e4, e6, if_ib e5, g2]
theorem sLaw_unl {σ : St} {L p v hh : Nat} (H : LawSt σ L p 6 v) (h : hh + 1 < 40) (hq : p < v) : sLaw (σ, nI (hh + 2), nI p) = some (.inl (σ, nI hh, if σ.1 23 hh < σ.1 23 (hh + 1) then nI (p + 1) else nI v)) := by
  obtain ⟨hL, hL2, hp, hc, ho, hv⟩ := H
  have e1 : ¬ nI L ≤ nI p := fun q => by have := (nI_leN (by omega) (by omega)).mp q; omega
  have e2 : ¬ (420 : Int32) ≤ nI p := fun q => by have := (nI_leN (a := 420) (by omega) (by omega)).mp q; omega
  have e3 : ib (nI p) 420 = true := ib_t (by omega) (by omega)
  have e4 : (2 : Int32) ≤ nI (hh + 2) := (nI_leN (a := 2) (by omega) (by omega)).mpr (by omega)
  have e5 : ib (nI hh) 40 = true := ib_t (by omega) (by omega)
  have e6 : nI (hh + 2) + (-2 : Int32) = nI hh := by
    rw [show nI (hh + 2) = nI hh + nI 2 from (nI_add hh 2).symm]
    rw [Int32.add_assoc, show nI 2 + (-2 : Int32) = 0 by decide, Int32.add_zero]
  have e7 : nI hh + (1 : Int32) = nI (hh + 1) := (nI_succ hh).symm
  have e8 : ib (nI (hh + 1)) 40 = true := ib_t (by omega) (by omega)
  have e9 : mx (nI p) (nI v - 1) + 1 = nI v := by
    rw [show nI v - (1 : Int32) = nI (v - 1) from nI_sub (b := 1) (by omega)]
    unfold mx
    by_cases q : nI p < nI (v - 1)
    · rw [if_pos q, ← nI_succ, show v - 1 + 1 = v by omega]
    · rw [if_neg q]
      have : ¬ p < v - 1 := fun r => q ((nI_ltN (by omega) (by omega)).mpr r)
      rw [← nI_succ, show p + 1 = v by omega]
  have f1 : nI (8 * v + 6) &&& (7 : Int32) = 6 := enc_op (by omega) (by omega)
  have f2 : nI (8 * v + 6) >>> ((3 : Int32) &&& 31) = nI v := enc_num (by omega) (by omega)
  have g1 : (nI p).toNatClampNeg = p := nI_clamp (by omega)
  have g2 : (nI hh).toNatClampNeg = hh := nI_clamp (by omega)
  have g3 : (nI (hh + 1)).toNatClampNeg = hh + 1 := nI_clamp (by omega)
  unfold sLaw un3
  dsimp only
  rw [hL, if_neg e1, if_neg e2, if_ib e3, g1, hc, f1, wlet_eq, if_ib e3, f2, wlet_eq, if_neg (by decide), wlet_eq, if_neg (by decide), if_neg (by decide), if_pos e4, e6, wlet_eq, if_ib e5, g2, wlet_eq, e7, if_ib e8, g3, wlet_eq, if_pos rfl, wlet_eq, wlet_eq, wlet_eq, e9]
  by_cases q : σ.1 23 hh < σ.1 23 (hh + 1)
  · have q2 : ¬ σ.1 23 (hh + 1) ≤ σ.1 23 hh := fun r => Int32.lt_irrefl (Int32.lt_of_lt_of_le q r)
    rw [if_pos q, if_neg q2, nI_succ]
  · have q2 : σ.1 23 (hh + 1) ≤ σ.1 23 hh := Int32.not_lt.mp q
    rw [if_neg q, if_pos q2]
theorem reck {o : Nat} {a b : Int32} (h2 : 2 ≤ o) (h5 : o ≤ 5) (h : ¬ (o = 5 ∧ b = 0)) : f_X1_reckon (nI o) a b = some (arO o a b) := by
  have : o = 2 ∨ o = 3 ∨ o = 4 ∨ o = 5 := by omega
  unfold f_X1_reckon arO
  rcases this with rfl | rfl | rfl | rfl
  · rw [if_pos (by decide), if_pos rfl]
  · rw [if_neg (by decide), if_pos (by decide), if_neg (by decide), if_pos rfl]
  · rw [if_neg (by decide), if_neg (by decide), if_pos (by decide), if_neg (by decide), if_neg (by decide), if_pos rfl]
  · have hb : ¬ b = 0 := fun z => h ⟨rfl, z⟩
    rw [if_neg (by decide), if_neg (by decide), if_neg (by decide), if_neg hb, if_neg hb, if_neg (by decide), if_neg (by decide), if_neg (by decide)]
theorem sLaw_op {σ : St} {L p o v hh : Nat} (H : LawSt σ L p o v) (h : hh + 1 < 40) (h2 : 2 ≤ o) (h5 : o ≤ 5) : sLaw (σ, nI (hh + 2), nI p) = if o = 5 ∧ σ.1 23 (hh + 1) = 0 then some (.inr (.inr (0, σ))) else some (.inl (si σ 23 hh (arO o (σ.1 23 hh) (σ.1 23 (hh + 1))), nI (hh + 1), nI (p + 1))) := by
  obtain ⟨hL, hL2, hp, hc, ho, hv⟩ := H
  have e1 : ¬ nI L ≤ nI p := fun q => by have := (nI_leN (by omega) (by omega)).mp q; omega
  have e2 : ¬ (420 : Int32) ≤ nI p := fun q => by have := (nI_leN (a := 420) (by omega) (by omega)).mp q; omega
  have e3 : ib (nI p) 420 = true := ib_t (by omega) (by omega)
  have e4 : (2 : Int32) ≤ nI (hh + 2) := (nI_leN (a := 2) (by omega) (by omega)).mpr (by omega)
  have e5 : ib (nI hh) 40 = true := ib_t (by omega) (by omega)
  have e6 : nI (hh + 2) + (-2 : Int32) = nI hh := by
    rw [show nI (hh + 2) = nI hh + nI 2 from (nI_add hh 2).symm]
    rw [Int32.add_assoc, show nI 2 + (-2 : Int32) = 0 by decide, Int32.add_zero]
  have e7 : nI hh + (1 : Int32) = nI (hh + 1) := (nI_succ hh).symm
  have e7' : nI p + (1 : Int32) = nI (p + 1) := (nI_succ p).symm
  have e8 : ib (nI (hh + 1)) 40 = true := ib_t (by omega) (by omega)
  have e9 : ∀ k : Nat, k < 8 → k ≠ o → nI o ≠ nI k := fun k hk hne q => hne ((nI_eqN (by omega) (by omega)).mp q).symm
  have d7 : ¬ nI o = (7 : Int32) := e9 7 (by omega) (by omega)
  have d6 : ¬ nI o = (6 : Int32) := e9 6 (by omega) (by omega)
  have d0 : ¬ nI o = (0 : Int32) := e9 0 (by omega) (by omega)
  have d1 : ¬ nI o = (1 : Int32) := e9 1 (by omega) (by omega)
  have f1 : nI (8 * v + o) &&& (7 : Int32) = nI o := enc_op (by omega) (by omega)
  have g1 : (nI p).toNatClampNeg = p := nI_clamp (by omega)
  have g2 : (nI hh).toNatClampNeg = hh := nI_clamp (by omega)
  have g3 : (nI (hh + 1)).toNatClampNeg = hh + 1 := nI_clamp (by omega)
  unfold sLaw un3
  dsimp only
  rw [hL, if_neg e1, if_neg e2, if_ib e3, g1, hc, f1, wlet_eq, if_ib e3, wlet_eq, if_neg d7, wlet_eq, if_neg d0, if_neg d1, if_pos e4, e6, wlet_eq, if_ib e5, g2, wlet_eq, e7, if_ib e8, g3, wlet_eq, if_neg d6, wlet_eq]
  generalize σ.1 23 hh = a
  generalize σ.1 23 (hh + 1) = b
  have hr : ∀ (h : ¬ (o = 5 ∧ b = 0)), f_X1_reckon (nI o) a b = some (arO o a b) := reck h2 h5
  by_cases q : o = 5 ∧ b = 0
  · rw [if_pos q, if_pos (by rw [q.1]; decide), if_pos q.2]
  · rw [if_neg q]
    have hr := hr q
    have done : Option.bind (f_X1_reckon (nI o) a b) (fun v40 => if ib (nI hh) 40 = true then wlet (si σ 23 hh v40) fun σ42 => wlet (nI (hh + 1)) fun v43 => wlet (nI p + 1) fun v44 => some (Sum.inl (σ42, v43, v44)) else none) = (some (Sum.inl (si σ 23 hh (arO o a b), nI (hh + 1), nI (p + 1))) : Option ((St × Int32 × Int32) ⊕ ((St) ⊕ (Int32 × St)))) := by
      rw [bind_eq hr, if_ib e5, wlet_eq, wlet_eq, wlet_eq, e7']
    by_cases h : nI o = (5 : Int32)
    · have ho5 : o = 5 := (nI_eqN (b := 5) (by omega) (by omega)).mp h
      rw [if_pos h, if_neg (fun z => q ⟨ho5, z⟩)]
      exact done
    · rw [if_neg h]
      exact done
