/-! STAGE B, 37: orders that fit; where to ask -/
theorem znI_mul (a b : Nat) : nI a * nI b = nI (a * b) := (Int32.ofNat_mul a b).symm
/-- what is told, as numbers: t of it -/
def zTd (P : Nat → Nat) (Va Q : Nat → Int32) (t : Nat) (σ τ : St) : Prop := t ≤ 20 ∧ σ.1 31 4 = nI t ∧ ∀ i, i < t → σ.1 32 i = nI (P i) ∧ P i < 7 ∧ σ.1 33 i = Va i ∧ σ.1 34 i = Q i ∧ τ.1 31 i = nI (P i) ∧ τ.1 32 i = Va i ∧ τ.1 33 i = Q i
theorem zTd_of {σ τ : St} (h : iO σ τ) : ∃ P Va Q t, zTd P Va Q t σ τ ∧ τ.1 0 51 = nI t := by
  obtain ⟨t, t1, t2, t3, t4⟩ := h
  refine ⟨fun i => (σ.1 32 i).toNatClampNeg, σ.1 33, σ.1 34, t, ⟨t1, t2, fun i hi => ?_⟩, t3⟩
  obtain ⟨r1, r2, r3, ⟨p, p1, p2⟩, r5⟩ := t4 i hi
  have e : (σ.1 32 i).toNatClampNeg = p := by rw [p2, nI_clamp (by omega)]
  dsimp only
  rw [e]
  exact ⟨p2, p1, rfl, rfl, r1.symm.trans p2, r2.symm, r3.symm⟩
theorem zTd_q {P : Nat → Nat} {Va Q : Nat → Int32} {t : Nat} {σ σ' τ τ' : St} (h : zK σ σ') (g : zSc τ τ') (hT : zTd P Va Q t σ τ) : zTd P Va Q t σ' τ' := by
  obtain ⟨t1, t2, t3⟩ := hT
  refine ⟨t1, by rw [h.2.1 4 (by omega) (by omega)]; exact t2, fun i hi => ?_⟩
  rw [h.1 32 (by omega), h.1 33 (by omega), h.1 34 (by omega), g.1 31 (by omega) (by omega) (by omega) (by omega) (by omega) (by omega) (by omega) (by omega), g.1 32 (by omega) (by omega) (by omega) (by omega) (by omega) (by omega) (by omega) (by omega), g.1 33 (by omega) (by omega) (by omega) (by omega) (by omega) (by omega) (by omega) (by omega)]
  exact t3 i hi
def zso (s v : Int32) : Int32 := if s < v then 0 else 1
def zfit (T : Tx) (W : Nat → Int32) (m : Nat) (P : Nat → Nat) (Va Q : Nat → Int32) (k : Nat) : Prop := ∀ j, j < k → P j < m ∧ zso (sufAt T W m (P j)) (Va j) = Q j
noncomputable def zfiI (T : Tx) (W : Nat → Int32) (m : Nat) (P : Nat → Nat) (Va Q : Nat → Int32) (k : Nat) : Int32 := @ite Int32 (zfit T W m P Va Q k) (Classical.propDecidable _) 1 0
theorem zfi_t {T : Tx} {W : Nat → Int32} {m k : Nat} {P : Nat → Nat} {Va Q : Nat → Int32} (h : zfit T W m P Va Q k) : zfiI T W m P Va Q k = 1 := by unfold zfiI; rw [if_pos h]
theorem zfi_f {T : Tx} {W : Nat → Int32} {m k : Nat} {P : Nat → Nat} {Va Q : Nat → Int32} (h : ¬ zfit T W m P Va Q k) : zfiI T W m P Va Q k = 0 := by unfold zfiI; rw [if_neg h]
def zIf1 (σ : St) (x2 : Int32) : Int32 → Option ((Int32) ⊕ ((Unit) ⊕ (Int32))) :=
  fun (x3_2_1 : Int32) => if x2 ≤ x3_2_1 then (some (.inr (.inl ()))) else (if (σ.1 31 4) ≤ x3_2_1 then (some (.inr (.inl ()))) else (if (20 : Int32) ≤ x3_2_1 then (some (.inr (.inl ()))) else (if ib x3_2_1 20 = true then wlet (fun (s0_39_6 : Int32) => (if s0_39_6 = 0 then (some (.inr (.inr (0 : Int32)))) else (if ib x3_2_1 20 = true then Option.bind (f_X2_sufferingAt σ (σ.1 32 (Int32.toNatClampNeg x3_2_1))) fun v10 => if ib x3_2_1 20 = true then wlet (fun (s0_70_12 : Int32) => (if ib x3_2_1 20 = true then if s0_70_12 = (σ.1 34 (Int32.toNatClampNeg x3_2_1)) then (wlet (x3_2_1 + (1 : Int32)) fun v15 => some (.inl v15)) else (some (.inr (.inr (0 : Int32)))) else none : Option ((Int32) ⊕ ((Unit) ⊕ (Int32))))) fun k70_12 => if v10 < (σ.1 33 (Int32.toNatClampNeg x3_2_1)) then (k70_12 (0 : Int32)) else (k70_12 (1 : Int32)) else none else none) : Option ((Int32) ⊕ ((Unit) ⊕ (Int32))))) fun k39_6 => if (σ.1 25 5) ≤ (σ.1 32 (Int32.toNatClampNeg x3_2_1)) then (k39_6 (0 : Int32)) else (k39_6 (1 : Int32)) else none)))
def zDf1 : St × Int32 → Option ((St × Int32) ⊕ (St)) :=
  un2 (fun (σ2_1 : St) (x2_2_1 : Int32) => if ib (7 : Int32) 26 = true then if (σ2_1.1 27 (Int32.toNatClampNeg (7 : Int32))) ≤ x2_2_1 then (some (.inr σ2_1)) else (bnd2 (f_X11_sufferAt σ2_1 x2_2_1) fun v18 σ19 => if ib x2_2_1 7 = true then wlet (si σ19 34 (Int32.toNatClampNeg x2_2_1) v18) fun σ21 => wlet (x2_2_1 + (1 : Int32)) fun v22 => some (.inl (σ21, v22)) else none) else none)
def zDf2 (σe2_1 : St) (x1 : Int32) : Int32 → Option ((Int32) ⊕ ((Unit) ⊕ (Int32 × St))) :=
  fun (x2_32_2 : Int32) => if x1 ≤ x2_32_2 then (some (.inr (.inl ()))) else (if ib x2_32_2 20 = true then if ib (7 : Int32) 26 = true then if (σe2_1.1 27 (Int32.toNatClampNeg (7 : Int32))) ≤ (σe2_1.1 31 (Int32.toNatClampNeg x2_32_2)) then (some (.inr (.inr ((0 : Int32), σe2_1)))) else (if ib x2_32_2 20 = true then if ib (σe2_1.1 31 (Int32.toNatClampNeg x2_32_2)) 7 = true then if ib x2_32_2 20 = true then wlet (fun (s0_78_10 : Int32) => (if ib x2_32_2 20 = true then if s0_78_10 = (σe2_1.1 33 (Int32.toNatClampNeg x2_32_2)) then (wlet (x2_32_2 + (1 : Int32)) fun v13 => some (.inl v13)) else (some (.inr (.inr ((0 : Int32), σe2_1)))) else none : Option ((Int32) ⊕ ((Unit) ⊕ (Int32 × St))))) fun k78_10 => if (σe2_1.1 34 (Int32.toNatClampNeg (σe2_1.1 31 (Int32.toNatClampNeg x2_32_2)))) < (σe2_1.1 32 (Int32.toNatClampNeg x2_32_2)) then (k78_10 (0 : Int32)) else (k78_10 (1 : Int32)) else none else none else none) else none else none)
theorem C_isFitting {T : Tx} {V W : Nat → Int32} {m k t : Nat} {P : Nat → Nat} {Va Q : Nat → Int32} {s τ : St} (hn : tn T ≤ 7) (h : zO T V m s W) (hT : zTd P Va Q t s τ) (hk : k ≤ t) : f_X9_isFitting s (nI k) = some (zfiI T W m P Va Q k) := by
  have h7 := zWV7 h.2.2.1
  obtain ⟨t1, t2, t3⟩ := hT
  obtain ⟨r, q1, q2⟩ := zinv (st := zIf1 s (nI k)) (s0 := 0) (fun i x => x = nI i ∧ zfit T W m P Va Q i) (fun r => (r = .inl () ∧ zfit T W m P Va Q k) ∨ (r = .inr 0 ∧ ¬ zfit T W m P Va Q k)) k (by omega) ⟨rfl, fun j hj => absurd hj (Nat.not_lt_zero _)⟩ (by
    rintro i x hi ⟨rfl, h2⟩
    obtain ⟨d1, d2, d3, d4, -⟩ := t3 i (by omega)
    have n1 : ¬ nI k ≤ nI i := fun z => by have := (nI_leN (by omega) (by omega)).mp z; omega
    have n2 : ¬ nI t ≤ nI i := fun z => by have := (nI_leN (by omega) (by omega)).mp z; omega
    have n3 : ¬ (20 : Int32) ≤ nI i := fun z => by have := (nI_leN (a := 20) (by omega) (by omega)).mp z; omega
    have bi : ib (nI i) 20 = true := ib_t (by omega) (by omega)
    have gi : (nI i).toNatClampNeg = i := nI_clamp (by omega)
    unfold zIf1
    rw [if_neg n1, t2, if_neg n2, if_neg n3, if_ib bi, gi, wlet_eq, h.1, d1]
    by_cases hp : P i < m
    · have n4 : ¬ nI m ≤ nI (P i) := fun z => by have := (nI_leN (by omega) (by omega)).mp z; omega
      rw [if_neg n4]
      dsimp only
      rw [if_neg n10, if_ib bi, bind_eq (C_oSuf hn h hp), if_ib bi, wlet_eq, d3, d4]
      by_cases hq : zso (sufAt T W m (P i)) (Va i) = Q i
      · refine Or.inl ⟨nI (i + 1), ?_, rfl, fun j hj => ?_⟩
        · unfold zso at hq
          split at hq
          · rename_i q
            rw [if_pos q]
            dsimp only
            rw [if_ib bi, if_pos hq, wlet_eq, nI_succ]
          · rename_i q
            rw [if_neg q]
            dsimp only
            rw [if_ib bi, if_pos hq, wlet_eq, nI_succ]
        · by_cases e : j = i
          · rw [e]; exact ⟨hp, hq⟩
          · exact h2 j (by omega)
      · refine Or.inr ⟨.inr 0, ?_, Or.inr ⟨rfl, fun z => hq (z i (by omega)).2⟩⟩
        unfold zso at hq
        split at hq
        · rename_i q
          rw [if_pos q]
          dsimp only
          rw [if_ib bi, if_neg hq]
        · rename_i q
          rw [if_neg q]
          dsimp only
          rw [if_ib bi, if_neg hq]
    · have n4 : nI m ≤ nI (P i) := (nI_leN (by omega) (by omega)).mpr (by omega)
      rw [if_pos n4]
      dsimp only
      rw [if_pos rfl]
      exact Or.inr ⟨_, rfl, Or.inr ⟨rfl, fun z => hp (z i (by omega)).1⟩⟩) (by
    rintro x ⟨rfl, h2⟩
    refine ⟨.inl (), ?_, Or.inl ⟨rfl, h2⟩⟩
    unfold zIf1
    rw [if_pos ((nI_leN (by omega) (by omega)).mpr (Nat.le_refl _))])
  unfold f_X9_isFitting
  rw [wlet_eq]
  refine (bind_eq q1).trans ?_
  rcases q2 with ⟨rfl, q2⟩ | ⟨rfl, q2⟩
  · rw [zfi_t q2]; rfl
  · rw [zfi_f q2]; rfl
theorem M_doesFit {T : Tx} {m k t : Nat} {P : Nat → Nat} {Va Q : Nat → Int32} {σ τ : St} (hM : TxM τ T) (hOK : TxOK T) (hW : WV (tn T) m (τ.1 27)) (hT : zTd P Va Q t σ τ) (hk : k ≤ t) : ∃ τ', zSc τ τ' ∧ τ'.1 27 = τ.1 27 ∧ τ'.1 35 = τ.1 35 ∧ (∀ i, i < m → τ'.1 34 i = sufAt T (τ.1 27) m i) ∧ f_X11_doesFit τ (nI k) = some (zfiI T (τ.1 27) m P Va Q k, τ') := by
  have h7 := zWV7 hW
  obtain ⟨t1, t2, t3⟩ := hT
  obtain ⟨s1, q1, f1, v1, w1, u1⟩ := zinv (st := zDf1) (s0 := (τ, 0)) (fun i x => zSc τ x.1 ∧ x.2 = nI i ∧ x.1.1 27 = τ.1 27 ∧ x.1.1 35 = τ.1 35 ∧ ∀ j, j < i → x.1.1 34 j = sufAt T (τ.1 27) m j) (fun r => zSc τ r ∧ r.1 27 = τ.1 27 ∧ r.1 35 = τ.1 35 ∧ ∀ j, j < m → r.1 34 j = sufAt T (τ.1 27) m j) m (by omega) ⟨zSc_refl _, rfl, rfl, rfl, fun j hj => absurd hj (Nat.not_lt_zero _)⟩ (by
    rintro i ⟨x, y⟩ hi ⟨h1, h2, h3, h5, h4⟩
    have h2 : y = nI i := h2
    subst h2
    have h1 : zSc τ x := h1
    have h3 : x.1 27 = τ.1 27 := h3
    have h5 : x.1 35 = τ.1 35 := h5
    have h4 : ∀ j, j < i → x.1 34 j = sufAt T (τ.1 27) m j := h4
    have n1 : ¬ nI m ≤ nI i := fun z => by have := (nI_leN (by omega) (by omega)).mp z; omega
    obtain ⟨x', g1, g2⟩ := M_sufferAt' (zTxM_Sc h1 hM) hOK (by rw [h3]; exact hW) hi
    rw [h3] at g2
    refine Or.inl ⟨(si x' 34 i (sufAt T (τ.1 27) m i), nI (i + 1)), ?_, zSc_trans h1 (zSc_trans (zSc_fl g1) (zSc_si (by omega))), rfl, ?_, ?_, fun j hj => ?_⟩
    · unfold zDf1
      dsimp only [un2]
      rw [if_ib b726, c7, h3, hW.2.2.1, if_neg n1, bnd2_eq g2, if_ib (ib_t (show i < 7 by omega) (by omega)), nI_clamp (show i < 2 ^ 31 by omega), wlet_eq, wlet_eq, nI_succ]
    · show (si x' 34 i _).1 27 = _
      rw [si_ne (by omega), fl27 g1, h3]
    · show (si x' 34 i _).1 35 = _
      rw [si_ne (by omega), g1.1 35 (by omega) (by omega) (by omega), h5]
    · show (si x' 34 i _).1 34 j = _
      rw [si_get]
      by_cases e : j = i
      · rw [if_pos ⟨rfl, e⟩, e]
      · rw [if_neg (fun z => e z.2), g1.1 34 (by omega) (by omega) (by omega)]; exact h4 j (by omega)) (by
    rintro ⟨x, y⟩ ⟨h1, h2, h3, h5, h4⟩
    have h2 : y = nI m := h2
    subst h2
    have h3 : x.1 27 = τ.1 27 := h3
    refine ⟨x, ?_, h1, h3, h5, h4⟩
    unfold zDf1
    dsimp only [un2]
    rw [if_ib b726, c7, h3, hW.2.2.1, if_pos ((nI_leN (by omega) (by omega)).mpr (Nat.le_refl _))])
  have td : ∀ i, i < t → s1.1 31 i = nI (P i) ∧ P i < 7 ∧ s1.1 32 i = Va i ∧ s1.1 33 i = Q i := fun i hi => by
    obtain ⟨d1, d2, d3, d4, d5, d6, d7⟩ := t3 i hi
    rw [f1.1 31 (by omega) (by omega) (by omega) (by omega) (by omega) (by omega) (by omega) (by omega), f1.1 32 (by omega) (by omega) (by omega) (by omega) (by omega) (by omega) (by omega) (by omega), f1.1 33 (by omega) (by omega) (by omega) (by omega) (by omega) (by omega) (by omega) (by omega)]
    exact ⟨d5, d2, d6, d7⟩
  obtain ⟨r, q2, q3⟩ := zinv (st := zDf2 s1 (nI k)) (s0 := 0) (fun i x => x = nI i ∧ zfit T (τ.1 27) m P Va Q i) (fun r => (r = .inl () ∧ zfit T (τ.1 27) m P Va Q k) ∨ (r = .inr (0, s1) ∧ ¬ zfit T (τ.1 27) m P Va Q k)) k (by omega) ⟨rfl, fun j hj => absurd hj (Nat.not_lt_zero _)⟩ (by
    rintro i x hi ⟨rfl, h2⟩
    obtain ⟨d1, d2, d3, d4⟩ := td i (by omega)
    have n1 : ¬ nI k ≤ nI i := fun z => by have := (nI_leN (by omega) (by omega)).mp z; omega
    have bi : ib (nI i) 20 = true := ib_t (by omega) (by omega)
    have gi : (nI i).toNatClampNeg = i := nI_clamp (by omega)
    unfold zDf2
    rw [if_neg n1, if_ib bi, if_ib b726, c7, v1, hW.2.2.1, gi, d1]
    by_cases hp : P i < m
    · have n4 : ¬ nI m ≤ nI (P i) := fun z => by have := (nI_leN (by omega) (by omega)).mp z; omega
      rw [if_neg n4, if_ib bi, if_ib (ib_t (show P i < 7 by omega) (by omega)), if_ib bi, wlet_eq, nI_clamp (show P i < 2 ^ 31 by omega), u1 _ hp, d3, d4]
      by_cases hq : zso (sufAt T (τ.1 27) m (P i)) (Va i) = Q i
      · refine Or.inl ⟨nI (i + 1), ?_, rfl, fun j hj => ?_⟩
        · unfold zso at hq
          split at hq
          · rename_i q
            rw [if_pos q]
            dsimp only
            rw [if_ib bi, if_pos hq, wlet_eq, nI_succ]
          · rename_i q
            rw [if_neg q]
            dsimp only
            rw [if_ib bi, if_pos hq, wlet_eq, nI_succ]
        · by_cases e : j = i
          · rw [e]; exact ⟨hp, hq⟩
          · exact h2 j (by omega)
      · refine Or.inr ⟨.inr (0, s1), ?_, Or.inr ⟨rfl, fun z => hq (z i (by omega)).2⟩⟩
        unfold zso at hq
        split at hq
        · rename_i q
          rw [if_pos q]
          dsimp only
          rw [if_ib bi, if_neg hq]
        · rename_i q
          rw [if_neg q]
          dsimp only
          rw [if_ib bi, if_neg hq]
    · have n4 : nI m ≤ nI (P i) := (nI_leN (by omega) (by omega)).mpr (by omega)
      rw [if_pos n4]
      exact Or.inr ⟨_, rfl, Or.inr ⟨rfl, fun z => hp (z i (by omega)).1⟩⟩) (by
    rintro x ⟨rfl, h2⟩
    refine ⟨.inl (), ?_, Or.inl ⟨rfl, h2⟩⟩
    unfold zDf2
    rw [if_pos ((nI_leN (by omega) (by omega)).mpr (Nat.le_refl _))])
  refine ⟨s1, f1, v1, w1, u1, ?_⟩
  unfold f_X11_doesFit
  rw [wlet_eq]
  refine (bind_eq q1).trans ?_
  rw [wlet_eq]
  refine (bind_eq q2).trans ?_
  rcases q3 with ⟨rfl, q3⟩ | ⟨rfl, q3⟩
  · rw [zfi_t q3]; rfl
  · rw [zfi_f q3]; rfl
/-- an order's number -/
def zrn (W : Nat → Int32) (m : Nat) : Int32 := fo (fun a x => (8 : Int32) * a + x) W m 0 0
theorem zrn_nat {W : Nat → Int32} {n m : Nat} (hW : WV n m W) : ∃ z, z < 2 ^ 31 ∧ zrn W m = nI z := by
  have h7 := zWV7 hW
  have key : ∀ k, k ≤ m → ∃ z, z < 8 ^ k ∧ fo (fun a x => (8 : Int32) * a + x) W k 0 0 = nI z := by
    intro k
    induction k with
    | zero => intro _; exact ⟨0, by decide, rfl⟩
    | succ k ih =>
      intro hk
      obtain ⟨z, z1, z2⟩ := ih (by omega)
      obtain ⟨e1, e2⟩ := cN_eq hW (show k < m by omega)
      have hn := hW.2.1
      refine ⟨8 * z + cN W k, by rw [Nat.pow_succ]; omega, ?_⟩
      rw [zfo_snoc, z2, Nat.zero_add, e1]
      show nI 8 * nI z + nI (cN W k) = _
      rw [znI_mul, nI_add']
  obtain ⟨z, z1, z2⟩ := key m (Nat.le_refl _)
  refine ⟨z, ?_, z2⟩
  have : 8 ^ m ≤ 8 ^ 7 := Nat.pow_le_pow_right (by omega) h7
  have e : (8 : Nat) ^ 7 = 2097152 := by decide
  omega
def zRn1 (σ : St) : Int32 × Int32 → Option ((Int32 × Int32) ⊕ (Int32)) :=
  un2 (fun (x1_4_1 : Int32) (x2_4_1 : Int32) => if (σ.1 25 5) ≤ x2_4_1 then (some (.inr x1_4_1)) else (if ib x2_4_1 7 = true then wlet (((8 : Int32) * x1_4_1) + (σ.1 28 (Int32.toNatClampNeg x2_4_1))) fun v4 => wlet (x2_4_1 + (1 : Int32)) fun v5 => some (.inl (v4, v5)) else none))
def zNn1 (σ : St) : Int32 × Int32 → Option ((Int32 × Int32) ⊕ (Int32)) :=
  un2 (fun (x1_4_1 : Int32) (x2_4_1 : Int32) => if ib (7 : Int32) 26 = true then if (σ.1 27 (Int32.toNatClampNeg (7 : Int32))) ≤ x2_4_1 then (some (.inr x1_4_1)) else (if ib x2_4_1 26 = true then wlet (((8 : Int32) * x1_4_1) + (σ.1 27 (Int32.toNatClampNeg x2_4_1))) fun v5 => wlet (x2_4_1 + (1 : Int32)) fun v6 => some (.inl (v5, v6)) else none) else none)
def zAr1 (x2 : Int32) : St × Int32 → Option ((St × Int32) ⊕ (St)) :=
  un2 (fun (σ2_1 : St) (x3_2_1 : Int32) => if (σ2_1.1 25 5) ≤ x3_2_1 then (some (.inr σ2_1)) else (if (7 : Int32) ≤ x3_2_1 then (some (.inr σ2_1)) else (Option.bind (f_X2_sufferingAt σ2_1 x3_2_1) fun v5 => if v5 < x2 then (wlet (x3_2_1 + (1 : Int32)) fun v7 => some (.inl (σ2_1, v7))) else (if ib x3_2_1 7 = true then if ib x3_2_1 7 = true then wlet (si σ2_1 35 (Int32.toNatClampNeg x3_2_1) ((σ2_1.1 35 (Int32.toNatClampNeg x3_2_1)) + (1 : Int32))) fun σ10 => wlet (x3_2_1 + (1 : Int32)) fun v11 => some (.inl (σ10, v11)) else none else none))))
theorem C_rowNumber {T : Tx} {V W : Nat → Int32} {m : Nat} {s : St} (h : zO T V m s W) : f_X2_rowNumber s = some (zrn W m) := by
  have h7 := zWV7 h.2.2.1
  unfold f_X2_rowNumber
  rw [wlet_eq]
  refine (bind_eq (zfo_run (st := zRn1 s) (fun a x => (8 : Int32) * a + x) W m (by omega) 0 (fun a j hj => ?_) (fun a => ?_))).trans rfl
  · have n1 : ¬ nI m ≤ nI j := fun z => by have := (nI_leN (by omega) (by omega)).mp z; omega
    unfold zRn1
    dsimp only [un2]
    rw [h.1, if_neg n1, if_ib (ib_t (show j < 7 by omega) (by omega)), nI_clamp (show j < 2 ^ 31 by omega), h.2.1 j hj, wlet_eq, wlet_eq, nI_succ]
  · unfold zRn1
    dsimp only [un2]
    rw [h.1, if_pos ((nI_leN (by omega) (by omega)).mpr (Nat.le_refl _))]
theorem M_numberNow {τ : St} {n m : Nat} (hW : WV n m (τ.1 27)) : f_X11_numberNow τ = some (zrn (τ.1 27) m) := by
  have h7 := zWV7 hW
  unfold f_X11_numberNow
  rw [wlet_eq]
  refine (bind_eq (zfo_run (st := zNn1 τ) (fun a x => (8 : Int32) * a + x) (τ.1 27) m (by omega) 0 (fun a j hj => ?_) (fun a => ?_))).trans rfl
  · have n1 : ¬ nI m ≤ nI j := fun z => by have := (nI_leN (by omega) (by omega)).mp z; omega
    unfold zNn1
    dsimp only [un2]
    rw [if_ib b726, c7, hW.2.2.1, if_neg n1, if_ib (ib_t (show j < 26 by omega) (by omega)), nI_clamp (show j < 2 ^ 31 by omega), wlet_eq, wlet_eq, nI_succ]
  · unfold zNn1
    dsimp only [un2]
    rw [if_ib b726, c7, hW.2.2.1, if_pos ((nI_leN (by omega) (by omega)).mpr (Nat.le_refl _))]
/-- one more that reaches v, or not -/
def zre (T : Tx) (W : Nat → Int32) (m : Nat) (v : Int32) (f : Nat → Int32) (j : Nat) : Int32 := if sufAt T W m j < v then f j else f j + 1
theorem C_addReaching {T : Tx} {V W : Nat → Int32} {m : Nat} {s : St} {v : Int32} (hn : tn T ≤ 7) (h : zO T V m s W) : ∃ s', fr 35 35 s s' ∧ f_X9_addReaching s v = some s' ∧ ∀ j, j < m → s'.1 35 j = zre T W m v (s.1 35) j := by
  have h7 := zWV7 h.2.2.1
  obtain ⟨s1, q1, f1, r1⟩ := zinv (st := zAr1 v) (s0 := (s, 0)) (fun t x => fr 35 35 s x.1 ∧ x.2 = nI t ∧ (∀ j, j < t → x.1.1 35 j = zre T W m v (s.1 35) j) ∧ ∀ j, t ≤ j → x.1.1 35 j = s.1 35 j) (fun r => fr 35 35 s r ∧ ∀ j, j < m → r.1 35 j = zre T W m v (s.1 35) j) m (by omega) ⟨fr_refl _ _ _, rfl, fun j hj => absurd hj (Nat.not_lt_zero _), fun _ _ => rfl⟩ (by
    rintro t ⟨x, y⟩ ht ⟨h1, h2, h3, h4⟩
    have h2 : y = nI t := h2
    subst h2
    have h1 : fr 35 35 s x := h1
    have h3 : ∀ j, j < t → x.1 35 j = zre T W m v (s.1 35) j := h3
    have h4 : ∀ j, t ≤ j → x.1 35 j = s.1 35 j := h4
    have hx : zO T V m x W := zO_cell h (by rw [h1.1 25 (by omega)]) (h1.1 26 (by omega)) (h1.1 27 (by omega)) (h1.1 28 (by omega))
    have n1 : ¬ nI m ≤ nI t := fun z => by have := (nI_leN (by omega) (by omega)).mp z; omega
    have n2 : ¬ (7 : Int32) ≤ nI t := fun z => by have := (nI_leN (a := 7) (by omega) (by omega)).mp z; omega
    have bt : ib (nI t) 7 = true := ib_t (by omega) (by omega)
    have gt : (nI t).toNatClampNeg = t := nI_clamp (by omega)
    refine Or.inl ?_
    unfold zAr1
    dsimp only [un2]
    rw [hx.1, if_neg n1, if_neg n2, bind_eq (C_oSuf hn hx ht)]
    by_cases q : sufAt T W m t < v
    · refine ⟨(x, nI (t + 1)), by rw [if_pos q, wlet_eq, nI_succ], h1, rfl, fun j hj => ?_, fun j hj => h4 j (by omega)⟩
      by_cases e : j = t
      · show x.1 35 j = _
        rw [e, h4 t (Nat.le_refl _)]
        unfold zre
        rw [if_pos q]
      · exact h3 j (by omega)
    · refine ⟨(si x 35 t (s.1 35 t + 1), nI (t + 1)), ?_, fr_trans h1 (fr_si _ _ _ _ (by omega)), rfl, fun j hj => ?_, fun j hj => ?_⟩
      · rw [if_neg q, if_ib bt, if_ib bt, wlet_eq, wlet_eq, gt, h4 t (Nat.le_refl _), nI_succ]
      · show (si x 35 t (s.1 35 t + 1)).1 35 j = _
        rw [si_get]
        by_cases e : j = t
        · rw [if_pos ⟨rfl, e⟩, e]
          unfold zre
          rw [if_neg q]
        · rw [if_neg (fun z => e z.2)]; exact h3 j (by omega)
      · show (si x 35 t (s.1 35 t + 1)).1 35 j = _
        rw [si_get, if_neg (by omega)]; exact h4 j (by omega)) (by
    rintro ⟨x, y⟩ ⟨h1, h2, h3, h4⟩
    have h2 : y = nI m := h2
    subst h2
    have h1 : fr 35 35 s x := h1
    refine ⟨x, ?_, h1, h3⟩
    unfold zAr1
    dsimp only [un2]
    rw [h1.1 25 (by omega), h.1, if_pos ((nI_leN (by omega) (by omega)).mpr (Nat.le_refl _))])
  refine ⟨s1, f1, ?_, r1⟩
  unfold f_X9_addReaching
  rw [wlet_eq]
  exact (bind_eq q1).trans rfl
def zSk1 : St × Int32 → Option ((St × Int32) ⊕ (St)) :=
  un2 (fun (σ13_3 : St) (x4_13_3 : Int32) => if (7 : Int32) ≤ x4_13_3 then (some (.inr σ13_3)) else (if ib x4_13_3 7 = true then wlet (si σ13_3 35 (Int32.toNatClampNeg x4_13_3) (0 : Int32)) fun σ25 => wlet (x4_13_3 + (1 : Int32)) fun v26 => some (.inl (σ25, v26)) else none))
def zSk2 (x2 : Int32) (x3 : Int32) : St × Int32 × Int32 → Option ((St × Int32 × Int32) ⊕ (St)) :=
  un3 (fun (σ40_4 : St) (x4_40_4 : Int32) (x5_40_4 : Int32) => if (5040 : Int32) ≤ x5_40_4 then (some (.inr σ40_4)) else (if x4_40_4 = 0 then (some (.inr σ40_4)) else (Option.bind (f_X9_isFitting σ40_4 x2) fun v8 => wlet (fun (σ_100_9 : St) => (bnd2 (f_X2_stepOn σ_100_9) fun v11 σ12 => wlet (x5_40_4 + (1 : Int32)) fun v13 => some (.inl (σ12, v11, v13)) : Option ((St × Int32 × Int32) ⊕ (St)))) fun k100_9 => if v8 = 0 then (k100_9 σ40_4) else (wlet (fun (s1_81_15 : Int32) => (wlet (si σ40_4 31 6 s1_81_15) fun σ16 => wlet (si σ16 31 5 ((σ16.1 31 5) + (1 : Int32))) fun σ17 => Option.bind (f_X9_addReaching σ17 x3) fun σ19 => k100_9 σ19 : Option ((St × Int32 × Int32) ⊕ (St)))) fun k81_15 => if (σ40_4.1 31 5) = 0 then (Option.bind (f_X2_rowNumber σ40_4) fun v22 => k81_15 v22) else (k81_15 (σ40_4.1 31 6))))))
/-- the class's counts of what fits: behind an order -/
theorem C_fstep {T : Tx} {V W : Nat → Int32} {m k t i : Nat} {P : Nat → Nat} {Va Q : Nat → Int32} {σ τ : St} {v : Int32} (hn : tn T ≤ 7) (h : zO T V m σ W) (hT : zTd P Va Q t σ τ) (hk : k ≤ t) (hi : i < 5040) :
    ∃ σ', zK σ σ' ∧ zO T V m σ' W ∧ zSk2 (nI k) v (σ, 1, nI i) = (bnd2 (f_X2_stepOn σ') fun v11 σ12 => some (.inl (σ12, v11, nI (i + 1)))) ∧
      ((zfiI T W m P Va Q k = 0 ∧ σ' = σ) ∨ (zfiI T W m P Va Q k = 1 ∧ σ'.1 31 5 = σ.1 31 5 + 1 ∧ σ'.1 31 6 = (if σ.1 31 5 = 0 then zrn W m else σ.1 31 6) ∧ ∀ j, j < m → σ'.1 35 j = zre T W m v (σ.1 35) j)) := by
  have n1 : ¬ (5040 : Int32) ≤ nI i := fun z => by have := (nI_leN (a := 5040) (by omega) (by omega)).mp z; omega
  have hf := C_isFitting hn h hT hk
  by_cases hz : zfit T W m P Va Q k
  · rw [zfi_t hz] at hf ⊢
    have hsum : ∀ c : Int32, ∃ σ', zK σ σ' ∧ zO T V m σ' W ∧ Option.bind (f_X9_addReaching (si (si σ 31 6 c) 31 5 ((si σ 31 6 c).1 31 5 + 1)) v) (fun σ19 => bnd2 (f_X2_stepOn σ19) fun v11 σ12 => wlet (nI i + 1) fun v13 => (some (.inl (σ12, v11, v13)) : Option ((St × Int32 × Int32) ⊕ St))) = (bnd2 (f_X2_stepOn σ') fun v11 σ12 => some (.inl (σ12, v11, nI (i + 1)))) ∧ σ'.1 31 5 = σ.1 31 5 + 1 ∧ σ'.1 31 6 = c ∧ ∀ j, j < m → σ'.1 35 j = zre T W m v (σ.1 35) j := by
      intro c
      have ho : zO T V m (si (si σ 31 6 c) 31 5 ((si σ 31 6 c).1 31 5 + 1)) W := zO_cell h (by rw [si_ne (by omega), si_ne (by omega)]) (by rw [si_ne (by omega), si_ne (by omega)]) (by rw [si_ne (by omega), si_ne (by omega)]) (by rw [si_ne (by omega), si_ne (by omega)])
      obtain ⟨σ', g1, g2, g3⟩ := C_addReaching (v := v) hn ho
      have k1 : zK σ (si (si σ 31 6 c) 31 5 ((si σ 31 6 c).1 31 5 + 1)) := ⟨fun d hd => by rw [si_ne (by omega), si_ne (by omega)], fun j h1 h2 => by rw [si_get, if_neg (by omega), si_get, if_neg (by omega)], rfl⟩
      have k2 : zK (si (si σ 31 6 c) 31 5 ((si σ 31 6 c).1 31 5 + 1)) σ' := ⟨fun d hd => g1.1 d (by omega), fun j h1 h2 => by rw [g1.1 31 (by omega)], g1.2⟩
      refine ⟨σ', zK_trans k1 k2, zO_cell ho (by rw [g1.1 25 (by omega)]) (g1.1 26 (by omega)) (g1.1 27 (by omega)) (g1.1 28 (by omega)), ?_, ?_, ?_, fun j hj => ?_⟩
      · rw [bind_eq g2, ← nI_succ]; rfl
      · rw [g1.1 31 (by omega), si_get, if_pos ⟨rfl, rfl⟩, si_get, if_neg (by omega)]
      · rw [g1.1 31 (by omega), si_get, if_neg (by omega), si_get, if_pos ⟨rfl, rfl⟩]
      · rw [g3 j hj]
        unfold zre
        rw [si_ne (show 35 ≠ 31 by omega), si_ne (show 35 ≠ 31 by omega)]
    by_cases w : σ.1 31 5 = 0
    · obtain ⟨σ', s1, s2, s3, s4, s5, s6⟩ := hsum (zrn W m)
      refine ⟨σ', s1, s2, ?_, Or.inr ⟨rfl, s4, by rw [if_pos w]; exact s5, s6⟩⟩
      rw [← s3]
      unfold zSk2
      dsimp only [un3]
      rw [if_neg n1, if_neg n10, bind_eq hf, wlet_eq, if_neg n10, wlet_eq, if_pos w, bind_eq (C_rowNumber h)]
      rfl
    · obtain ⟨σ', s1, s2, s3, s4, s5, s6⟩ := hsum (σ.1 31 6)
      refine ⟨σ', s1, s2, ?_, Or.inr ⟨rfl, s4, by rw [if_neg w]; exact s5, s6⟩⟩
      rw [← s3]
      unfold zSk2
      dsimp only [un3]
      rw [if_neg n1, if_neg n10, bind_eq hf, wlet_eq, if_neg n10, wlet_eq, if_neg w]
      rfl
  · rw [zfi_f hz] at hf ⊢
    refine ⟨σ, zK_refl _, h, ?_, Or.inl ⟨rfl, rfl⟩⟩
    unfold zSk2
    dsimp only [un3]
    rw [if_neg n1, if_neg n10, bind_eq hf, wlet_eq, if_pos rfl]
    dsimp only
    rw [← nI_succ]
    rfl
/-- the class's start: nothing fits so far, nothing reaches -/
theorem C_fbegin {σ : St} (x2 v : Int32) : ∃ σ1, zK σ σ1 ∧ fr 31 35 σ σ1 ∧ σ1.1 31 5 = 0 ∧ (∀ j, j < 7 → σ1.1 35 j = 0) ∧ ∀ r, lp (zSk2 x2 v) fuel (σ1, 1, 0) = some r → f_X9_seekFitting σ x2 v = some r := by
  obtain ⟨s1, q1, f1, r1, r2⟩ := zinv (st := zSk1) (s0 := (si (si σ 31 5 0) 31 6 0, 0)) (fun t x => fr 35 35 (si (si σ 31 5 0) 31 6 0) x.1 ∧ x.2 = nI t ∧ ∀ j, j < t → x.1.1 35 j = 0) (fun r => fr 35 35 (si (si σ 31 5 0) 31 6 0) r ∧ (∀ j, j < 7 → r.1 35 j = 0) ∧ True) 7 (by omega) ⟨fr_refl _ _ _, rfl, fun j hj => absurd hj (Nat.not_lt_zero _)⟩ (by
    rintro t ⟨x, y⟩ ht ⟨h1, h2, h3⟩
    have h2 : y = nI t := h2
    subst h2
    have h1 : fr 35 35 (si (si σ 31 5 0) 31 6 0) x := h1
    have n1 : ¬ (7 : Int32) ≤ nI t := fun z => by have := (nI_leN (a := 7) (by omega) (by omega)).mp z; omega
    refine Or.inl ⟨(si x 35 t 0, nI (t + 1)), ?_, fr_trans h1 (fr_si _ _ _ _ (by omega)), rfl, fun j hj => ?_⟩
    · unfold zSk1
      dsimp only [un2]
      rw [if_neg n1, if_ib (ib_t (show t < 7 by omega) (by omega)), nI_clamp (show t < 2 ^ 31 by omega), wlet_eq, wlet_eq, nI_succ]
    · show (si x 35 t 0).1 35 j = 0
      rw [si_get]
      by_cases e : j = t
      · rw [if_pos ⟨rfl, e⟩]
      · rw [if_neg (fun z => e z.2)]; exact h3 j (by omega)) (by
    rintro ⟨x, y⟩ ⟨h1, h2, h3⟩
    have h2 : y = nI 7 := h2
    subst h2
    refine ⟨x, ?_, h1, h3, trivial⟩
    unfold zSk1
    dsimp only [un2]
    rw [if_pos (by decide)])
  refine ⟨s1, ⟨fun d hd => ?_, fun j h1 h2 => ?_, f1.2⟩, ⟨fun d hd => ?_, f1.2⟩, ?_, r1, fun r hr => ?_⟩
  · rw [f1.1 d (by omega), si_ne (by omega), si_ne (by omega)]
  · rw [f1.1 31 (by omega), si_get, if_neg (by omega), si_get, if_neg (by omega)]
  · rw [f1.1 d (by omega), si_ne (by omega), si_ne (by omega)]
  · rw [f1.1 31 (by omega), si_get, if_neg (by omega), si_get, if_pos ⟨rfl, rfl⟩]
  · unfold f_X9_seekFitting
    rw [wlet_eq, wlet_eq, wlet_eq]
    refine (bind_eq q1).trans ?_
    rw [wlet_eq]
    exact (bind_eq hr).trans rfl
def zFi3 (x1 : Int32) : St × Int32 × Int32 × Int32 → Option ((St × Int32 × Int32 × Int32) ⊕ (St × Int32 × Int32)) :=
  un4 (fun (σ40_11 : St) (x3_40_11 : Int32) (x4_40_11 : Int32) (x5_40_11 : Int32) => if x5_40_11 = 0 then (some (.inr (σ40_11, x3_40_11, x4_40_11))) else (bnd2 (f_X11_doesFit σ40_11 x1) fun v15 σ16 => wlet (fun (x3_67_17 : Int32) (x4_67_17 : Int32) => (bnd2 (f_X11_nextOrder σ16) fun v19 σ20 => some (.inl (σ20, x3_67_17, x4_67_17, v19)) : Option ((St × Int32 × Int32 × Int32) ⊕ (St × Int32 × Int32)))) fun k67_17 => if v15 = 0 then (k67_17 x3_40_11 x4_40_11) else (wlet (x3_40_11 + (1 : Int32)) fun v22 => if 0 ≤ x4_40_11 then (k67_17 v22 x4_40_11) else (Option.bind (f_X11_numberNow σ16) fun v25 => k67_17 v22 v25))))
theorem zdo_fits : sim_fits Inv := by
  intro σ τ hI x y
  obtain ⟨-, -, i3, -, T, m, a1, a2, a3, a4, a5, -, -⟩ := id hI
  obtain ⟨P, Va, Q, t, hT, t51⟩ := zTd_of i3
  obtain ⟨τ1, b1, b2, b3, b4, b5, b6, b7⟩ := zcop a3 a5
  have R := b7 σ 38 a4
  have ht := hT.1
  unfold f_X10_fits f_X11_fits
  rw [hT.2.1, t51]
  by_cases x0 : x < 0
  · rw [if_pos x0, bind_eq (zin_l x0), if_pos rfl]
    exact ⟨_, _, _, rfl, rfl, hI⟩
  rw [if_neg x0]
  by_cases xt : nI t < x
  · rw [if_pos xt, bind_eq (zin_r xt), if_pos rfl]
    exact ⟨_, _, _, rfl, rfl, hI⟩
  rw [if_neg xt, bind_eq (zin_t x0 xt), if_neg n10]
  obtain ⟨kk, kt, rfl⟩ := znat (N := t) (by omega) x0 xt
  rcases z01k y with hy | hy
  · rw [z01d hy, bind_eq (z01e hy), if_neg n10, bind_eq b2]
    obtain ⟨σ1, W0, K, c1, c2, c3, c4, c5⟩ := zlay a2 a1 b3 R b4
    obtain ⟨σ2, e1, e2, e3, e4, e5⟩ := C_fbegin (σ := σ1) (nI kk) 0
    have hA : zAl T (τ1.1 27) m K σ2 (sc τ1 27 W0) := by
      obtain ⟨W, w1, w2, w3⟩ := c5
      exact ⟨W, w1, zO_cell w2 (by rw [e2.1 25 (by omega)]) (e2.1 26 (by omega)) (e2.1 27 (by omega)) (e2.1 28 (by omega)), w3⟩
    have hM0 : TxM (sc τ1 27 W0) T := zTxM_Sc (zSc_Lc (zLc_sc τ1 W0)) b3
    have hT0 : zTd P Va Q t σ2 (sc τ1 27 W0) := zTd_q (zK_trans c3 e1) (zSc_trans b1 (zSc_Lc (zLc_sc τ1 W0))) hT
    obtain ⟨r, r', q1, q2, τ', cn, fi, rfl, f1, f2, f3, f4, f5⟩ := lp_sim (s1 := zSk2 (nI kk) 0) (s2 := zFi3 (nI kk)) (fun k s u => ∃ i c, zK σ2 s.1 ∧ zSc (sc τ1 27 W0) u.1 ∧ s.2.2 = nI i ∧ i ≤ 5040 ∧ c ≤ i ∧ s.1.1 31 5 = nI c ∧ u.2.1 = nI c ∧ ((c = 0 ∧ u.2.2.1 = -2) ∨ (0 < c ∧ s.1.1 31 6 = u.2.2.1 ∧ ∃ z, z < 2 ^ 31 ∧ u.2.2.1 = nI z)) ∧ ((k = 0 ∧ s.2.1 = 0 ∧ u.2.2.2 = 0) ∨ (∃ k', k = k' + 1 ∧ s.2.1 = 1 ∧ u.2.2.2 = 1 ∧ i + k' < 5040 ∧ zAl T (τ1.1 27) m k' s.1 u.1))) (fun r r' => ∃ (τ' : St) (cn : Nat) (fi : Int32), r' = (τ', nI cn, fi) ∧ zK σ2 r ∧ zSc (sc τ1 27 W0) τ' ∧ cn ≤ 5040 ∧ r.1 31 5 = nI cn ∧ ((cn = 0 ∧ fi = -2) ∨ (0 < cn ∧ r.1 31 6 = fi))) (by
      rintro k ⟨s, mo, j⟩ ⟨u, cn, fi, mo'⟩ ⟨i, c, h1, h2, h3, h4, h5, h6, h8, h9, h10⟩
      have h3 : j = nI i := h3
      have h8 : cn = nI c := h8
      subst h3 h8
      have h1 : zK σ2 s := h1
      have h2 : zSc (sc τ1 27 W0) u := h2
      have h6 : s.1 31 5 = nI c := h6
      have h9 : (c = 0 ∧ fi = -2) ∨ (0 < c ∧ s.1 31 6 = fi ∧ ∃ z, z < 2 ^ 31 ∧ fi = nI z) := h9
      rcases h10 with ⟨rfl, g1, g2⟩ | ⟨k', rfl, g1, g2, g3, W, g4, g5, g6⟩
      · have g1 : mo = 0 := g1
        have g2 : mo' = 0 := g2
        subst g1 g2
        refine Or.inr ⟨s, (u, nI c, fi), ?_, ?_, u, c, fi, rfl, h1, h2, by omega, h6, ?_⟩
        · unfold zSk2
          dsimp only [un3]
          by_cases q : (5040 : Int32) ≤ nI i
          · rw [if_pos q]
          · rw [if_neg q, if_pos rfl]
        · unfold zFi3
          dsimp only [un4]
          rw [if_pos rfl]
        · rcases h9 with h9 | ⟨h9, h9', -⟩
          · exact Or.inl h9
          · exact Or.inr ⟨h9, h9'⟩
      · have g1 : mo = 1 := g1
        have g2 : mo' = 1 := g2
        subst g1 g2
        have g5 : zO T (τ1.1 27) m s W := g5
        have g6 : u.1 27 = W := g6
        have hTs : zTd P Va Q t s u := zTd_q h1 h2 hT0
        obtain ⟨s', p1, p2, p3, p4⟩ := C_fstep (v := 0) a1.1 g5 hTs kt (show i < 5040 by omega)
        obtain ⟨u', d1, d2, -, -, d3⟩ := M_doesFit (zTxM_Sc h2 hM0) a1 (by rw [g6]; exact g5.2.2.1) hTs kt
        rw [g6] at d2 d3
        have hnn := M_numberNow (τ := u') (by rw [d2]; exact g5.2.2.1)
        rw [d2] at hnn
        obtain ⟨zz, zz1, zz2⟩ := zrn_nat g5.2.2.1
        -- what the reference's counts become
        have key : ∃ (c' : Nat) (fi' : Int32), c' ≤ i + 1 ∧ s'.1 31 5 = nI c' ∧ ((c' = 0 ∧ fi' = -2) ∨ (0 < c' ∧ s'.1 31 6 = fi' ∧ ∃ z, z < 2 ^ 31 ∧ fi' = nI z)) ∧ zFi3 (nI kk) (u, nI c, fi, 1) = (bnd2 (f_X11_nextOrder u') fun v19 σ20 => some (.inl (σ20, nI c', fi', v19))) := by
          rcases p4 with ⟨p4, p5⟩ | ⟨p4, p5, p6, p7⟩
          · subst p5
            refine ⟨c, fi, by omega, h6, h9, ?_⟩
            rw [p4] at d3
            unfold zFi3
            dsimp only [un4]
            rw [if_neg n10, bnd2_eq d3, wlet_eq, if_pos rfl]
          · rw [p4] at d3
            have hcs : s'.1 31 5 = nI (c + 1) := by rw [p5, h6, nI_succ]
            rcases h9 with ⟨h9, h9'⟩ | ⟨h9, h9', z, z1, z2⟩
            · have h9' : fi = -2 := h9'
              refine ⟨c + 1, zrn W m, by omega, hcs, Or.inr ⟨by omega, by rw [p6, h6, if_pos (by rw [h9]; rfl)], zz, zz1, zz2⟩, ?_⟩
              unfold zFi3
              dsimp only [un4]
              rw [if_neg n10, bnd2_eq d3, wlet_eq, if_neg n10, wlet_eq, if_neg (show ¬ (0 : Int32) ≤ fi by rw [h9']; decide), bind_eq hnn, ← nI_succ]
            · have z2 : fi = nI z := z2
              refine ⟨c + 1, fi, by omega, hcs, Or.inr ⟨by omega, by rw [p6, h6, if_neg (nI_ne0 (by omega) (by omega))]; exact h9', z, z1, z2⟩, ?_⟩
              unfold zFi3
              dsimp only [un4]
              rw [if_neg n10, bnd2_eq d3, wlet_eq, if_neg n10, wlet_eq, if_pos (show (0 : Int32) ≤ fi by rw [z2]; exact nI_pos' z1), ← nI_succ]
        obtain ⟨c', fi', k1, k2, k3, k4⟩ := key
        rcases zstep p2 d2 with ⟨o1, o2, o3⟩ | ⟨W', L, o1, o2, o3, o4⟩
        · exact Or.inl ⟨_, _, 0, p3.trans (bnd2_eq o2), k4.trans (bnd2_eq o3), by omega, i + 1, c', zK_trans h1 p1, zSc_trans h2 d1, rfl, by omega, k1, k2, rfl, k3, Or.inl ⟨rfl, rfl, rfl⟩⟩
        · cases k' with
          | zero => rw [show zmnx m W = none from g4] at o1; cases o1
          | succ k' =>
            obtain ⟨W2, w1, w2⟩ := g4
            rw [w1] at o1
            cases o1
            have l1 : zK s' (sc s' 28 L) := zK_fr (zfr_sc _ _ _ (by omega))
            have l2 : (sc s' 28 L).1 31 = s'.1 31 := zsc_ne (by omega)
            exact Or.inl ⟨_, _, k' + 1, p3.trans (bnd2_eq o2), k4.trans (bnd2_eq o3), by omega, i + 1, c', zK_trans h1 (zK_trans p1 l1), zSc_trans h2 (zSc_trans d1 (zSc_Lc (zLc_sc _ _))), rfl, by omega, k1, by show (sc s' 28 L).1 31 5 = _; rw [l2]; exact k2, rfl, by show (c' = 0 ∧ fi' = -2) ∨ (0 < c' ∧ (sc s' 28 L).1 31 6 = fi' ∧ ∃ z, z < 2 ^ 31 ∧ fi' = nI z); rw [l2]; exact k3, Or.inr ⟨k', rfl, rfl, rfl, by omega, W', w2, o4, zsc_eq _ _ _⟩⟩) fuel (K + 1) (σ2, 1, 0) (sc τ1 27 W0, 0, -2, 1) ⟨0, 0, zK_refl _, zSc_refl _, rfl, by omega, by omega, e3, rfl, Or.inl ⟨rfl, rfl⟩, Or.inr ⟨K, rfl, rfl, rfl, by omega, hA⟩⟩ (by rw [fuel_eq]; omega)
    have hQ := Inv_q hI (zK_trans c3 (zK_trans e1 f1)) (zSc_trans b1 (zSc_trans (zSc_Lc (zLc_sc τ1 W0)) f2))
    have hfin : Option.bind (lp (zFi3 (nI kk)) fuel (sc τ1 27 W0, 0, -2, 1)) (un3 fun σe40_11 x3_e40_11 x4_e40_11 => if y = 0 then some (x3_e40_11, σe40_11) else some (x4_e40_11, σe40_11)) = if y = 0 then some (nI cn, τ') else some (fi, τ') := bind_eq q2
    rw [bind_eq c1, bind_eq (e5 r q1), bind_eq c2, wlet_eq]
    by_cases hy0 : y = 0
    · rw [if_pos hy0] at hfin
      rw [if_pos hy0]
      exact ⟨_, _, _, rfl, by rw [f4]; exact hfin, hQ⟩
    · rw [if_neg hy0] at hfin
      rw [if_neg hy0]
      rcases f5 with ⟨u1, u2⟩ | ⟨u1, u2⟩
      · rw [if_pos (show r.1 31 5 = 0 by rw [f4, u1]; rfl)]
        rw [u2] at hfin
        exact ⟨_, _, _, rfl, hfin, hQ⟩
      · rw [if_neg (show ¬ r.1 31 5 = 0 by rw [f4]; exact nI_ne0 u1 (by omega))]
        exact ⟨_, _, _, rfl, by rw [u2]; exact hfin, hQ⟩
  · rw [z01c hy, bind_eq hy.1, if_pos rfl]
    exact ⟨_, _, _, rfl, rfl, hI⟩
