/-! STAGE B, 50: a clause of a law, both side by side -/
def zD7 (y v : Int32) (σ40 : St) : Option ((St × Int32) ⊕ (St)) := Option.bind (f_X8_leadHere σ40 15 v) fun σ42 => wlet (y + (1 : Int32)) fun v43 => some (.inl (σ42, v43))
def zD6 (y v : Int32) (σ37 : St) : Option ((St × Int32) ⊕ (St)) := bnd2 (f_X8_addStep σ37 15 (7 : Int32) (0 : Int32)) fun _ σ40 => zD7 y v σ40
def zD5b (y v : Int32) (σ35 : St) : Option ((St × Int32) ⊕ (St)) := Option.bind (f_X4_expect σ35 (22 : Int32)) (zD6 y v)
def zD5 (y v : Int32) (σ33 : St) : Option ((St × Int32) ⊕ (St)) := Option.bind (fR_readSum 8 σ33 (0 : Int32)) (zD5b y v)
def zD4 (y : Int32) (σ30 : St) : Option ((St × Int32) ⊕ (St)) := bnd2 (f_X8_addStep σ30 15 (6 : Int32) (0 : Int32)) (zD5 y)
def zD3b (y : Int32) (σ28 : St) : Option ((St × Int32) ⊕ (St)) := Option.bind (f_X4_expect σ28 (21 : Int32)) (zD4 y)
def zD3 (y : Int32) (σ26 : St) : Option ((St × Int32) ⊕ (St)) := Option.bind (fR_readSum 8 σ26 (0 : Int32)) (zD3b y)
def zD2 (y : Int32) (σ24 : St) : Option ((St × Int32) ⊕ (St)) := Option.bind (f_X4_expect σ24 (10 : Int32)) (zD3 y)
def zD1 (y : Int32) (σ22 : St) : Option ((St × Int32) ⊕ (St)) := Option.bind (fR_readSum 8 σ22 (0 : Int32)) (zD2 y)
def rdC : St × Int32 → Option ((St × Int32) ⊕ (St)) :=
  un2 (fun (σ15_5 : St) (x2_15_5 : Int32) => if (4 : Int32) ≤ x2_15_5 then (some (.inr σ15_5)) else (Option.bind (f_X4_isNext σ15_5 (20 : Int32)) fun v19 => if v19 = 0 then (some (.inr σ15_5)) else (Option.bind (f_X4_take σ15_5) fun σ22 => Option.bind (fR_readSum 8 σ22 (0 : Int32)) fun σ24 => Option.bind (f_X4_expect σ24 (10 : Int32)) fun σ26 => Option.bind (fR_readSum 8 σ26 (0 : Int32)) fun σ28 => Option.bind (f_X4_expect σ28 (21 : Int32)) fun σ30 => bnd2 (f_X8_addStep σ30 15 (6 : Int32) (0 : Int32)) fun v32 σ33 => Option.bind (fR_readSum 8 σ33 (0 : Int32)) fun σ35 => Option.bind (f_X4_expect σ35 (22 : Int32)) fun σ37 => bnd2 (f_X8_addStep σ37 15 (7 : Int32) (0 : Int32)) fun v39 σ40 => Option.bind (f_X8_leadHere σ40 15 v32) fun σ42 => wlet (x2_15_5 + (1 : Int32)) fun v43 => some (.inl (σ42, v43)))))
def zG6 (v : Int32) (σ39 : St) : Option ((St × Int32) ⊕ ((St) ⊕ (St))) := Option.bind (f_X11_must σ39 (29 : Int32)) fun σ41 => some (.inl (σ41, v))
def zG5 (v : Int32) (σ37 : St) : Option ((St × Int32) ⊕ ((St) ⊕ (St))) := Option.bind (f_X11_term σ37) (zG6 v)
def zG4 (v : Int32) (σ_110_35 : St) : Option ((St × Int32) ⊕ ((St) ⊕ (St))) := Option.bind (f_X11_must σ_110_35 (28 : Int32)) (zG5 v)
def zG3 (v : Int32) (σ32 : St) : Option ((St × Int32) ⊕ ((St) ⊕ (St))) := if ib (σ32.1 0 29) 260 = true then wlet (si σ32 18 (Int32.toNatClampNeg (σ32.1 0 29)) (σ32.1 0 35)) fun σ34 => wlet (zG4 v) fun k110_35 => if (σ34.1 0 13) = 0 then (Option.bind (f_X11_expression σ34) fun σ44 => k110_35 σ44) else (k110_35 σ34) else none
def zG2 (v : Int32) (σ30 : St) : Option ((St × Int32) ⊕ ((St) ⊕ (St))) := Option.bind (f_X11_must σ30 (13 : Int32)) (zG3 v)
def zG1 (v : Int32) (σ24 : St) : Option ((St × Int32) ⊕ ((St) ⊕ (St))) := if ib (σ24.1 0 29) 260 = true then wlet (si σ24 16 (Int32.toNatClampNeg (σ24.1 0 29)) (vp_nar .boolean (1 : Int32))) fun σ26 => if ib (σ26.1 0 29) 260 = true then wlet (si σ26 17 (Int32.toNatClampNeg (σ26.1 0 29)) (σ26.1 0 35)) fun σ28 => Option.bind (f_X11_expression σ28) (zG2 v) else none else none
def rdM : St × Int32 → Option ((St × Int32) ⊕ ((St) ⊕ (St))) :=
  un2 (fun (σ12_4 : St) (x3_12_4 : Int32) => if (σ12_4.1 0 13) = 0 then (Option.bind (f_X11_is σ12_4 (27 : Int32)) fun v18 => if v18 = 0 then (some (.inr (.inl σ12_4))) else (wlet (fun (σ_38_20 : St) => (if (σ_38_20.1 0 13) ≤ 0 then (wlet (x3_12_4 + (1 : Int32)) fun v22 => Option.bind (f_X11_goesOn σ_38_20) fun σ24 => if ib (σ24.1 0 29) 260 = true then wlet (si σ24 16 (Int32.toNatClampNeg (σ24.1 0 29)) (vp_nar .boolean (1 : Int32))) fun σ26 => if ib (σ26.1 0 29) 260 = true then wlet (si σ26 17 (Int32.toNatClampNeg (σ26.1 0 29)) (σ26.1 0 35)) fun σ28 => Option.bind (f_X11_expression σ28) fun σ30 => Option.bind (f_X11_must σ30 (13 : Int32)) fun σ32 => if ib (σ32.1 0 29) 260 = true then wlet (si σ32 18 (Int32.toNatClampNeg (σ32.1 0 29)) (σ32.1 0 35)) fun σ34 => wlet (fun (σ_110_35 : St) => (Option.bind (f_X11_must σ_110_35 (28 : Int32)) fun σ37 => Option.bind (f_X11_term σ37) fun σ39 => Option.bind (f_X11_must σ39 (29 : Int32)) fun σ41 => some (.inl (σ41, v22)) : Option ((St × Int32) ⊕ ((St) ⊕ (St))))) fun k110_35 => if (σ34.1 0 13) = 0 then (Option.bind (f_X11_expression σ34) fun σ44 => k110_35 σ44) else (k110_35 σ34) else none else none else none) else (some (.inr (.inr σ_38_20))) : Option ((St × Int32) ⊕ ((St) ⊕ (St))))) fun k38_20 => if x3_12_4 = (4 : Int32) then (Option.bind (f_X11_fail σ12_4 (2 : Int32)) fun σ47 => k38_20 σ47) else (k38_20 σ12_4))) else (some (.inr (.inl σ12_4))))
/-- the class goes through the rest of a clause behind a fault -/
def zPs (K P V : Nat → Nat) (y : Int32) (g : St → Option ((St × Int32) ⊕ (St))) : Prop := ∀ σ v p, zTk σ K P V → zDd0 σ P v p → ∃ σ', g σ = some (.inl (σ', y + 1)) ∧ zfE σ σ' ∧ zDd0 σ' P v p
theorem zPs_bind {K P V : Nat → Nat} {y : Int32} {f : St → Option St} {g : St → Option ((St × Int32) ⊕ (St))} (hf : zPass K P V f) (hg : zPs K P V y g) : zPs K P V y (fun σ => Option.bind (f σ) g) := fun σ v p hT hD => by
  obtain ⟨σ1, a1, a2, a3⟩ := hf σ v p hT hD
  obtain ⟨σ2, b1, b2, b3⟩ := hg σ1 v p (zTk_E a2 hT) a3
  exact ⟨σ2, by dsimp only; rw [bind_eq a1]; exact b1, zfE_trans a2 b2, b3⟩
theorem C_lead_any (σ : St) (v : Int32) : ∃ σ', f_X8_leadHere σ 15 v = some σ' ∧ zfE σ σ' ∧ σ'.1 10 = σ.1 10 := by
  unfold f_X8_leadHere
  by_cases h1 : v < 0
  · exact ⟨σ, if_pos h1, zfE_refl _, rfl⟩
  · by_cases h2 : σ.1 15 5 ≤ v
    · exact ⟨σ, by rw [if_neg h1, if_pos h2], zfE_refl _, rfl⟩
    · by_cases h3 : (420 : Int32) ≤ v
      · exact ⟨σ, by rw [if_neg h1, if_neg h2, if_pos h3], zfE_refl _, rfl⟩
      · obtain ⟨k, k1, k2⟩ := i_nat h1
        subst k2
        have k3 : k < 420 := by
          have := mt (nI_leN (a := 420) (b := k) (by omega) (by omega)).mpr h3
          omega
        exact ⟨_, by rw [if_neg h1, if_neg h2, if_neg h3, if_ib (ib_t k3 (by omega)), wlet_eq], zfE_16 _ _ _, si_ne (by omega)⟩
theorem zD7_d {K P V : Nat → Nat} (y v : Int32) : zPs K P V y (zD7 y v) := fun σ u p _ hD => by
  obtain ⟨σ', a1, a2, a3⟩ := C_lead_any σ v
  exact ⟨σ', by unfold zD7; rw [bind_eq a1, wlet_eq], a2, zDd0_E a3 hD⟩
theorem zD6_d {K P V : Nat → Nat} (y v : Int32) : zPs K P V y (zD6 y v) := fun σ u p hT hD => by
  obtain ⟨x, σ', a1, a2, a3⟩ := C_addStep_d σ 7 0
  obtain ⟨σ2, b1, b2, b3⟩ := zD7_d (K := K) (V := V) y v σ' u p (zTk_E a2 hT) (zDd0_E a3 hD)
  exact ⟨σ2, by unfold zD6; rw [bnd2_eq a1]; exact b1, zfE_trans a2 b2, b3⟩
theorem zD5b_d {K P V : Nat → Nat} (y v : Int32) : zPs K P V y (zD5b y v) := zPs_bind (C_expect_d (k := 22) (by omega) (by omega)) (zD6_d y v)
theorem zD5_d {K P V : Nat → Nat} (hV : ∀ j, K j = 3 → V j ≤ 9999) (hK : ∀ j, K j ≤ 31) (y v : Int32) : zPs K P V y (zD5 y v) := zPs_bind (C_readSum hV hK).2 (zD5b_d y v)
theorem zD4_d {K P V : Nat → Nat} (hV : ∀ j, K j = 3 → V j ≤ 9999) (hK : ∀ j, K j ≤ 31) (y : Int32) : zPs K P V y (zD4 y) := fun σ u p hT hD => by
  obtain ⟨x, σ', a1, a2, a3⟩ := C_addStep_d σ 6 0
  obtain ⟨σ2, b1, b2, b3⟩ := zD5_d hV hK y x σ' u p (zTk_E a2 hT) (zDd0_E a3 hD)
  exact ⟨σ2, by unfold zD4; rw [bnd2_eq a1]; exact b1, zfE_trans a2 b2, b3⟩
theorem zD3b_d {K P V : Nat → Nat} (hV : ∀ j, K j = 3 → V j ≤ 9999) (hK : ∀ j, K j ≤ 31) (y : Int32) : zPs K P V y (zD3b y) := zPs_bind (C_expect_d (k := 21) (by omega) (by omega)) (zD4_d hV hK y)
theorem zD3_d {K P V : Nat → Nat} (hV : ∀ j, K j = 3 → V j ≤ 9999) (hK : ∀ j, K j ≤ 31) (y : Int32) : zPs K P V y (zD3 y) := zPs_bind (C_readSum hV hK).2 (zD3b_d hV hK y)
theorem zD2_d {K P V : Nat → Nat} (hV : ∀ j, K j = 3 → V j ≤ 9999) (hK : ∀ j, K j ≤ 31) (y : Int32) : zPs K P V y (zD2 y) := zPs_bind (C_expect_d (k := 10) (by omega) (by omega)) (zD3_d hV hK y)
theorem zD1_d {K P V : Nat → Nat} (hV : ∀ j, K j = 3 → V j ≤ 9999) (hK : ∀ j, K j ≤ 31) (y : Int32) : zPs K P V y (zD1 y) := zPs_bind (C_readSum hV hK).2 (zD2_d hV hK y)
/-- the reference goes through the rest of a clause behind a fault -/
def zPm (P : Nat → Nat) (w c0 d : Nat) (y : Int32) (g : St → Option ((St × Int32) ⊕ ((St) ⊕ (St)))) : Prop := ∀ τ v p b, zDm P τ v p → τ.1 0 29 = nI b → b < 130 * w + 130 → ∃ τ', g τ = some (.inl (τ', y)) ∧ zfL w b c0 τ τ' ∧ zDm P τ' v p ∧ τ'.1 0 29 = nI (b + d)
theorem zG6_d {P : Nat → Nat} (y : Int32) {τ : St} {v p : Nat} (hD : zDm P τ v p) : zG6 y τ = some (.inl (τ, y)) := by
  unfold zG6
  rw [bind_eq (M_must_d hD _)]
theorem zG5_d {P : Nat → Nat} {w c0 : Nat} (hw : w ≤ 1) (y : Int32) : zPm P w c0 1 y (zG5 y) := fun τ v p b hD h29 hb => by
  obtain ⟨τ', a1, a2, a3, a4⟩ := M_term_d (c0 := c0) hD h29 hb hw
  exact ⟨τ', by unfold zG5; rw [bind_eq a1]; exact zG6_d y a4, a2, a4, a3⟩
theorem zG4_d {P : Nat → Nat} {w c0 : Nat} (hw : w ≤ 1) (y : Int32) : zPm P w c0 1 y (zG4 y) := fun τ v p b hD h29 hb => by
  obtain ⟨τ', a1, a2⟩ := zG5_d (c0 := c0) hw y τ v p b hD h29 hb
  exact ⟨τ', by unfold zG4; rw [bind_eq (M_must_d hD _)]; exact a1, a2⟩
theorem zDm_ne0 {P : Nat → Nat} {τ : St} {v p c i : Nat} {x : Int32} (hD : zDm P τ v p) (h : c ≠ 0) : zDm P (si τ c i x) v p := ⟨hD.1, by rw [si_ne (by omega)]; exact hD.2.1, by rw [si_ne (by omega)]; exact hD.2.2⟩
theorem zG3_d {P : Nat → Nat} {w c0 : Nat} (hw : w ≤ 1) (y : Int32) : zPm P w c0 1 y (zG3 y) := fun τ v p b hD h29 hb => by
  have b1 : ib (nI b) 260 = true := ib_t (by omega) (by omega)
  have D1 : zDm P (si τ 18 b (τ.1 0 35)) v p := zDm_ne0 hD (by omega)
  obtain ⟨τ', a1, a2, a3⟩ := zG4_d (c0 := c0) hw y _ v p b D1 (by rw [si_ne (by omega)]; exact h29) hb
  refine ⟨τ', ?_, zfL_trans (zfL_br τ 18 b _ (by omega) (by omega)) a2, a3⟩
  unfold zG3
  rw [h29, if_ib b1, nI_clamp (by omega), wlet_eq, wlet_eq, if_neg (zDm_ne D1)]
  exact a1
theorem zG2_d {P : Nat → Nat} {w c0 : Nat} (hw : w ≤ 1) (y : Int32) : zPm P w c0 1 y (zG2 y) := fun τ v p b hD h29 hb => by
  obtain ⟨τ', a1, a2⟩ := zG3_d (c0 := c0) hw y τ v p b hD h29 hb
  exact ⟨τ', by unfold zG2; rw [bind_eq (M_must_d hD _)]; exact a1, a2⟩
theorem zG1_d {P : Nat → Nat} {w c0 : Nat} (hw : w ≤ 1) (y : Int32) : zPm P w c0 1 y (zG1 y) := fun τ v p b hD h29 hb => by
  have b1 : ib (nI b) 260 = true := ib_t (by omega) (by omega)
  have h2 : (si τ 16 b (vp_nar .boolean (1 : Int32))).1 0 29 = nI b := by rw [si_ne (by omega)]; exact h29
  have D2 : zDm P (si (si τ 16 b (vp_nar .boolean (1 : Int32))) 17 b ((si τ 16 b (vp_nar .boolean (1 : Int32))).1 0 35)) v p := zDm_ne0 (zDm_ne0 hD (by omega)) (by omega)
  obtain ⟨τ', a1, a2, a3⟩ := zG2_d (c0 := c0) hw y (si (si (si τ 16 b (vp_nar .boolean (1 : Int32))) 17 b ((si τ 16 b (vp_nar .boolean (1 : Int32))).1 0 35)) 0 39 0) v p b (zDm_0 D2 (by omega)) (by rw [si_get, if_neg (by omega), si_ne (by omega)]; exact h2) hb
  refine ⟨τ', ?_, zfL_trans (zfL_br τ 16 b _ (by omega) (by omega)) (zfL_trans (zfL_br _ 17 b _ (by omega) (by omega)) (zfL_trans (zfL_0 _ 39 0 (by omega)) a2)), a3⟩
  unfold zG1
  rw [h29, if_ib b1, nI_clamp (by omega), wlet_eq, h2, if_ib b1, nI_clamp (by omega), wlet_eq, bind_eq (M_expression_d D2)]
  exact a1
/-- a clause's steps in the class, from p on -/
def zlx (p : Nat) (x : List (Nat × Nat) × List (Nat × Nat) × List (Nat × Nat)) : List (Nat × Nat) := x.1 ++ x.2.1 ++ (6, p + x.1.length + x.2.1.length + x.2.2.length + 2) :: x.2.2 ++ [(7, 0)]
/-- a clause's branch in the reference -/
def zFd (τ : St) (u w b : Nat) (x : List (Nat × Nat) × List (Nat × Nat) × List (Nat × Nat)) : Prop := τ.1 16 b ≠ 0 ∧ ∃ p q m, u ≤ p ∧ q = p + x.1.length ∧ m = q + x.2.1.length ∧ m + x.2.2.length ≤ w ∧ τ.1 17 b = nI p ∧ τ.1 18 b = nI q ∧ τ.1 19 b = nI m ∧ τ.1 20 b = nI (m + x.2.2.length) ∧ CM (τ.1 21) (τ.1 22) p x.1 ∧ CM (τ.1 21) (τ.1 22) q x.2.1 ∧ CM (τ.1 21) (τ.1 22) m x.2.2
theorem zSt_lead {P : Nat → Nat} {σc σ : St} {L t : Nat} {c1 c2 : List (Nat × Nat)} (h : zSt P σc σ L (.inr (t, c1 ++ (6, 0) :: c2))) (hb : L + c1.length + 1 + c2.length ≤ 420) : ∃ σ', f_X8_leadHere σ 15 (nI (L + c1.length)) = some σ' ∧ zSt P σc σ' L (.inr (t, c1 ++ (6, L + c1.length + 1 + c2.length) :: c2)) ∧ zfE σ σ' := by
  obtain ⟨f, ⟨v, p, e, d⟩ | ⟨t', c', e, d1, d2, d3, d4⟩⟩ := h
  · cases e
  · cases e
    have l1 : (c1 ++ (6, 0) :: c2).length = c1.length + 1 + c2.length := by rw [List.length_append, List.length_cons]; omega
    have n1 : ¬ nI (L + c1.length) < 0 := nI_pos (by omega)
    have n2 : ¬ nI (L + (c1 ++ (6, 0) :: c2).length) ≤ nI (L + c1.length) := fun z => by have := (nI_leN (by omega) (by omega)).mp z; omega
    have n3 : ¬ (420 : Int32) ≤ nI (L + c1.length) := fun z => by have := (nI_leN (a := 420) (by omega) (by omega)).mp z; omega
    have e8 : ((8 : Int32) * nI (L + (c1 ++ (6, 0) :: c2).length)) + (6 : Int32) = nI (8 * (L + c1.length + 1 + c2.length) + 6) := by
      rw [show (8 : Int32) = nI 8 from rfl, show (6 : Int32) = nI 6 from rfl, znI_mul, nI_add', l1, show L + (c1.length + 1 + c2.length) = L + c1.length + 1 + c2.length by omega]
    obtain ⟨e1, e2, e3⟩ := CA_append.mp d4
    refine ⟨si σ 16 (L + c1.length) (nI (8 * (L + c1.length + 1 + c2.length) + 6)), ?_, ⟨zfE_trans f (zfE_16 _ _ _), Or.inr ⟨t, _, rfl, ⟨d1.1, by rw [si_ne (by omega)]; exact d1.2.1, by rw [si_ne (by omega)]; exact d1.2.2⟩, ?_, fun i hi => ?_, ?_⟩⟩, zfE_16 _ _ _⟩
    · unfold f_X8_leadHere
      rw [d2, if_neg n1, if_neg n2, if_neg n3, if_ib (ib_t (by omega) (by omega)), nI_clamp (by omega), wlet_eq, e8]
    · rw [si_ne (by omega), d2, l1, List.length_append, List.length_cons, show L + (c1.length + 1 + c2.length) = L + (c1.length + (c2.length + 1)) by omega]
    · rw [si_get, if_neg (by omega)]; exact d3 i hi
    · refine CA_append.mpr ⟨CA_congr (fun i h1 h2 => by rw [si_get, if_neg (by omega)]) e1, ?_, CA_congr (fun i h1 h2 => by rw [si_get, if_neg (by omega)]) e3⟩
      rw [si_get, if_pos ⟨rfl, rfl⟩]
theorem zlx_eq (p : Nat) (a b c : List (Nat × Nat)) : zlx p (a, b, c) = (a ++ b) ++ (6, p + a.length + b.length + c.length + 2) :: (c ++ [(7, 0)]) := by
  unfold zlx
  dsimp only
  rw [List.append_assoc (a ++ b), List.cons_append]
theorem zlx_len (p : Nat) (x : List (Nat × Nat) × List (Nat × Nat) × List (Nat × Nat)) : (zlx p x).length = x.1.length + x.2.1.length + x.2.2.length + 2 := by
  unfold zlx
  simp only [List.length_append, List.length_cons, List.length_nil]
  omega
theorem zc_eq (c0 a b c : List (Nat × Nat)) (m : Nat) : c0 ++ a ++ b ++ [(6, m)] ++ c ++ [(7, 0)] = (c0 ++ a ++ b) ++ (6, m) :: (c ++ [(7, 0)]) := by simp [List.append_assoc]
/-- how a clause ends: both alive, or both dead -/
def zCE (K P V : Nat → Nat) (σc : St) (Lc t cd b : Nat) (c0 : List (Nat × Nat)) (σ' τ' : St) : Prop := (∃ t' x, t < t' ∧ okR x.1 0 ∧ okR x.2.1 0 ∧ okR x.2.2 0 ∧ zSt P σc σ' Lc (.inr (t', c0 ++ zlx (Lc + c0.length) x)) ∧ zAm K τ' t' ∧ τ'.1 0 12 = 0 ∧ τ'.1 0 35 = nI (cd + (x.1.length + x.2.1.length + x.2.2.length)) ∧ x.1.length + x.2.1.length + x.2.2.length + 2 ≤ t' - t ∧ zFd τ' cd (cd + (x.1.length + x.2.1.length + x.2.2.length)) b x) ∨ ∃ v p, zDd0 σ' P v p ∧ zDm P τ' v p
theorem zCE_d {K P V : Nat → Nat} {w cd b t Lc : Nat} {c0 : List (Nat × Nat)} {y y' : Int32} {σc σ σ1 τ τ1 : St} {v p : Nat} {g : St → Option ((St × Int32) ⊕ (St))} {G : St → Option ((St × Int32) ⊕ ((St) ⊕ (St)))} (hg : zPs K P V y g) (hG : zPm P w cd 1 y' G) (hT : zTk σ K P V) (f1 : zfE σ σ1) (f2 : zfL w b cd τ τ1) (h29 : τ1.1 0 29 = nI b) (hb : b < 130 * w + 130) (d1 : zDd0 σ1 P v p) (d2 : zDm P τ1 v p) : ∃ σ' τ', g σ1 = some (.inl (σ', y + 1)) ∧ G τ1 = some (.inl (τ', y')) ∧ zfE σ σ' ∧ zfL w b cd τ τ' ∧ τ'.1 0 29 = nI (b + 1) ∧ zCE K P V σc Lc t cd b c0 σ' τ' := by
  obtain ⟨σ', a1, a2, a3⟩ := hg σ1 v p (zTk_E f1 hT) d1
  obtain ⟨τ', b1, b2, b3, b4⟩ := hG τ1 v p b d2 h29 hb
  exact ⟨σ', τ', a1, b1, zfE_trans f1 a2, zfL_trans f2 b2, b4, Or.inr ⟨v, p, a3, b3⟩⟩
theorem J_clause {σc σ τ : St} {K P V N : Nat → Nat} {Lc t cd w b y : Nat} {c0 : List (Nat × Nat)} (hV : ∀ j, K j = 3 → V j ≤ 9999) (hT : zTk σ K P V) (hM : zTm τ K P V N) (hS : zSt P σc σ Lc (.inr (t, c0))) (hA : zAm K τ t) (hk : K t = 20) (hy : y < 4) (h12 : τ.1 0 12 = 0) (h35 : τ.1 0 35 = nI cd) (h29 : τ.1 0 29 = nI b) (hL : Lc + c0.length + (400 - t) < 420) (hB : cd + (401 - t) ≤ 420 * w + 420) (hb : b < 130 * w + 130) (hw : w ≤ 1) : ∃ σ' τ', rdC (σ, nI y) = some (.inl (σ', nI y + 1)) ∧ rdM (τ, nI y) = some (.inl (τ', nI y + 1)) ∧ zfE σ σ' ∧ zfL w b cd τ τ' ∧ τ'.1 0 29 = nI (b + 1) ∧ zCE K P V σc Lc t cd b c0 σ' τ' := by
  have hK := hT.2.2
  have b1 : ib (nI b) 260 = true := ib_t (by omega) (by omega)
  have g1 : (nI b).toNatClampNeg = b := nI_clamp (by omega)
  have n4 : ¬ (4 : Int32) ≤ nI y := fun z => by have := (nI_leN (a := 4) (by omega) (by omega)).mp z; omega
  have n4' : ¬ nI y = (4 : Int32) := fun z => by have := (nI_eqN (b := 4) (by omega) (by omega)).mp z; omega
  obtain ⟨f0, A0, L0⟩ := zSt_al hS
  obtain ⟨σ1, τ1, a1, a2, a3, a4, a5⟩ := J_take hM hS hA (by omega)
  have i1 := C_isNext hT A0 (k := 20) (by omega)
  rw [if_pos hk] at i1
  have i2 := M_is hM hA (k := 20) (by omega)
  rw [if_pos hk] at i2
  have ec : rdC (σ, nI y) = zD1 (nI y) σ1 := by
    unfold rdC un2
    dsimp only
    rw [if_neg n4, show (20 : Int32) = nI 20 from rfl, bind_eq i1, if_neg n10, bind_eq a1]
    rfl
  have em : rdM (τ, nI y) = zG1 (nI y + 1) τ1 := by
    have q : τ.1 0 13 ≤ 0 := by rw [hA.2.2.1]; decide
    unfold rdM un2
    dsimp only
    rw [if_pos hA.2.2.1, show (27 : Int32) = nI (zrk 20) from rfl, bind_eq i2, if_neg n10, wlet_eq, if_neg n4']
    dsimp only
    rw [if_pos q, wlet_eq, bind_eq a2]
    rfl
  rw [ec, em]
  have fT1 := zfL_T (w := w) (b0 := b) (c0 := cd) a4
  have h29a : τ1.1 0 29 = nI b := by rw [a4.2.1 29 (by omega) (by omega) (by omega)]; exact h29
  rcases a5 with ⟨S1, A1⟩ | ⟨v, p, d1, d2⟩
  case inr => exact zCE_d (zD1_d hV hK _) (zG1_d hw _) hT a3 fT1 h29a hb d1 d2
  -- the first two places of the branch
  have h35a : τ1.1 0 35 = nI cd := by rw [a4.2.1 35 (by omega) (by omega) (by omega)]; exact h35
  have h12a : τ1.1 0 12 = 0 := by rw [a4.2.1 12 (by omega) (by omega) (by omega)]; exact h12
  obtain ⟨τ2, e2⟩ : ∃ τ2, τ2 = si (si τ1 16 b (vp_nar .boolean (1 : Int32))) 17 b (nI cd) := ⟨_, rfl⟩
  have s29 : τ2.1 0 29 = nI b := by rw [e2, si_ne (by omega), si_ne (by omega)]; exact h29a
  have s35 : τ2.1 0 35 = nI cd := by rw [e2, si_ne (by omega), si_ne (by omega)]; exact h35a
  have s12 : τ2.1 0 12 = 0 := by rw [e2, si_ne (by omega), si_ne (by omega)]; exact h12a
  have s16 : τ2.1 16 b ≠ 0 := by
    rw [e2, si_ne (by omega), si_get, if_pos ⟨rfl, rfl⟩]; decide
  have s17 : τ2.1 17 b = nI cd := by rw [e2, si_get, if_pos ⟨rfl, rfl⟩]
  have f2 : zfL w b cd τ τ2 := zfL_trans fT1 (by rw [e2]; exact zfL_trans (zfL_br _ _ _ _ (by omega) (by omega)) (zfL_br _ _ _ _ (by omega) (by omega)))
  have eG1 : zG1 (nI y + 1) τ1 = Option.bind (f_X11_expression τ2) (zG2 (nI y + 1)) := by
    have z1 : (si τ1 16 b (vp_nar .boolean (1 : Int32))).1 0 29 = nI b := by rw [si_ne (by omega)]; exact h29a
    have z2 : (si τ1 16 b (vp_nar .boolean (1 : Int32))).1 0 35 = nI cd := by rw [si_ne (by omega)]; exact h35a
    unfold zG1
    rw [h29a, if_ib b1, g1, wlet_eq, z1, if_ib b1, g1, z2, wlet_eq, ← e2]
  have A2 : zAm K τ2 (t + 1) := ⟨A1.1, by rw [e2, si_ne (by omega), si_ne (by omega)]; exact A1.2.1, by rw [e2, si_ne (by omega), si_ne (by omega)]; exact A1.2.2.1, A1.2.2.2⟩
  have T1 := zTk_E a3 hT
  have M2 := zTm_L f2 hM
  -- the first expression
  obtain ⟨σ3, τ3, c1, c2, c3, c4, c5⟩ := J_sum (E := 420 * w + 420) hV T1 M2 S1 A2 s12 s35 (by omega) (by omega) (by omega)
  have f3 : zfL w b cd τ τ3 := zfL_trans f2 (zfL_M c4 (Nat.le_refl _))
  have k29 : τ3.1 0 29 = nI b := by rw [c4.2.1 29 (by omega) (by omega) (by omega) (by omega) (by omega) (by omega)]; exact s29
  have F3 := zfE_trans a3 c3
  rw [eG1, show zD1 (nI y) σ1 = Option.bind (fR_readSum 8 σ1 (0 : Int32)) (zD2 (nI y)) from rfl, bind_eq c1, bind_eq c2]
  rcases c5 with ⟨t3, la, u1, u2, u3, u4, S3, A3, k12, k35, kCM⟩ | ⟨v, p, d1, d2⟩
  case inr => exact zCE_d (zD2_d hV hK _) (zG2_d hw _) hT F3 f3 k29 hb d1 d2
  have k16 : τ3.1 16 b ≠ 0 := by rw [c4.1 16 (by omega) (by omega) (by omega) (by omega)]; exact s16
  have k17 : τ3.1 17 b = nI cd := by rw [c4.1 17 (by omega) (by omega) (by omega) (by omega)]; exact s17
  -- the comparing sign
  obtain ⟨σ4, τ4, a1, a2, a3', a4', a5⟩ := J_must (k := 10) (zTk_E F3 hT) (zTm_L f3 hM) S3 A3 (by omega) (by omega)
  have F4 := zfE_trans F3 a3'
  have f4 := zfL_trans f3 (zfL_T a4')
  have l29 : τ4.1 0 29 = nI b := by rw [a4'.2.1 29 (by omega) (by omega) (by omega)]; exact k29
  rw [show zD2 (nI y) σ3 = Option.bind (f_X4_expect σ3 (nI 10)) (zD3 (nI y)) from rfl, show zG2 (nI y + 1) τ3 = Option.bind (f_X11_must τ3 (nI (zrk 10))) (zG3 (nI y + 1)) from rfl, bind_eq a1, bind_eq a2]
  rcases a5 with ⟨-, S4, A4⟩ | ⟨v, p, d1, d2⟩
  case inr => exact zCE_d (zD3_d hV hK _) (zG3_d hw _) hT F4 f4 l29 hb d1 d2
  have l35 : τ4.1 0 35 = nI (cd + la.length) := by rw [a4'.2.1 35 (by omega) (by omega) (by omega)]; exact k35
  have l12 : τ4.1 0 12 = 0 := by rw [a4'.2.1 12 (by omega) (by omega) (by omega)]; exact k12
  obtain ⟨τ5, e5⟩ : ∃ τ5, τ5 = si τ4 18 b (nI (cd + la.length)) := ⟨_, rfl⟩
  have f5 : zfL w b cd τ τ5 := zfL_trans f4 (by rw [e5]; exact zfL_br _ _ _ _ (by omega) (by omega))
  have A5 : zAm K τ5 (t3 + 1) := ⟨A4.1, by rw [e5, si_ne (by omega)]; exact A4.2.1, by rw [e5, si_ne (by omega)]; exact A4.2.2.1, A4.2.2.2⟩
  have s29 : τ5.1 0 29 = nI b := by rw [e5, si_ne (by omega)]; exact l29
  have s35 : τ5.1 0 35 = nI (cd + la.length) := by rw [e5, si_ne (by omega)]; exact l35
  have s12 : τ5.1 0 12 = 0 := by rw [e5, si_ne (by omega)]; exact l12
  have eG3 : zG3 (nI y + 1) τ4 = Option.bind (f_X11_expression τ5) (zG4 (nI y + 1)) := by
    have z2 : (si τ4 18 b (nI (cd + la.length))).1 0 13 = 0 := by rw [si_ne (by omega)]; exact A4.2.2.1
    unfold zG3
    rw [l29, if_ib b1, g1, l35, wlet_eq, wlet_eq, if_pos z2, ← e5]
  -- the second expression
  have u1 := u1; have u2 := u2; have u3 := u3
  have lc1 : (c0 ++ la).length = c0.length + la.length := List.length_append
  obtain ⟨σ6, τ6, c1, c2, c3', c4', c5⟩ := J_sum (E := 420 * w + 420) hV (zTk_E F4 hT) (zTm_L f5 hM) S4 A5 s12 s35 (by omega) (by omega) (by omega)
  have F6 := zfE_trans F4 c3'
  have f6 : zfL w b cd τ τ6 := zfL_trans f5 (zfL_mono (zfL_M c4' (Nat.le_refl _)) (Nat.le_refl b) (Nat.le_add_right cd la.length))
  have m29 : τ6.1 0 29 = nI b := by rw [c4'.2.1 29 (by omega) (by omega) (by omega) (by omega) (by omega) (by omega)]; exact s29
  rw [eG3, show zD3 (nI y) σ4 = Option.bind (fR_readSum 8 σ4 (0 : Int32)) (zD3b (nI y)) from rfl, bind_eq c1, bind_eq c2]
  rcases c5 with ⟨t6, lb, v1, v2, v3, v4, S6, A6, m12, m35, mCM⟩ | ⟨v, p, d1, d2⟩
  case inr => exact zCE_d (zD3b_d hV hK _) (zG4_d hw _) hT F6 f6 m29 hb d1 d2
  have fa : zfL w b (cd + la.length) τ5 τ6 := zfL_M c4' (Nat.le_refl _)
  have m16 : τ6.1 16 b ≠ 0 := by rw [c4'.1 16 (by omega) (by omega) (by omega) (by omega), e5, si_ne (by omega), a4'.1 16 (by omega)]; exact k16
  have m17 : τ6.1 17 b = nI cd := by rw [c4'.1 17 (by omega) (by omega) (by omega) (by omega), e5, si_ne (by omega), a4'.1 17 (by omega)]; exact k17
  have m18 : τ6.1 18 b = nI (cd + la.length) := by rw [c4'.1 18 (by omega) (by omega) (by omega) (by omega), e5, si_get, if_pos ⟨rfl, rfl⟩]
  have mCMa : CM (τ6.1 21) (τ6.1 22) cd la := CM_congr (fun i a c => ⟨by rw [(c4'.2.2.2 i (by omega)).1, e5, si_ne (by omega), a4'.1 21 (by omega)], by rw [(c4'.2.2.2 i (by omega)).2, e5, si_ne (by omega), a4'.1 22 (by omega)]⟩) kCM
  -- then
  obtain ⟨σ7, τ7, a1, a2, a3', a4', a5⟩ := J_must (k := 21) (zTk_E F6 hT) (zTm_L f6 hM) S6 A6 (by omega) (by omega)
  have F7 := zfE_trans F6 a3'
  have f7 := zfL_trans f6 (zfL_T a4')
  have o29 : τ7.1 0 29 = nI b := by rw [a4'.2.1 29 (by omega) (by omega) (by omega)]; exact m29
  rw [show zD3b (nI y) σ6 = Option.bind (f_X4_expect σ6 (nI 21)) (zD4 (nI y)) from rfl, show zG4 (nI y + 1) τ6 = Option.bind (f_X11_must τ6 (nI (zrk 21))) (zG5 (nI y + 1)) from rfl, bind_eq a1, bind_eq a2]
  rcases a5 with ⟨-, S7, A7⟩ | ⟨v, p, d1, d2⟩
  case inr => exact zCE_d (zD4_d hV hK _) (zG5_d hw _) hT F7 f7 o29 hb d1 d2
  have o35 : τ7.1 0 35 = nI (cd + la.length + lb.length) := by rw [a4'.2.1 35 (by omega) (by omega) (by omega)]; exact m35
  have o12 : τ7.1 0 12 = 0 := by rw [a4'.2.1 12 (by omega) (by omega) (by omega)]; exact m12
  -- the step that is led
  have lc2 : (c0 ++ la ++ lb).length = c0.length + la.length + lb.length := by rw [List.length_append, lc1]
  obtain ⟨p1, S8⟩ := zSt_step (o := 6) (v := 0) S7 (by omega)
  obtain ⟨σ8, e8⟩ : ∃ σ8, σ8 = si (si σ7 16 (Lc + (c0 ++ la ++ lb).length) (nI (8 * 0 + 6))) 15 5 (nI (Lc + (c0 ++ la ++ lb).length + 1)) := ⟨_, rfl⟩
  have F8 : zfE σ σ8 := zfE_trans F7 (by rw [e8]; exact zfE_trans (zfE_16 _ _ _) (zfE_155 _ _))
  rw [← e8] at p1 S8
  rw [show zD4 (nI y) σ7 = bnd2 (f_X8_addStep σ7 15 (nI 6) (nI 0)) (zD5 (nI y)) from rfl, bnd2_eq p1, show zG5 (nI y + 1) τ7 = Option.bind (f_X11_term τ7) (zG6 (nI y + 1)) from rfl]
  have lc3 : (c0 ++ la ++ lb ++ [(6, 0)]).length = c0.length + la.length + lb.length + 1 := by rw [List.length_append, lc2]; rfl
  obtain ⟨σ9, τ9, c1, c2, c3', c4', c6, c5⟩ := J_term (w := w) (b := b) hV (zTk_E F8 hT) (zTm_L f7 hM) S8 A7 o12 o35 o29 (by omega) (by omega) hb hw
  have F9 := zfE_trans F8 c3'
  have f9 : zfL w b cd τ τ9 := zfL_trans f7 (zfL_mono c4' (Nat.le_refl b) (by omega))
  rw [show zD5 (nI y) (nI (Lc + (c0 ++ la ++ lb).length)) σ8 = Option.bind (fR_readSum 8 σ8 (0 : Int32)) (zD5b (nI y) (nI (Lc + (c0 ++ la ++ lb).length))) from rfl, bind_eq c1, bind_eq c2]
  rcases c5 with ⟨t9, lc, w1, w2, w3, w4, S9, A9, q12, q35, qCM, qs, q19, q20⟩ | ⟨v, p, d1, d2⟩
  case inr =>
    obtain ⟨σ', a1, a2, a3⟩ := zD5b_d (K := K) (V := V) (nI y) (nI (Lc + (c0 ++ la ++ lb).length)) σ9 v p (zTk_E F9 hT) d1
    exact ⟨σ', τ9, a1, zG6_d _ d2, zfE_trans F9 a2, f9, c6, Or.inr ⟨v, p, a3, d2⟩⟩
  obtain ⟨σ10, τ10, a1, a2, a3', a5', a5⟩ := J_must (k := 22) (zTk_E F9 hT) (zTm_L f9 hM) S9 A9 (by omega) (by omega)
  have F10 := zfE_trans F9 a3'
  have f10 := zfL_trans f9 (zfL_T a5')
  have r29 : τ10.1 0 29 = nI (b + 1) := by rw [a5'.2.1 29 (by omega) (by omega) (by omega)]; exact c6
  rw [show zD5b (nI y) (nI (Lc + (c0 ++ la ++ lb).length)) σ9 = Option.bind (f_X4_expect σ9 (nI 22)) (zD6 (nI y) (nI (Lc + (c0 ++ la ++ lb).length))) from rfl, show zG6 (nI y + 1) τ9 = Option.bind (f_X11_must τ9 (nI (zrk 22))) fun σ41 => some (.inl (σ41, nI y + 1)) from rfl, bind_eq a1, bind_eq a2]
  rcases a5 with ⟨-, S10, A10⟩ | ⟨v, p, d1, d2⟩
  case inr =>
    obtain ⟨σ', a1, a2, a3⟩ := zD6_d (K := K) (V := V) (nI y) (nI (Lc + (c0 ++ la ++ lb).length)) σ10 v p (zTk_E F10 hT) d1
    exact ⟨σ', τ10, a1, rfl, zfE_trans F10 a2, f10, r29, Or.inr ⟨v, p, a3, d2⟩⟩
  have lc4 : (c0 ++ la ++ lb ++ [(6, 0)] ++ lc).length = c0.length + la.length + lb.length + 1 + lc.length := by rw [List.length_append, lc3]
  have w2' := (zSt_al S10).2.1.1
  obtain ⟨p2, S11⟩ := zSt_step (o := 7) (v := 0) S10 (by omega)
  rw [show zD6 (nI y) (nI (Lc + (c0 ++ la ++ lb).length)) σ10 = bnd2 (f_X8_addStep σ10 15 (nI 7) (nI 0)) fun _ σ40 => zD7 (nI y) (nI (Lc + (c0 ++ la ++ lb).length)) σ40 from rfl, bnd2_eq p2]
  rw [zc_eq] at S11
  have lc5 : (lc ++ [(7, 0)]).length = lc.length + 1 := by rw [List.length_append]; rfl
  obtain ⟨σ12, p3, S12, F12⟩ := zSt_lead S11 (by omega)
  refine ⟨σ12, τ10, by unfold zD7; rw [bind_eq p3, wlet_eq], rfl, zfE_trans F10 (zfE_trans (zfE_trans (zfE_16 _ _ _) (zfE_155 _ _)) F12), f10, r29, Or.inl ⟨t9 + 1, (la, lb, lc), by omega, u4, v4, w4, ?_, A10, ?_, ?_, ?_, ?_⟩⟩
  · rw [zlx_eq]
    rw [lc2, lc5] at S12
    rw [List.append_assoc c0 la lb, List.append_assoc c0, show Lc + (c0.length + la.length + lb.length) + 1 + (lc.length + 1) = Lc + c0.length + la.length + lb.length + lc.length + 2 by omega] at S12
    exact S12
  · rw [a5'.2.1 12 (by omega) (by omega) (by omega)]; exact q12
  · rw [a5'.2.1 35 (by omega) (by omega) (by omega), q35]
    dsimp only
    congr 1
    omega
  · dsimp only; omega
  · have z16 : τ10.1 16 = τ6.1 16 := by rw [a5'.1 16 (by omega), qs 16 (by omega) (by omega), a4'.1 16 (by omega)]
    have z17 : τ10.1 17 = τ6.1 17 := by rw [a5'.1 17 (by omega), qs 17 (by omega) (by omega), a4'.1 17 (by omega)]
    have z18 : τ10.1 18 = τ6.1 18 := by rw [a5'.1 18 (by omega), qs 18 (by omega) (by omega), a4'.1 18 (by omega)]
    have lo : ∀ i, i < cd + la.length + lb.length → τ10.1 21 i = τ6.1 21 i ∧ τ10.1 22 i = τ6.1 22 i := fun i hi => ⟨by rw [a5'.1 21 (by omega), c4'.2.2.2.2 21 i (by omega) (by omega) (by omega), a4'.1 21 (by omega)], by rw [a5'.1 22 (by omega), c4'.2.2.2.2 22 i (by omega) (by omega) (by omega), a4'.1 22 (by omega)]⟩
    refine ⟨by rw [z16]; exact m16, cd, cd + la.length, cd + la.length + lb.length, Nat.le_refl _, rfl, rfl, by dsimp only; omega, by rw [z17]; exact m17, by rw [z18]; exact m18, by rw [a5'.1 19 (by omega)]; exact q19, by rw [a5'.1 20 (by omega)]; exact q20, ?_, ?_, ?_⟩
    · exact CM_congr (fun i h1 h2 => ⟨(lo i (by dsimp only at h2; omega)).1, (lo i (by dsimp only at h2; omega)).2⟩) mCMa
    · exact CM_congr (fun i h1 h2 => ⟨(lo i (by dsimp only at h2; omega)).1, (lo i (by dsimp only at h2; omega)).2⟩) mCM
    · rw [a5'.1 21 (by omega), a5'.1 22 (by omega)]; exact qCM
