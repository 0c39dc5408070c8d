/-! STAGE B, 33: the class's tables -/
theorem zVV {V V' : Nat → Int32} (h : ∀ i, 7 ≤ i → V' i = V i) (T : Tx) (c : Nat) (p q : Int32) : VV T V' c p q = VV T V c p q := by
  funext d k
  match k with
  | 0 => rfl
  | 1 => rfl
  | 2 => exact h _ (by omega)
  | 3 => rfl
  | 4 => exact h 8 (by omega)
  | 5 => rfl
  | 6 => exact h 7 (by omega)
  | 7 => rfl
  | k + 8 => exact h 25 (by omega)
theorem zplBc {V V' : Nat → Int32} (h : ∀ i, 7 ≤ i → V' i = V i) (a : Int32) : plB V' a = plB V a := by
  unfold plB
  rw [h 24 (by omega)]
theorem zsufc {V V' : Nat → Int32} (h : ∀ i, 7 ≤ i → V' i = V i) (T : Tx) (m j c a : Nat) : suf T V' m j c a = suf T V m j c a := by
  unfold suf sufM
  rw [zplBc h, zplBc h, zVV h, zVV h, h 9 (by omega)]
theorem zduc {V V' : Nat → Int32} (h : ∀ i, 7 ≤ i → V' i = V i) (T : Tx) (j c a : Nat) : duV T V' j c a = duV T V j c a := by
  unfold duV
  rw [zplBc h, zVV h]
theorem zsuf0 (T : Tx) (V : Nat → Int32) (m c a b : Nat) : suf T V m 0 c a = suf T V m 0 c b := by
  unfold suf
  rw [show knd T m 0 c a = 0 from knd_0.mpr rfl, show knd T m 0 c b = 0 from knd_0.mpr rfl, if_neg (by decide), if_pos rfl, if_neg (by decide), if_pos rfl]
theorem zdu0 (T : Tx) (V : Nat → Int32) (c a b : Nat) : duV T V 0 c a = duV T V 0 c b := rfl
def zax (p a : Nat) : Nat := if p = 0 then 0 else a + 1
theorem zax_lt {p a : Nat} (h : a < 7) : zax p a < 8 := by unfold zax; split <;> omega
theorem zax_ahN (p a : Nat) : ahN p a = nI (zax p a) - 1 := by
  unfold ahN zax
  by_cases h : p = 0
  · rw [if_pos h, if_pos h]; rfl
  · rw [if_neg h, if_neg h, zix]
theorem zspot : ∀ p, p < 7 → ∀ d, d < 7 → ∀ x, x < 8 → f_X2_spot (nI p) (nI d) (nI x - 1) = some (nI (64 * p + 8 * d + x)) := by decide +kernel
theorem zspot' {p d a : Nat} (hp : p < 7) (hd : d < 7) (ha : a < 7) : f_X2_spot (nI p) (nI d) (ahN p a) = some (nI (64 * p + 8 * d + zax p a)) := by
  rw [zax_ahN]; exact zspot p hp d hd _ (zax_lt ha)
def zEn (T : Tx) (V : Nat → Int32) (m : Nat) (s : St) (p d a : Nat) : Prop := s.1 26 (64 * p + 8 * d + zax p a) = suf T V m p d a ∧ s.1 27 (64 * p + 8 * d + zax p a) = duV T V p d a
/-- the tables are right for all that stands ahead of (p, i, j) -/
def zTb (T : Tx) (V : Nat → Int32) (m : Nat) (R : Nat → Int32) (s : St) (p i j : Nat) : Prop := ∀ p' i' j', p' < m → i' < m → j' < m → (p' = 0 → j' = 0) → (p' = 0 ∨ i' ≠ j') → (p' < p ∨ (p' = p ∧ (i' < i ∨ (i' = i ∧ j' < j)))) → zEn T V m s p' (cN R i') (cN R j')
def zFt (σ σ' : St) : Prop := (∀ c, c ≠ 22 → c ≠ 23 → c ≠ 26 → c ≠ 27 → σ'.1 c = σ.1 c) ∧ σ'.2 = σ.2
theorem zFt_refl (σ : St) : zFt σ σ := ⟨fun _ _ _ _ _ => rfl, rfl⟩
theorem zFt_trans {a b c : St} (h : zFt a b) (h' : zFt b c) : zFt a c := ⟨fun k h1 h2 h3 h4 => (h'.1 k h1 h2 h3 h4).trans (h.1 k h1 h2 h3 h4), h'.2.trans h.2⟩
theorem zFt_fr {a b : St} (h : fr 22 23 a b) : zFt a b := ⟨fun k h1 h2 _ _ => h.1 k (by omega), h.2⟩
theorem zFt_si (σ : St) {c : Nat} (i : Nat) (v : Int32) (h : c = 26 ∨ c = 27) : zFt σ (si σ c i v) := ⟨fun k _ _ h3 h4 => si_ne (by omega), rfl⟩
theorem zFt_Tx {σ σ' : St} {T : Tx} (h : zFt σ σ') (hT : TxC σ 4 T) : TxC σ' 4 T := zTxC_congr (fun c h1 h2 => h.1 c (by omega) (by omega) (by omega) (by omega)) hT
theorem zFt_RS {σ σ' : St} {m : Nat} {V : Nat → Int32} (h : zFt σ σ') (hR : RS σ 38 m V) : RS σ' 38 m V := zRS_cell (fun c h1 h2 => h.1 c (by omega) (by omega) (by omega) (by omega)) hR
def zLj (o1 : Nat) (x2_2_1 : Int32) (x4_26_5 : Int32) (v4 : Int32) : St × Int32 → Option ((St × Int32) ⊕ (St)) :=
  un2 (fun (σ38_8 : St) (x5_38_8 : Int32) => if v4 ≤ x5_38_8 then (some (.inr σ38_8)) else (wlet (fun (s0_59_11 : Int32) => (if ib x4_26_5 7 = true then if s0_59_11 = (σ38_8.1 28 (Int32.toNatClampNeg x4_26_5)) then (wlet (x5_38_8 + (1 : Int32)) fun v14 => some (.inl (σ38_8, v14))) else (if ib x4_26_5 7 = true then Option.bind (f_X2_spot x2_2_1 (σ38_8.1 28 (Int32.toNatClampNeg x4_26_5)) s0_59_11) fun v17 => if ib x4_26_5 7 = true then bnd2 (f_X1_suffering σ38_8 o1 (σ38_8.1 28 (Int32.toNatClampNeg x4_26_5)) x2_2_1 s0_59_11) fun v20 σ21 => if ib v17 448 = true then wlet (si σ21 26 (Int32.toNatClampNeg v17) v20) fun σ23 => if ib x4_26_5 7 = true then bnd2 (f_X1_due σ23 o1 (σ23.1 28 (Int32.toNatClampNeg x4_26_5)) x2_2_1 s0_59_11) fun v26 σ27 => if ib v17 448 = true then wlet (si σ27 27 (Int32.toNatClampNeg v17) v26) fun σ29 => wlet (x5_38_8 + (1 : Int32)) fun v30 => some (.inl (σ29, v30)) else none else none else none else none else none) else none : Option ((St × Int32) ⊕ (St)))) fun k59_11 => if x2_2_1 = 0 then (k59_11 (-1 : Int32)) else (if ib x5_38_8 7 = true then k59_11 (σ38_8.1 28 (Int32.toNatClampNeg x5_38_8)) else none)))
def zLi (o1 : Nat) (x2_2_1 : Int32) (v4 : Int32) : St × Int32 → Option ((St × Int32) ⊕ (St)) :=
  un2 (fun (σ26_5 : St) (x4_26_5 : Int32) => if (σ26_5.1 25 5) ≤ x4_26_5 then (some (.inr σ26_5)) else (wlet (un2 (fun (σ38_8 : St) (x5_38_8 : Int32) => if v4 ≤ x5_38_8 then (some (.inr σ38_8)) else (wlet (fun (s0_59_11 : Int32) => (if ib x4_26_5 7 = true then if s0_59_11 = (σ38_8.1 28 (Int32.toNatClampNeg x4_26_5)) then (wlet (x5_38_8 + (1 : Int32)) fun v14 => some (.inl (σ38_8, v14))) else (if ib x4_26_5 7 = true then Option.bind (f_X2_spot x2_2_1 (σ38_8.1 28 (Int32.toNatClampNeg x4_26_5)) s0_59_11) fun v17 => if ib x4_26_5 7 = true then bnd2 (f_X1_suffering σ38_8 o1 (σ38_8.1 28 (Int32.toNatClampNeg x4_26_5)) x2_2_1 s0_59_11) fun v20 σ21 => if ib v17 448 = true then wlet (si σ21 26 (Int32.toNatClampNeg v17) v20) fun σ23 => if ib x4_26_5 7 = true then bnd2 (f_X1_due σ23 o1 (σ23.1 28 (Int32.toNatClampNeg x4_26_5)) x2_2_1 s0_59_11) fun v26 σ27 => if ib v17 448 = true then wlet (si σ27 27 (Int32.toNatClampNeg v17) v26) fun σ29 => wlet (x5_38_8 + (1 : Int32)) fun v30 => some (.inl (σ29, v30)) else none else none else none else none else none) else none : Option ((St × Int32) ⊕ (St)))) fun k59_11 => if x2_2_1 = 0 then (k59_11 (-1 : Int32)) else (if ib x5_38_8 7 = true then k59_11 (σ38_8.1 28 (Int32.toNatClampNeg x5_38_8)) else none))) : St × Int32 → Option ((St × Int32) ⊕ (St))) fun st38_8 => Option.bind (lp st38_8 fuel (σ26_5, (0 : Int32))) ((fun (σe38_8 : St) => wlet (x4_26_5 + (1 : Int32)) fun v9 => some (.inl (σe38_8, v9))))))
def zLp (o1 : Nat) : St × Int32 → Option ((St × Int32) ⊕ (St)) :=
  un2 (fun (σ2_1 : St) (x2_2_1 : Int32) => if (σ2_1.1 25 5) ≤ x2_2_1 then (some (.inr σ2_1)) else (if x2_2_1 = 0 then (wlet (un2 (fun (σ26_33 : St) (x4_26_33 : Int32) => if (σ26_33.1 25 5) ≤ x4_26_33 then (some (.inr σ26_33)) else (wlet (un2 (fun (σ38_36 : St) (x5_38_36 : Int32) => if (1 : Int32) ≤ x5_38_36 then (some (.inr σ38_36)) else (wlet (fun (s0_59_39 : Int32) => (if ib x4_26_33 7 = true then if s0_59_39 = (σ38_36.1 28 (Int32.toNatClampNeg x4_26_33)) then (wlet (x5_38_36 + (1 : Int32)) fun v42 => some (.inl (σ38_36, v42))) else (if ib x4_26_33 7 = true then Option.bind (f_X2_spot x2_2_1 (σ38_36.1 28 (Int32.toNatClampNeg x4_26_33)) s0_59_39) fun v45 => if ib x4_26_33 7 = true then bnd2 (f_X1_suffering σ38_36 o1 (σ38_36.1 28 (Int32.toNatClampNeg x4_26_33)) x2_2_1 s0_59_39) fun v48 σ49 => if ib v45 448 = true then wlet (si σ49 26 (Int32.toNatClampNeg v45) v48) fun σ51 => if ib x4_26_33 7 = true then bnd2 (f_X1_due σ51 o1 (σ51.1 28 (Int32.toNatClampNeg x4_26_33)) x2_2_1 s0_59_39) fun v54 σ55 => if ib v45 448 = true then wlet (si σ55 27 (Int32.toNatClampNeg v45) v54) fun σ57 => wlet (x5_38_36 + (1 : Int32)) fun v58 => some (.inl (σ57, v58)) else none else none else none else none else none) else none : Option ((St × Int32) ⊕ (St)))) fun k59_39 => if x2_2_1 = 0 then (k59_39 (-1 : Int32)) else (if ib x5_38_36 7 = true then k59_39 (σ38_36.1 28 (Int32.toNatClampNeg x5_38_36)) else none))) : St × Int32 → Option ((St × Int32) ⊕ (St))) fun st38_36 => Option.bind (lp st38_36 fuel (σ26_33, (0 : Int32))) ((fun (σe38_36 : St) => wlet (x4_26_33 + (1 : Int32)) fun v37 => some (.inl (σe38_36, v37)))))) : St × Int32 → Option ((St × Int32) ⊕ (St))) fun st26_33 => Option.bind (lp st26_33 fuel (σ2_1, (0 : Int32))) ((fun (σe26_33 : St) => wlet (x2_2_1 + (1 : Int32)) fun v34 => some (.inl (σe26_33, v34))))) else (wlet (σ2_1.1 25 5) fun v4 => wlet (un2 (fun (σ26_5 : St) (x4_26_5 : Int32) => if (σ26_5.1 25 5) ≤ x4_26_5 then (some (.inr σ26_5)) else (wlet (un2 (fun (σ38_8 : St) (x5_38_8 : Int32) => if v4 ≤ x5_38_8 then (some (.inr σ38_8)) else (wlet (fun (s0_59_11 : Int32) => (if ib x4_26_5 7 = true then if s0_59_11 = (σ38_8.1 28 (Int32.toNatClampNeg x4_26_5)) then (wlet (x5_38_8 + (1 : Int32)) fun v14 => some (.inl (σ38_8, v14))) else (if ib x4_26_5 7 = true then Option.bind (f_X2_spot x2_2_1 (σ38_8.1 28 (Int32.toNatClampNeg x4_26_5)) s0_59_11) fun v17 => if ib x4_26_5 7 = true then bnd2 (f_X1_suffering σ38_8 o1 (σ38_8.1 28 (Int32.toNatClampNeg x4_26_5)) x2_2_1 s0_59_11) fun v20 σ21 => if ib v17 448 = true then wlet (si σ21 26 (Int32.toNatClampNeg v17) v20) fun σ23 => if ib x4_26_5 7 = true then bnd2 (f_X1_due σ23 o1 (σ23.1 28 (Int32.toNatClampNeg x4_26_5)) x2_2_1 s0_59_11) fun v26 σ27 => if ib v17 448 = true then wlet (si σ27 27 (Int32.toNatClampNeg v17) v26) fun σ29 => wlet (x5_38_8 + (1 : Int32)) fun v30 => some (.inl (σ29, v30)) else none else none else none else none else none) else none : Option ((St × Int32) ⊕ (St)))) fun k59_11 => if x2_2_1 = 0 then (k59_11 (-1 : Int32)) else (if ib x5_38_8 7 = true then k59_11 (σ38_8.1 28 (Int32.toNatClampNeg x5_38_8)) else none))) : St × Int32 → Option ((St × Int32) ⊕ (St))) fun st38_8 => Option.bind (lp st38_8 fuel (σ26_5, (0 : Int32))) ((fun (σe38_8 : St) => wlet (x4_26_5 + (1 : Int32)) fun v9 => some (.inl (σe38_8, v9)))))) : St × Int32 → Option ((St × Int32) ⊕ (St))) fun st26_5 => Option.bind (lp st26_5 fuel (σ2_1, (0 : Int32))) ((fun (σe26_5 : St) => wlet (x2_2_1 + (1 : Int32)) fun v6 => some (.inl (σe26_5, v6)))))))
theorem C_tab1 {s : St} {m p i j b : Nat} {T : Tx} {V R : Nat → Int32} (hT : TxC s 4 T) (hOK : TxOK T) (hR : RS s 38 m V) (hV : WV (tn T) m V) (hW : WV (tn T) m R) (h28 : ∀ i, i < m → s.1 28 i = R i) (hp : p < m) (hi : i < m) (hj : j < b) (hb : b = if p = 0 then 1 else m) (hB : zTb T V m R s p i j) :
    ∃ s', zFt s s' ∧ zLj 38 (nI p) (nI i) (nI b) (s, nI j) = some (.inl (s', nI (j + 1))) ∧ zTb T V m R s' p i (j + 1) := by
  have h7 := zWV7 hW
  have hn := hOK.1
  have hbm : b ≤ m := by rw [hb]; split <;> omega
  have hj0 : p = 0 → j = 0 := fun z => by rw [if_pos z] at hb; omega
  have hjm : j < m := by omega
  obtain ⟨e1, e2⟩ := cN_eq hW hi
  obtain ⟨d1, d2⟩ := cN_eq hW hjm
  have n1 : ¬ nI b ≤ nI j := fun z => by have := (nI_leN (by omega) (by omega)).mp z; omega
  have bi : ib (nI i) 7 = true := ib_t (by omega) (by omega)
  have gi : (nI i).toNatClampNeg = i := nI_clamp (by omega)
  by_cases hsk : p ≠ 0 ∧ i = j
  · obtain ⟨h0, hij⟩ := hsk
    refine ⟨s, zFt_refl _, ?_, fun p' i' j' q1 q2 q3 q4 q5 q6 => hB p' i' j' q1 q2 q3 q4 q5 ?_⟩
    · have ha : ahN p (cN R j) = R i := by unfold ahN; rw [if_neg h0, ← d1, hij]
      unfold zLj
      dsimp only [un2]
      have hr : s.1 28 j = R i := by rw [h28 j hjm, hij]
      rw [if_neg n1, wlet_eq, if_neg (nI_ne0 (by omega) (by omega)), if_ib (ib_t (show j < 7 by omega) (by omega)), nI_clamp (show j < 2 ^ 31 by omega), hr]
      dsimp only
      rw [if_ib bi, gi, h28 i hi, if_pos rfl, wlet_eq, nI_succ]
    · omega
  · have ha : ¬ ahN p (cN R j) = R i := by
      unfold ahN
      by_cases h0 : p = 0
      · rw [if_pos h0, e1]
        exact fun z => nI_ne_m1 (k := cN R i) (by omega) z.symm
      · rw [if_neg h0, ← d1]
        exact fun z => hsk ⟨h0, (hW.2.2.2.2 j i hjm hi z).symm⟩
    have hidx := zax_lt (p := p) (a := cN R j) (by omega)
    have hib : ib (nI (64 * p + 8 * cN R i + zax p (cN R j))) 448 = true := ib_t (by omega) (by omega)
    have hig : (nI (64 * p + 8 * cN R i + zax p (cN R j))).toNatClampNeg = 64 * p + 8 * cN R i + zax p (cN R j) := nI_clamp (by omega)
    have ha' : p = 0 ∨ cN R j < tn T := Or.inr d2
    obtain ⟨s1, a1, a2⟩ := C_suffering (j := p) (c := cN R i) (a := cN R j) hT hOK hR hV.2.2.1 (by omega) h7 hp e2 ha'
    rw [← e1] at a2
    have f2 : zFt s (si s1 26 (64 * p + 8 * cN R i + zax p (cN R j)) (suf T V m p (cN R i) (cN R j))) := zFt_trans (zFt_fr a1) (zFt_si _ _ _ (by omega))
    obtain ⟨s3, c1, c2⟩ := C_due (j := p) (c := cN R i) (a := cN R j) (zFt_Tx f2 hT) hOK (zFt_RS f2 hR) hV.2.2.1 (by omega) e2
    rw [← e1] at c2
    have e26 : ∀ k, (si s3 27 (64 * p + 8 * cN R i + zax p (cN R j)) (duV T V p (cN R i) (cN R j))).1 26 k = if k = 64 * p + 8 * cN R i + zax p (cN R j) then suf T V m p (cN R i) (cN R j) else s.1 26 k := fun k => by
      rw [si_get, if_neg (by omega), c1.1 26 (by omega), si_get, a1.1 26 (by omega)]
      by_cases q : k = 64 * p + 8 * cN R i + zax p (cN R j)
      · rw [if_pos q, if_pos ⟨rfl, q⟩]
      · rw [if_neg q, if_neg (fun z => q z.2)]
    have e27 : ∀ k, (si s3 27 (64 * p + 8 * cN R i + zax p (cN R j)) (duV T V p (cN R i) (cN R j))).1 27 k = if k = 64 * p + 8 * cN R i + zax p (cN R j) then duV T V p (cN R i) (cN R j) else s.1 27 k := fun k => by
      rw [si_get, c1.1 27 (by omega), si_ne (by omega), a1.1 27 (by omega)]
      by_cases q : k = 64 * p + 8 * cN R i + zax p (cN R j)
      · rw [if_pos q, if_pos ⟨rfl, q⟩]
      · rw [if_neg q, if_neg (fun z => q z.2)]
    refine ⟨si s3 27 (64 * p + 8 * cN R i + zax p (cN R j)) (duV T V p (cN R i) (cN R j)), zFt_trans f2 (zFt_trans (zFt_fr c1) (zFt_si _ _ _ (by omega))), ?_, fun p' i' j' q1 q2 q3 q4 q5 q6 => ?_⟩
    · have hsp : f_X2_spot (nI p) (R i) (ahN p (cN R j)) = some (nI (64 * p + 8 * cN R i + zax p (cN R j))) := by
        rw [e1]; exact zspot' (by omega) (by omega) (by omega)
      have h28' : (si s1 26 (64 * p + 8 * cN R i + zax p (cN R j)) (suf T V m p (cN R i) (cN R j))).1 28 i = R i := by
        rw [si_ne (by omega), a1.1 28 (by omega)]; exact h28 i hi
      unfold zLj
      dsimp only [un2]
      rw [if_neg n1, wlet_eq]
      by_cases h0 : p = 0
      · have hA : ahN p (cN R j) = -1 := by unfold ahN; rw [if_pos h0]
        rw [hA] at ha hsp a2 c2
        rw [if_pos (show nI p = 0 by rw [h0]; rfl)]
        dsimp only
        rw [if_ib bi, gi, h28 i hi, if_neg ha, if_ib bi, bind_eq hsp, if_ib bi, bnd2_eq a2, if_ib hib, wlet_eq, hig, if_ib bi, h28', bnd2_eq c2, if_ib hib, wlet_eq, wlet_eq, nI_succ]
      · have hA : ahN p (cN R j) = R j := by unfold ahN; rw [if_neg h0, ← d1]
        rw [hA] at ha hsp a2 c2
        rw [if_neg (nI_ne0 (by omega) (by omega)), if_ib (ib_t (show j < 7 by omega) (by omega)), nI_clamp (show j < 2 ^ 31 by omega), h28 j hjm]
        dsimp only
        rw [if_ib bi, gi, h28 i hi, if_neg ha, if_ib bi, bind_eq hsp, if_ib bi, bnd2_eq a2, if_ib hib, wlet_eq, hig, if_ib bi, h28', bnd2_eq c2, if_ib hib, wlet_eq, wlet_eq, nI_succ]
    · have hx' := zax_lt (p := p') (a := cN R j') (by have := (cN_eq hW q3).2; omega)
      have hd := (cN_eq hW q2).2
      unfold zEn
      rw [e26, e27]
      by_cases e : 64 * p' + 8 * cN R i' + zax p' (cN R j') = 64 * p + 8 * cN R i + zax p (cN R j)
      · have ep : p' = p := by omega
        subst ep
        have ei : i' = i := zcN_inj hW q2 hi (by omega)
        subst ei
        have ej : j' = j := by
          by_cases h0 : p' = 0
          · rw [q4 h0, hj0 h0]
          · have : zax p' (cN R j') = zax p' (cN R j) := by omega
            unfold zax at this
            rw [if_neg h0, if_neg h0] at this
            exact zcN_inj hW q3 hjm (by omega)
        subst ej
        rw [if_pos rfl, if_pos rfl]
        exact ⟨rfl, rfl⟩
      · rw [if_neg e, if_neg e]
        refine hB p' i' j' q1 q2 q3 q4 q5 ?_
        rcases q6 with z | ⟨z1, z2 | ⟨z2, z3⟩⟩
        · exact Or.inl z
        · exact Or.inr ⟨z1, Or.inl z2⟩
        · refine Or.inr ⟨z1, Or.inr ⟨z2, ?_⟩⟩
          rcases Nat.lt_or_ge j' j with w | w
          · exact w
          · have : j' = j := by omega
            subst this; subst z1; subst z2
            exact absurd rfl e
theorem C_tab2 {s : St} {m p i b : Nat} {T : Tx} {V R : Nat → Int32} (hT : TxC s 4 T) (hOK : TxOK T) (hR : RS s 38 m V) (hV : WV (tn T) m V) (hW : WV (tn T) m R) (h28 : ∀ i, i < m → s.1 28 i = R i) (hp : p < m) (hi : i < m) (hb : b = if p = 0 then 1 else m) (hB : zTb T V m R s p i 0) :
    ∃ s', lp (zLj 38 (nI p) (nI i) (nI b)) fuel (s, 0) = some s' ∧ zFt s s' ∧ zTb T V m R s' p (i + 1) 0 := by
  have h7 := zWV7 hW
  have hbm : b ≤ m := by rw [hb]; split <;> omega
  obtain ⟨s', q1, f1, r1⟩ := zinv (st := zLj 38 (nI p) (nI i) (nI b)) (s0 := (s, 0)) (fun t x => zFt s x.1 ∧ x.2 = nI t ∧ zTb T V m R x.1 p i t) (fun r => zFt s r ∧ zTb T V m R r p i b) b (by omega) ⟨zFt_refl _, rfl, hB⟩ (by
    rintro t ⟨x, q⟩ ht ⟨h1, h2, h3⟩
    have h2 : q = nI t := h2
    subst h2
    have h1 : zFt s x := h1
    have h3 : zTb T V m R x p i t := h3
    obtain ⟨x', g1, g2, g3⟩ := C_tab1 (zFt_Tx h1 hT) hOK (zFt_RS h1 hR) hV hW (fun k hk => by rw [h1.1 28 (by omega) (by omega) (by omega) (by omega)]; exact h28 k hk) hp hi ht hb h3
    exact Or.inl ⟨(x', nI (t + 1)), g2, zFt_trans h1 g1, rfl, g3⟩) (by
    rintro ⟨x, q⟩ ⟨h1, h2, h3⟩
    have h2 : q = nI b := h2
    subst h2
    refine ⟨x, ?_, h1, h3⟩
    unfold zLj
    dsimp only [un2]
    rw [if_pos ((nI_leN (by omega) (by omega)).mpr (Nat.le_refl _))])
  refine ⟨s', q1, f1, fun p' i' j' w1 w2 w3 w4 w5 w6 => r1 p' i' j' w1 w2 w3 w4 w5 ?_⟩
  rcases w6 with z | ⟨z1, z2 | ⟨z2, z3⟩⟩
  · exact Or.inl z
  · refine Or.inr ⟨z1, ?_⟩
    rcases Nat.lt_or_ge i' i with w | w
    · exact Or.inl w
    · refine Or.inr ⟨by omega, ?_⟩
      rw [hb]
      by_cases h0 : p = 0
      · rw [if_pos h0, w4 (by omega)]; omega
      · rw [if_neg h0]; exact w3
  · omega
theorem C_tab3 {s : St} {m p b : Nat} {T : Tx} {V R : Nat → Int32} (hT : TxC s 4 T) (hOK : TxOK T) (hR : RS s 38 m V) (hV : WV (tn T) m V) (hW : WV (tn T) m R) (h5 : s.1 25 5 = nI m) (h28 : ∀ i, i < m → s.1 28 i = R i) (hp : p < m) (hb : b = if p = 0 then 1 else m) (hB : zTb T V m R s p 0 0) :
    ∃ s', lp (zLi 38 (nI p) (nI b)) fuel (s, 0) = some s' ∧ zFt s s' ∧ zTb T V m R s' (p + 1) 0 0 := by
  have h7 := zWV7 hW
  obtain ⟨s', q1, f1, r1⟩ := zinv (st := zLi 38 (nI p) (nI b)) (s0 := (s, 0)) (fun t x => zFt s x.1 ∧ x.2 = nI t ∧ zTb T V m R x.1 p t 0) (fun r => zFt s r ∧ zTb T V m R r p m 0) m (by omega) ⟨zFt_refl _, rfl, hB⟩ (by
    rintro t ⟨x, q⟩ ht ⟨h1, h2, h3⟩
    have h2 : q = nI t := h2
    subst h2
    have h1 : zFt s x := h1
    have h3 : zTb T V m R x p t 0 := h3
    obtain ⟨x', g1, g2, g3⟩ := C_tab2 (zFt_Tx h1 hT) hOK (zFt_RS h1 hR) hV hW (fun k hk => by rw [h1.1 28 (by omega) (by omega) (by omega) (by omega)]; exact h28 k hk) hp ht hb h3
    have n1 : ¬ nI m ≤ nI t := fun z => by have := (nI_leN (by omega) (by omega)).mp z; omega
    refine Or.inl ⟨(x', nI (t + 1)), ?_, zFt_trans h1 g2, rfl, g3⟩
    unfold zLi
    dsimp only [un2]
    rw [h1.1 25 (by omega) (by omega) (by omega) (by omega), h5, if_neg n1, wlet_eq]
    refine (bind_eq g1).trans ?_
    rw [wlet_eq, nI_succ]) (by
    rintro ⟨x, q⟩ ⟨h1, h2, h3⟩
    have h1 : zFt s x := h1
    have h2 : q = nI m := h2
    subst h2
    refine ⟨x, ?_, h1, h3⟩
    unfold zLi
    dsimp only [un2]
    rw [h1.1 25 (by omega) (by omega) (by omega) (by omega), h5, if_pos ((nI_leN (by omega) (by omega)).mpr (Nat.le_refl _))])
  refine ⟨s', q1, f1, fun p' i' j' w1 w2 w3 w4 w5 w6 => r1 p' i' j' w1 w2 w3 w4 w5 ?_⟩
  omega
theorem C_layTables {s : St} {m : Nat} {T : Tx} {V R : Nat → Int32} (hT : TxC s 4 T) (hOK : TxOK T) (hR : RS s 38 m V) (hV : WV (tn T) m V) (hW : WV (tn T) m R) (h5 : s.1 25 5 = nI m) (h28 : ∀ i, i < m → s.1 28 i = R i) :
    ∃ s', f_X2_layTables s 38 = some s' ∧ zFt s s' ∧ zTb T V m R s' m 0 0 := by
  have h7 := zWV7 hW
  obtain ⟨s', q1, f1, r1⟩ := zinv (st := zLp 38) (s0 := (s, 0)) (fun t x => zFt s x.1 ∧ x.2 = nI t ∧ zTb T V m R x.1 t 0 0) (fun r => zFt s r ∧ zTb T V m R r m 0 0) m (by omega) ⟨zFt_refl _, rfl, fun p' i' j' w1 w2 w3 w4 w5 w6 => by omega⟩ (by
    rintro t ⟨x, q⟩ ht ⟨h1, h2, h3⟩
    have h2 : q = nI t := h2
    subst h2
    have h1 : zFt s x := h1
    have h3 : zTb T V m R x t 0 0 := h3
    have h5x : x.1 25 5 = nI m := by rw [h1.1 25 (by omega) (by omega) (by omega) (by omega)]; exact h5
    obtain ⟨x', g1, g2, g3⟩ := C_tab3 (b := if t = 0 then 1 else m) (zFt_Tx h1 hT) hOK (zFt_RS h1 hR) hV hW h5x (fun k hk => by rw [h1.1 28 (by omega) (by omega) (by omega) (by omega)]; exact h28 k hk) ht rfl h3
    have n1 : ¬ nI m ≤ nI t := fun z => by have := (nI_leN (by omega) (by omega)).mp z; omega
    refine Or.inl ⟨(x', nI (t + 1)), ?_, zFt_trans h1 g2, rfl, g3⟩
    unfold zLp
    dsimp only [un2]
    rw [h5x, if_neg n1]
    by_cases h0 : t = 0
    · rw [if_pos h0] at g1
      rw [if_pos (show nI t = 0 by rw [h0]; rfl), wlet_eq]
      refine (bind_eq g1).trans ?_
      rw [wlet_eq, nI_succ]
    · rw [if_neg h0] at g1
      rw [if_neg (nI_ne0 (by omega) (by omega)), wlet_eq, wlet_eq]
      refine (bind_eq g1).trans ?_
      rw [wlet_eq, nI_succ]) (by
    rintro ⟨x, q⟩ ⟨h1, h2, h3⟩
    have h1 : zFt s x := h1
    have h2 : q = nI m := h2
    subst h2
    refine ⟨x, ?_, h1, h3⟩
    unfold zLp
    dsimp only [un2]
    rw [h1.1 25 (by omega) (by omega) (by omega) (by omega), h5, if_pos ((nI_leN (by omega) (by omega)).mpr (Nat.le_refl _))])
  refine ⟨s', ?_, f1, r1⟩
  unfold f_X2_layTables
  rw [wlet_eq]
  exact bind_eq q1
/-- on the list V -/
def zLs (V : Nat → Int32) (m d : Nat) : Prop := ∃ i, i < m ∧ V i = nI d
def zTC (T : Tx) (V : Nat → Int32) (m : Nat) (s : St) : Prop := ∀ p d a, p < m → zLs V m d → zLs V m a → d < 7 → a < 7 → (p = 0 ∨ d ≠ a) → zEn T V m s p d a
/-- the class stands at the order W of the list V -/
def zO (T : Tx) (V : Nat → Int32) (m : Nat) (s : St) (W : Nat → Int32) : Prop := s.1 25 5 = nI m ∧ (∀ i, i < m → s.1 28 i = W i) ∧ WV (tn T) m W ∧ (∀ i, 7 ≤ i → W i = V i) ∧ (∀ i, i < m → ∃ j, j < m ∧ W i = V j) ∧ zTC T V m s
theorem zTb_TC {s : St} {m : Nat} {T : Tx} {V R : Nat → Int32} (hn : tn T ≤ 7) (hW : WV (tn T) m R) (hs : ∀ j, j < m → ∃ i, i < m ∧ V j = R i) (h : zTb T V m R s m 0 0) : zTC T V m s := by
  intro p d a hp ⟨i, i1, i2⟩ ⟨j, j1, j2⟩ hd ha hda
  obtain ⟨i', k1, k2⟩ := hs i i1
  obtain ⟨j', l1, l2⟩ := hs j j1
  have e1 : cN R i' = d := by unfold cN; rw [← k2, i2, nI_clamp (by omega)]
  have e2 : cN R j' = a := by unfold cN; rw [← l2, j2, nI_clamp (by omega)]
  by_cases h0 : p = 0
  · subst h0
    have := h 0 i' 0 hp k1 (by omega) (fun _ => rfl) (Or.inl rfl) (Or.inl hp)
    unfold zEn at this ⊢
    rw [e1] at this
    rw [zsuf0 T V m d a (cN R 0), zdu0 T V d a (cN R 0)]
    exact this
  · have hne : i' ≠ j' := fun z => by
      rw [z, e2] at e1
      rcases hda with q | q
      · exact h0 q
      · exact q e1.symm
    have := h p i' j' hp k1 l1 (fun z => absurd z h0) (Or.inr hne) (Or.inl hp)
    rw [e1, e2] at this
    exact this
theorem zO_at {T : Tx} {V W : Nat → Int32} {m p : Nat} {s : St} (hn : tn T ≤ 7) (h : zO T V m s W) (hp : p < m) : zEn T V m s p (cN W p) (cN W (p - 1)) := by
  obtain ⟨o1, o2, o3, o4, o5, o6⟩ := h
  obtain ⟨e1, e2⟩ := cN_eq o3 hp
  obtain ⟨d1, d2⟩ := cN_eq o3 (show p - 1 < m by omega)
  refine o6 p _ _ hp ?_ ?_ (by omega) (by omega) ?_
  · obtain ⟨j, j1, j2⟩ := o5 p hp
    exact ⟨j, j1, by rw [← j2]; exact e1⟩
  · obtain ⟨j, j1, j2⟩ := o5 (p - 1) (by omega)
    exact ⟨j, j1, by rw [← j2]; exact d1⟩
  · by_cases h0 : p = 0
    · exact Or.inl h0
    · exact Or.inr (fun z => by have := zcN_inj o3 hp (show p - 1 < m by omega) z; omega)
theorem C_spotAt {T : Tx} {V W : Nat → Int32} {m p : Nat} {s : St} (hn : tn T ≤ 7) (h : zO T V m s W) (hp : p < m) : f_X2_spotAt s (nI p) = some (nI (64 * p + 8 * cN W p + zax p (cN W (p - 1)))) := by
  obtain ⟨o1, o2, o3, o4, o5, o6⟩ := h
  have h7 := zWV7 o3
  obtain ⟨e1, e2⟩ := cN_eq o3 hp
  obtain ⟨d1, d2⟩ := cN_eq o3 (show p - 1 < m by omega)
  have hsp : f_X2_spot (nI p) (W p) (ahN p (cN W (p - 1))) = some (nI (64 * p + 8 * cN W p + zax p (cN W (p - 1)))) := by
    rw [e1]; exact zspot' (by omega) (by omega) (by omega)
  unfold ahN at hsp
  unfold f_X2_spotAt
  rw [if_ib (ib_t (show p < 7 by omega) (by omega)), nI_clamp (show p < 2 ^ 31 by omega), o2 p hp, wlet_eq]
  by_cases h0 : p = 0
  · rw [if_pos h0] at hsp
    rw [if_pos (show nI p ≤ 0 by rw [h0]; decide)]
    dsimp only
    rw [bind_eq hsp]
  · rw [if_neg h0] at hsp
    have n1 : ¬ nI p ≤ 0 := fun z => by have := (nI_leN (b := 0) (by omega) (by omega)).mp z; omega
    rw [if_neg n1, nI_sub1 (by omega), if_ib (ib_t (show p - 1 < 7 by omega) (by omega)), nI_clamp (show p - 1 < 2 ^ 31 by omega), o2 (p - 1) (by omega), d1]
    dsimp only
    rw [bind_eq hsp]
theorem C_oSuf {T : Tx} {V W : Nat → Int32} {m p : Nat} {s : St} (hn : tn T ≤ 7) (h : zO T V m s W) (hp : p < m) : f_X2_sufferingAt s (nI p) = some (sufAt T W m p) := by
  have hsp := C_spotAt hn h hp
  have he := (zO_at hn h hp).1
  obtain ⟨o1, o2, o3, o4, o5, o6⟩ := h
  have h7 := zWV7 o3
  have d2 := (cN_eq o3 (show p - 1 < m by omega)).2
  have e2 := (cN_eq o3 hp).2
  have hx := zax_lt (p := p) (a := cN W (p - 1)) (by omega)
  have n1 : ¬ nI m ≤ nI p := fun z => by have := (nI_leN (by omega) (by omega)).mp z; omega
  unfold f_X2_sufferingAt
  rw [if_neg (nI_pos (by omega)), o1, if_neg n1, bind_eq hsp, if_ib (ib_t (show 64 * p + 8 * cN W p + zax p (cN W (p - 1)) < 448 by omega) (by omega)), nI_clamp (show 64 * p + 8 * cN W p + zax p (cN W (p - 1)) < 2 ^ 31 by omega), he, ← zsufc o4]
  rfl
theorem C_oDue {T : Tx} {V W : Nat → Int32} {m p : Nat} {s : St} (hn : tn T ≤ 7) (h : zO T V m s W) (hp : p < m) : f_X2_dueAt s (nI p) = some (duAt T W p) := by
  have hsp := C_spotAt hn h hp
  have he := (zO_at hn h hp).2
  obtain ⟨o1, o2, o3, o4, o5, o6⟩ := h
  have h7 := zWV7 o3
  have d2 := (cN_eq o3 (show p - 1 < m by omega)).2
  have e2 := (cN_eq o3 hp).2
  have hx := zax_lt (p := p) (a := cN W (p - 1)) (by omega)
  have n1 : ¬ nI m ≤ nI p := fun z => by have := (nI_leN (by omega) (by omega)).mp z; omega
  unfold f_X2_dueAt
  rw [if_neg (nI_pos (by omega)), o1, if_neg n1, bind_eq hsp, if_ib (ib_t (show 64 * p + 8 * cN W p + zax p (cN W (p - 1)) < 448 by omega) (by omega)), nI_clamp (show 64 * p + 8 * cN W p + zax p (cN W (p - 1)) < 2 ^ 31 by omega), he, ← zduc o4]
  rfl
