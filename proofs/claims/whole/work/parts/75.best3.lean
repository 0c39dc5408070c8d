/-! STAGE B, 26: shunned, lighter, furthest -/
def zab (on : Nat → Bool) (v : Nat → Int32) (bt : Int32 → Int32 → Bool) : Nat → Option (Nat × Int32)
  | 0 => none
  | t + 1 => match zab on v bt t with
    | none => if on t = true then some (t, v t) else none
    | some p => if (on t && bt (v t) p.2) = true then some (t, v t) else some p
def zW : Option (Nat × Int32) → Int32
  | none => -2
  | some p => nI p.1
def zM : Option (Nat × Int32) → Int32
  | none => -2
  | some p => p.2
theorem zab_lt {on : Nat → Bool} {v : Nat → Int32} {bt : Int32 → Int32 → Bool} : ∀ {t : Nat} {p : Nat × Int32}, zab on v bt t = some p → p.1 < t := by
  intro t
  induction t with
  | zero => intro p h; cases h
  | succ t ih =>
    intro p h
    rw [zab] at h
    cases hq : zab on v bt t with
    | none =>
      rw [hq] at h
      dsimp only at h
      by_cases e : on t = true
      · rw [if_pos e] at h; cases h; exact Nat.lt_succ_self _
      · rw [if_neg e] at h; cases h
    | some q =>
      rw [hq] at h
      dsimp only at h
      by_cases e : (on t && bt (v t) q.2) = true
      · rw [if_pos e] at h; cases h; exact Nat.lt_succ_self _
      · rw [if_neg e] at h; cases h; exact Nat.lt_succ_of_lt (ih hq)
theorem zab_off {on : Nat → Bool} {v : Nat → Int32} {bt : Int32 → Int32 → Bool} {t : Nat} (h : on t = false) : zab on v bt (t + 1) = zab on v bt t := by
  rw [zab]
  cases hq : zab on v bt t with
  | none => dsimp only; rw [if_neg (by rw [h]; decide)]
  | some q => dsimp only; rw [if_neg (by rw [h]; simp)]
theorem zab_ext {on : Nat → Bool} {v : Nat → Int32} {bt : Int32 → Int32 → Bool} {n : Nat} : ∀ k, (∀ t, n ≤ t → t < n + k → on t = false) → zab on v bt (n + k) = zab on v bt n := by
  intro k
  induction k with
  | zero => intro _; rfl
  | succ k ih => intro h; rw [← Nat.add_assoc, zab_off (h _ (by omega) (by omega)), ih (fun t a b => h t a (by omega))]
theorem zab_first {on : Nat → Bool} {v : Nat → Int32} {bt : Int32 → Int32 → Bool} {t : Nat} (h : on t = true) (hq : zab on v bt t = none) : zab on v bt (t + 1) = some (t, v t) := by
  rw [zab, hq]; dsimp only; rw [if_pos h]
theorem zab_new {on : Nat → Bool} {v : Nat → Int32} {bt : Int32 → Int32 → Bool} {t : Nat} {q : Nat × Int32} (h : on t = true) (hq : zab on v bt t = some q) (hb : bt (v t) q.2 = true) : zab on v bt (t + 1) = some (t, v t) := by
  rw [zab, hq]; dsimp only; rw [if_pos (by rw [h, hb]; rfl)]
theorem zab_old {on : Nat → Bool} {v : Nat → Int32} {bt : Int32 → Int32 → Bool} {t : Nat} {q : Nat × Int32} (hq : zab on v bt t = some q) (hb : bt (v t) q.2 = false) : zab on v bt (t + 1) = some q := by
  rw [zab, hq]; dsimp only; rw [if_neg (by rw [hb]; simp)]
/-- who and how much stand in the class's outlook -/
def zRb (σ : St) (x : Option (Nat × Int32)) : Prop := σ.1 30 3 = zW x ∧ ∀ p, x = some p → σ.1 30 4 = p.2
theorem nI_ne_m2 {k : Nat} (h : k < 2 ^ 31) : ¬ nI k = -2 := fun z => by
  have := congrArg Int32.toInt z
  rw [nI_toInt h, show (-2 : Int32).toInt = -2 by decide] at this
  omega
theorem C_answer {σ : St} {x : Option (Nat × Int32)} (h : zRb σ x) (hx : ∀ p, x = some p → p.1 < 100) (y : Int32) : f_X3_answer σ y = some (if y = 0 then zW x else zM x) := by
  unfold f_X3_answer
  by_cases h0 : y = 0
  · rw [if_pos h0, if_pos h0, h.1]
  · rw [if_neg h0, if_neg h0, h.1]
    cases x with
    | none => rw [if_pos (show zW none = -2 from rfl)]; rfl
    | some p =>
      have hp := hx p rfl
      rw [if_neg (show ¬ zW (some p) = -2 from nI_ne_m2 (by omega)), h.2 p rfl]
      rfl
theorem zW_neg {x : Option (Nat × Int32)} (hx : ∀ p, x = some p → p.1 < 100) : zW x < 0 ↔ x = none := by
  cases x with
  | none => exact ⟨fun _ => rfl, fun _ => (by decide : (-2 : Int32) < 0)⟩
  | some p => exact ⟨fun h => absurd h (nI_pos (by have := hx p rfl; omega)), fun h => by cases h⟩
theorem zon {n m : Nat} {V : Nat → Int32} (hW : WV n m V) {c : Nat} (h : ¬ pO V m (nI c) = -1) (hc : c < 1000) : ∃ a, a < m ∧ V a = nI c ∧ pO V m (nI c) = nI a ∧ c < n := by
  rcases pO_cases V m (nI c) with ⟨j, j1, j2, j3, j4⟩ | ⟨j1, j2⟩
  · obtain ⟨k, k1, k2⟩ := hW.2.2.2.1 j j1
    have h7 := hW.2.1
    have : c = k := (nI_eqN (by omega) (by omega)).mp (j2.symm.trans k2)
    exact ⟨j, j1, j2, j3, by omega⟩
  · exact absurd j2 h
def zonB (V : Nat → Int32) (m c : Nat) : Bool := if pO V m (nI c) = -1 then false else true
theorem zonB_f {V : Nat → Int32} {m c : Nat} (h : pO V m (nI c) = -1) : zonB V m c = false := by unfold zonB; rw [if_pos h]
theorem zonB_t {V : Nat → Int32} {m c : Nat} (h : ¬ pO V m (nI c) = -1) : zonB V m c = true := by unfold zonB; rw [if_neg h]
theorem zonB_hi {n m c : Nat} {V : Nat → Int32} (hW : WV n m V) (h : n ≤ c) (hc : c < 1000) : zonB V m c = false := by
  by_cases q : pO V m (nI c) = -1
  · exact zonB_f q
  · obtain ⟨a, a1, a2, a3, a4⟩ := zon hW q hc
    omega
theorem zcases {τ : St} {T : Tx} (hT : TxM τ T) : ∃ w, w ≤ 1 ∧ τ.1 0 18 = nI w ∧ τ.1 9 w = nI (tn T) := by
  obtain ⟨w, w1, w2, w3, _⟩ := hT
  exact ⟨w, w1, w2, w3⟩
/-- the dooms of all others for a case's deed -/
def zdf (T : Tx) (V : Nat → Int32) (c i : Nat) : Int32 := if V i = nI c then 0 else SV T 0 99 (VV T V (cN V i) (nI i) (plB V (ahN i (cN V (i - 1)))) (nI (td T c)))
def zdr (T : Tx) (V : Nat → Int32) (m c : Nat) : Int32 := fo (· + ·) (zdf T V c) m 0 0
theorem C_dooms {σ : St} {m c : Nat} {T : Tx} {V : Nat → Int32} (hT : TxC σ 4 T) (hOK : TxOK T) (hR : RS σ 38 m V) (hW : WV (tn T) m V) (hc : c < tn T) :
    ∃ σ', fr 22 23 σ σ' ∧ f_X3_doomsBehind σ 38 (nI c) = some (zdr T V m c, σ') := by
  have h7 := zWV7 hW
  refine lp_foldB (fr 22 23 σ) (· + ·) (zdf T V c) m (by omega) σ 0 (fr_refl _ _ _) (fun s a j hP hj => ?_) (fun s a hP => ?_)
  · have Rs := RS_fr hP (by omega) hR
    have Ts := TxC_fr hP (by omega) hT
    obtain ⟨e1, e2⟩ := cN_eq hW hj
    have n2 : ¬ nI m ≤ nI j := fun z => by have := (nI_leN (by omega) (by omega)).mp z; omega
    by_cases q : V j = nI c
    · refine ⟨s, hP, ?_⟩
      dsimp only [un3]
      rw [Rs.1, if_neg n2, bind_eq (C_docketAt Rs h7 hj), if_pos q, wlet_eq, nI_succ]
      unfold zdf
      rw [if_pos q, Int32.add_zero]
    · obtain ⟨σ1, a1, a2, a3⟩ := C_seat Ts hOK Rs hW.2.2.1 (by omega) e2 (nI j) (ahN j (cN V (j - 1)))
      have T1 := TxC_fr a1 (by omega) Ts
      obtain ⟨σ2, b1, b2, b3⟩ := C_sentence (k := 0) (d := nI (td T c)) (vs := VV T V (cN V j) (nI j) (plB V (ahN j (cN V (j - 1)))) (nI (td T c))) T1 hOK (by omega) rfl (fun k hk h0 => a3 _ k hk h0)
      have b2 : f_X1_sentence σ1 0 (nI (td T c)) = _ := b2
      refine ⟨σ2, fr_trans hP (fr_trans (fr_mono a1 (by omega) (by omega)) b1), ?_⟩
      have a2' : f_X1_seat s 38 (V j) (nI j) (ahN j (cN V (j - 1))) = some σ1 := by rw [e1]; exact a2
      dsimp only [un3]
      rw [Rs.1, if_neg n2, bind_eq (C_docketAt Rs h7 hj), if_neg q, bind_eq (C_aheadOf Rs h7 hj), ahd_ahN hW hj, bind_eq a2', bind_eq (C_deedOf T1 hOK hc), bnd2_eq b2, wlet_eq, wlet_eq, nI_succ]
      unfold zdf
      rw [if_neg q]
  · have Rs := RS_fr hP (by omega) hR
    dsimp only [un3]
    rw [Rs.1, if_pos ((nI_leN (by omega) (by omega)).mpr (Nat.le_refl _))]
theorem M_dreadOf {τ : St} {m c : Nat} {T : Tx} (hT : TxM τ T) (hOK : TxOK T) (hW : WV (tn T) m (τ.1 27)) (hc : c < tn T) :
    ∃ τ', fl τ τ' ∧ f_X11_dreadOf τ (nI c) = some (zdr T (τ.1 27) m c, τ') := by
  have h7 := zWV7 hW
  refine lp_foldB (fl τ) (· + ·) (zdf T (τ.1 27) c) m (by omega) τ 0 (fl_refl _) (fun s a j hP hj => ?_) (fun s a hP => ?_)
  · obtain ⟨e1, e2⟩ := cN_eq hW hj
    have Ts := TxM_fl hP hT
    have v := fl27 hP
    have n2 : ¬ nI m ≤ nI j := fun z => by have := (nI_leN (by omega) (by omega)).mp z; omega
    have bj : ib (nI j) 26 = true := ib_t (by omega) (by omega)
    have gj : (nI j).toNatClampNeg = j := nI_clamp (by omega)
    by_cases q : τ.1 27 j = nI c
    · refine ⟨s, hP, ?_⟩
      dsimp only [un3]
      rw [if_ib b726, c7, v, hW.2.2.1, if_neg n2, if_ib bj, gj, if_pos q, wlet_eq, nI_succ]
      unfold zdf
      rw [if_pos q, Int32.add_zero]
    · have hPL := PL_on hW hj
      rw [ahd_ahN hW hj] at hPL
      obtain ⟨τ', a1, a2⟩ := M_doomOf (d := nI (td T c)) Ts hOK e2 (by rw [v]; exact hPL)
      rw [v, ← e1] at a2
      refine ⟨τ', fl_trans hP a1, ?_⟩
      dsimp only [un3]
      rw [if_ib b726, c7, v, hW.2.2.1, if_neg n2, if_ib bj, gj, if_neg q, if_ib bj, bind_eq (M_deedAt Ts hOK hc), bnd2_eq a2, wlet_eq, wlet_eq, nI_succ]
      unfold zdf
      rw [if_neg q]
  · dsimp only [un3]
    rw [if_ib b726, c7, fl27 hP, hW.2.2.1, if_pos ((nI_leN (by omega) (by omega)).mpr (Nat.le_refl _))]
def zSs1 (o1 : Nat) : St × Int32 → Option ((St × Int32) ⊕ (St)) :=
  un2 (fun (σ8_2 : St) (x2_8_2 : Int32) => if (7 : Int32) ≤ x2_8_2 then (some (.inr σ8_2)) else (Option.bind (f_X6_isListed σ8_2 o1 x2_8_2) fun v5 => if v5 = 0 then (wlet (x2_8_2 + (1 : Int32)) fun v7 => some (.inl (σ8_2, v7))) else (bnd2 (f_X3_doomsBehind σ8_2 o1 x2_8_2) fun v9 σ10 => wlet (fun (_ : Unit) => (wlet (si σ10 30 3 x2_8_2) fun σ12 => wlet (si σ12 30 4 v9) fun σ13 => wlet (x2_8_2 + (1 : Int32)) fun v14 => some (.inl (σ13, v14)) : Option ((St × Int32) ⊕ (St)))) fun k46_11 => if (σ10.1 30 3) = (-2 : Int32) then (k46_11 ()) else (if v9 ≤ (σ10.1 30 4) then (wlet (x2_8_2 + (1 : Int32)) fun v17 => some (.inl (σ10, v17))) else (k46_11 ())))))
def zMs1 : St × Int32 × Int32 × Int32 → Option ((St × Int32 × Int32 × Int32) ⊕ (St × Int32 × Int32)) :=
  un4 (fun (σ24_6 : St) (x2_24_6 : Int32) (x3_24_6 : Int32) (x4_24_6 : Int32) => if ib (σ24_6.1 0 18) 2 = true then if (σ24_6.1 9 (Int32.toNatClampNeg (σ24_6.1 0 18))) ≤ x4_24_6 then (some (.inr (σ24_6, x2_24_6, x3_24_6))) else (Option.bind (f_X11_isOn σ24_6 x4_24_6) fun v11 => if v11 = 0 then (wlet (x4_24_6 + (1 : Int32)) fun v13 => some (.inl (σ24_6, x2_24_6, x3_24_6, v13))) else (wlet (fun (σ_64_14 : St) => (bnd2 (f_X11_dreadOf σ_64_14 x4_24_6) fun v16 σ17 => wlet (x4_24_6 + (1 : Int32)) fun v18 => some (.inl (σ17, x4_24_6, v16, v18)) : Option ((St × Int32 × Int32 × Int32) ⊕ (St × Int32 × Int32)))) fun k64_14 => if x2_24_6 < 0 then (k64_14 σ24_6) else (bnd2 (f_X11_dreadOf σ24_6 x4_24_6) fun v21 σ22 => if x3_24_6 < v21 then (k64_14 σ22) else (wlet (x4_24_6 + (1 : Int32)) fun v24 => some (.inl (σ22, x2_24_6, x3_24_6, v24)))))) else none)
def zSl1 (o1 : Nat) : St × Int32 → Option ((St × Int32) ⊕ (St)) :=
  un2 (fun (σ8_2 : St) (x2_8_2 : Int32) => if (7 : Int32) ≤ x2_8_2 then (some (.inr σ8_2)) else (Option.bind (f_X6_isListed σ8_2 o1 x2_8_2) fun v5 => if v5 = 0 then (wlet (x2_8_2 + (1 : Int32)) fun v7 => some (.inl (σ8_2, v7))) else (Option.bind (f_X6_copyFrom σ8_2 42 o1) fun σ9 => Option.bind (f_X6_strike σ9 42 x2_8_2) fun σ11 => bnd2 (f_X1_allSuffering σ11 42) fun v13 σ14 => wlet (fun (_ : Unit) => (wlet (si σ14 30 3 x2_8_2) fun σ16 => wlet (si σ16 30 4 v13) fun σ17 => wlet (x2_8_2 + (1 : Int32)) fun v18 => some (.inl (σ17, v18)) : Option ((St × Int32) ⊕ (St)))) fun k67_15 => if (σ14.1 30 3) = (-2 : Int32) then (k67_15 ()) else (if (σ14.1 30 4) ≤ v13 then (wlet (x2_8_2 + (1 : Int32)) fun v21 => some (.inl (σ14, v21))) else (k67_15 ())))))
def zMl1 : St × Int32 × Int32 × Int32 → Option ((St × Int32 × Int32 × Int32) ⊕ (St × Int32 × Int32)) :=
  un4 (fun (σ20_4 : St) (x2_20_4 : Int32) (x3_20_4 : Int32) (x4_20_4 : Int32) => if ib (σ20_4.1 0 18) 2 = true then if (σ20_4.1 9 (Int32.toNatClampNeg (σ20_4.1 0 18))) ≤ x4_20_4 then (some (.inr (σ20_4, x2_20_4, x3_20_4))) else (Option.bind (f_X11_copies σ20_4) fun σ9 => Option.bind (f_X11_isOn σ9 x4_20_4) fun v11 => if v11 = 0 then (wlet (x4_20_4 + (1 : Int32)) fun v21 => some (.inl (σ9, x2_20_4, x3_20_4, v21))) else (bnd2 (f_X11_without σ9 x4_20_4) fun v14 σ15 => if x2_20_4 < 0 then (wlet (x4_20_4 + (1 : Int32)) fun v17 => some (.inl (σ15, x4_20_4, v14, v17))) else (if v14 < x3_20_4 then (wlet (x4_20_4 + (1 : Int32)) fun v19 => some (.inl (σ15, x4_20_4, v14, v19))) else (wlet (x4_20_4 + (1 : Int32)) fun v20 => some (.inl (σ15, x2_20_4, x3_20_4, v20)))))) else none)
def zSf1 (o1 : Nat) (x2 : Int32) : St × Int32 → Option ((St × Int32) ⊕ (St)) :=
  un2 (fun (σ8_2 : St) (x3_8_2 : Int32) => if (σ8_2.1 o1 3) ≤ x3_8_2 then (some (.inr σ8_2)) else (Option.bind (f_X6_copyFrom σ8_2 42 o1) fun σ5 => Option.bind (f_X6_move σ5 42 x2 x3_8_2) fun σ7 => bnd2 (f_X1_sufferingAt σ7 42 x3_8_2) fun v9 σ10 => wlet (fun (_ : Unit) => (wlet (si σ10 30 3 x3_8_2) fun σ12 => wlet (si σ12 30 4 v9) fun σ13 => wlet (x3_8_2 + (1 : Int32)) fun v14 => some (.inl (σ13, v14)) : Option ((St × Int32) ⊕ (St)))) fun k65_11 => if (σ10.1 30 3) = (-2 : Int32) then (k65_11 ()) else (if (σ10.1 30 4) ≤ v9 then (wlet (x3_8_2 + (1 : Int32)) fun v17 => some (.inl (σ10, v17))) else (k65_11 ()))))
def zMf1 (x1 : Int32) : St × Int32 × Int32 × Int32 → Option ((St × Int32 × Int32 × Int32) ⊕ (St × Int32 × Int32)) :=
  un4 (fun (σ41_12 : St) (x3_41_12 : Int32) (x4_41_12 : Int32) (x5_41_12 : Int32) => if ib (7 : Int32) 26 = true then if (σ41_12.1 26 (Int32.toNatClampNeg (7 : Int32))) ≤ x5_41_12 then (some (.inr (σ41_12, x3_41_12, x4_41_12))) else (Option.bind (f_X11_copies σ41_12) fun σ17 => Option.bind (f_X11_placeOf σ17 x1) fun v19 => Option.bind (f_X11_moves σ17 v19 x5_41_12) fun σ21 => bnd2 (f_X11_sufferAt σ21 x5_41_12) fun v23 σ24 => if x3_41_12 < 0 then (wlet (x5_41_12 + (1 : Int32)) fun v26 => some (.inl (σ24, x5_41_12, v23, v26))) else (if v23 < x4_41_12 then (wlet (x5_41_12 + (1 : Int32)) fun v28 => some (.inl (σ24, x5_41_12, v23, v28))) else (wlet (x5_41_12 + (1 : Int32)) fun v29 => some (.inl (σ24, x3_41_12, x4_41_12, v29))))) else none)
def zgt (a b : Int32) : Bool := decide (b < a)
def zlt (a b : Int32) : Bool := decide (a < b)
theorem zab7 {n m : Nat} {V : Nat → Int32} {v : Nat → Int32} {bt : Int32 → Int32 → Bool} (hW : WV n m V) : zab (zonB V m) v bt 7 = zab (zonB V m) v bt n := by
  have h7 := hW.2.1
  have := zab_ext (on := zonB V m) (v := v) (bt := bt) (n := n) (7 - n) (fun t a b => zonB_hi hW a (by omega))
  rw [show n + (7 - n) = 7 by omega] at this
  exact this
theorem zRb_set {σ : St} {x : Nat} {v : Int32} : zRb (si (si σ 30 3 (nI x)) 30 4 v) (some (x, v)) := by
  refine ⟨?_, fun p hp => ?_⟩
  · rw [si_get, if_neg (by omega), si_get, if_pos ⟨rfl, rfl⟩]; rfl
  · cases hp
    rw [si_get, if_pos ⟨rfl, rfl⟩]
theorem zRb_fr {σ σ' : St} {x : Option (Nat × Int32)} (h : σ'.1 30 = σ.1 30) (hR : zRb σ x) : zRb σ' x := by
  unfold zRb at hR ⊢
  rw [h]; exact hR
theorem zK30 {σ σ' : St} (i : Nat) (v : Int32) (h : zK σ σ') : zK σ (si σ' 30 i v) := zK_trans h (zK_fr (fr_si _ _ _ _ (by omega)))
theorem C_shunned {σ : St} {m : Nat} {T : Tx} {V : Nat → Int32} (hT : TxC σ 4 T) (hOK : TxOK T) (hR : RS σ 38 m V) (hW : WV (tn T) m V) :
    ∃ σ', zK σ σ' ∧ f_X3_seekShunned σ 38 = some σ' ∧ zRb σ' (zab (zonB V m) (zdr T V m) zgt (tn T)) := by
  have h7 := zWV7 hW
  obtain ⟨s1, q1, f1, r1⟩ := zinv (st := zSs1 38) (s0 := (si σ 30 3 (-2), 0)) (fun t x => zK σ x.1 ∧ x.2 = nI t ∧ zRb x.1 (zab (zonB V m) (zdr T V m) zgt t)) (fun r => zK σ r ∧ zRb r (zab (zonB V m) (zdr T V m) zgt 7)) 7 (by omega) ⟨zK30 _ _ (zK_refl _), rfl, ⟨by rw [si_get, if_pos ⟨rfl, rfl⟩]; rfl, fun p hp => by cases hp⟩⟩ (by
    rintro t ⟨x, p⟩ ht ⟨h1, h2, h3⟩
    have h2 : p = nI t := h2
    subst h2
    have h1 : zK σ x := h1
    have h3 : zRb x (zab (zonB V m) (zdr T V m) zgt t) := h3
    have n1 : ¬ (7 : Int32) ≤ nI t := fun z => by have := (nI_leN (a := 7) (by omega) (by omega)).mp z; omega
    have Rx := zRS_K h1 hR
    refine Or.inl ?_
    unfold zSs1
    dsimp only [un2]
    rw [if_neg n1, bind_eq (C_isListed h7 Rx _)]
    by_cases q : pO V m (nI t) = -1
    · refine ⟨(x, nI (t + 1)), ?_, h1, rfl, ?_⟩
      · rw [if_pos q, if_pos rfl, wlet_eq, nI_succ]
      · show zRb x _
        rw [zab_off (zonB_f q)]; exact h3
    · obtain ⟨a, a1, a2, a3, a4⟩ := zon hW q (by omega)
      obtain ⟨x1, g1, g2⟩ := C_dooms (zTx_K h1 hT) hOK Rx hW a4
      have e30 : x1.1 30 = x.1 30 := g1.1 30 (by omega)
      have k1 := zK_trans h1 (zK_frj g1)
      rw [if_neg q, if_neg n10, bnd2_eq g2, wlet_eq, e30, h3.1]
      cases hq : zab (zonB V m) (zdr T V m) zgt t with
      | none =>
        refine ⟨(si (si x1 30 3 (nI t)) 30 4 (zdr T V m t), nI (t + 1)), ?_, zK30 _ _ (zK30 _ _ k1), rfl, ?_⟩
        · rw [if_pos (show zW none = -2 from rfl), wlet_eq, wlet_eq, wlet_eq, nI_succ]
        · rw [zab_first (zonB_t q) hq]; exact zRb_set
      | some r =>
        have hr := zab_lt hq
        rw [if_neg (show ¬ zW (some r) = -2 from nI_ne_m2 (by omega)), h3.2 r hq]
        by_cases w : zdr T V m t ≤ r.2
        · refine ⟨(x1, nI (t + 1)), ?_, k1, rfl, ?_⟩
          · rw [if_pos w, wlet_eq, nI_succ]
          · show zRb x1 _
            rw [zab_old hq (by unfold zgt; simpa using w), ← hq]; exact zRb_fr e30 h3
        · refine ⟨(si (si x1 30 3 (nI t)) 30 4 (zdr T V m t), nI (t + 1)), ?_, zK30 _ _ (zK30 _ _ k1), rfl, ?_⟩
          · rw [if_neg w, wlet_eq, wlet_eq, wlet_eq, nI_succ]
          · rw [zab_new (zonB_t q) hq (by unfold zgt; simpa using w)]; exact zRb_set) (by
    rintro ⟨x, p⟩ ⟨h1, h2, h3⟩
    have h2 : p = nI 7 := h2
    subst h2
    refine ⟨x, ?_, h1, h3⟩
    unfold zSs1
    dsimp only [un2]
    rw [if_pos (by decide)])
  rw [zab7 hW] at r1
  refine ⟨s1, f1, ?_, r1⟩
  unfold f_X3_seekShunned
  rw [wlet_eq, wlet_eq]
  exact bind_eq q1
theorem M_shunned {τ : St} {m : Nat} {T : Tx} (hT : TxM τ T) (hOK : TxOK T) (hW : WV (tn T) m (τ.1 27)) :
    ∃ τ', fl τ τ' ∧ lp zMs1 fuel (τ, -2, -2, 0) = some (τ', zW (zab (zonB (τ.1 27) m) (zdr T (τ.1 27) m) zgt (tn T)), zM (zab (zonB (τ.1 27) m) (zdr T (τ.1 27) m) zgt (tn T))) := by
  have h7 := zWV7 hW
  have hn := hOK.1
  obtain ⟨⟨s1, v1, w1⟩, q1, f1, r1, r2⟩ := zinv (st := zMs1) (s0 := (τ, -2, -2, 0)) (fun t x => fl τ x.1 ∧ x.2.2.2 = nI t ∧ x.2.1 = zW (zab (zonB (τ.1 27) m) (zdr T (τ.1 27) m) zgt t) ∧ x.2.2.1 = zM (zab (zonB (τ.1 27) m) (zdr T (τ.1 27) m) zgt t)) (fun r => fl τ r.1 ∧ r.2.1 = zW (zab (zonB (τ.1 27) m) (zdr T (τ.1 27) m) zgt (tn T)) ∧ r.2.2 = zM (zab (zonB (τ.1 27) m) (zdr T (τ.1 27) m) zgt (tn T))) (tn T) (by omega) ⟨fl_refl _, rfl, rfl, rfl⟩ (by
    rintro t ⟨x, v, w, p⟩ ht ⟨h1, h2, h3, h4⟩
    have h2 : p = nI t := h2
    subst h2
    have h1 : fl τ x := h1
    have h3 : v = _ := h3
    have h4 : w = _ := h4
    have hv := fl27 h1
    have Tx := TxM_fl h1 hT
    obtain ⟨l, l1, l2, l3⟩ := zcases Tx
    have n1 : ¬ nI (tn T) ≤ nI t := fun z => by have := (nI_leN (by omega) (by omega)).mp z; omega
    refine Or.inl ?_
    unfold zMs1
    dsimp only [un4]
    rw [l2, if_ib (ib_t (show l < 2 by omega) (by omega)), nI_clamp (show l < 2 ^ 31 by omega), l3, if_neg n1, bind_eq (M_isOn h7 (by rw [hv]; exact hW.2.2.1) _), hv]
    by_cases q : pO (τ.1 27) m (nI t) = -1
    · refine ⟨(x, v, w, nI (t + 1)), ?_, h1, rfl, ?_, ?_⟩
      · rw [if_pos q, if_pos rfl, wlet_eq, nI_succ]
      · show v = _
        rw [zab_off (zonB_f q)]; exact h3
      · show w = _
        rw [zab_off (zonB_f q)]; exact h4
    · obtain ⟨x1, g1, g2⟩ := M_dreadOf Tx hOK (by rw [hv]; exact hW) ht
      have f2 := fl_trans h1 g1
      obtain ⟨x2, g3, g4⟩ := M_dreadOf (TxM_fl f2 hT) hOK (by rw [fl27 f2]; exact hW) ht
      rw [hv] at g2
      rw [fl27 f2] at g4
      rw [if_neg q, if_neg n10, wlet_eq, h3]
      cases hq : zab (zonB (τ.1 27) m) (zdr T (τ.1 27) m) zgt t with
      | none =>
        refine ⟨(x1, nI t, zdr T (τ.1 27) m t, nI (t + 1)), ?_, f2, rfl, ?_, ?_⟩
        · rw [if_pos (show zW none < 0 by decide)]
          dsimp only
          rw [bnd2_eq g2, wlet_eq, nI_succ]
        · rw [zab_first (zonB_t q) hq]; rfl
        · rw [zab_first (zonB_t q) hq]; rfl
      | some r =>
        have hr := zab_lt hq
        rw [hq] at h3 h4
        rw [if_neg (show ¬ zW (some r) < 0 from nI_pos (by omega)), bnd2_eq g2, h4]
        by_cases z : zM (some r) < zdr T (τ.1 27) m t
        · refine ⟨(x2, nI t, zdr T (τ.1 27) m t, nI (t + 1)), ?_, fl_trans f2 g3, rfl, ?_, ?_⟩
          · rw [if_pos z]
            dsimp only
            rw [bnd2_eq g4, wlet_eq, nI_succ]
          · rw [zab_new (zonB_t q) hq (by unfold zgt; exact decide_eq_true z)]; rfl
          · rw [zab_new (zonB_t q) hq (by unfold zgt; exact decide_eq_true z)]; rfl
        · have hb : zgt (zdr T (τ.1 27) m t) r.2 = false := by unfold zgt; exact decide_eq_false z
          refine ⟨(x1, zW (some r), zM (some r), nI (t + 1)), ?_, f2, rfl, ?_, ?_⟩
          · rw [if_neg z, wlet_eq, nI_succ]
          · rw [zab_old hq hb]
          · rw [zab_old hq hb]) (by
    rintro ⟨x, v, w, p⟩ ⟨h1, h2, h3, h4⟩
    have h2 : p = nI (tn T) := h2
    subst h2
    have h1 : fl τ x := h1
    obtain ⟨l, l1, l2, l3⟩ := zcases (TxM_fl h1 hT)
    refine ⟨(x, v, w), ?_, h1, h3, h4⟩
    unfold zMs1
    dsimp only [un4]
    rw [l2, if_ib (ib_t (show l < 2 by omega) (by omega)), nI_clamp (show l < 2 ^ 31 by omega), l3, if_pos ((nI_leN (by omega) (by omega)).mpr (Nat.le_refl _))])
  have r1 : v1 = _ := r1
  have r2 : w1 = _ := r2
  rw [r1, r2] at q1
  exact ⟨s1, f1, q1⟩
theorem zab_100 {on : Nat → Bool} {v : Nat → Int32} {bt : Int32 → Int32 → Bool} {t : Nat} (h : t ≤ 100) : ∀ p, zab on v bt t = some p → p.1 < 100 := fun p hp => by have := zab_lt hp; omega
theorem z01c {y : Int32} (h : f_X11_in y 0 1 = some 0 ∧ (y < 0 ∨ (1 : Int32) < y)) {X : Option (Int32 × St)} {A : Int32 × St} : (if y < 0 then some A else (if y ≤ 1 then X else some A)) = some A := by
  by_cases q : y < 0
  · rw [if_pos q]
  · have q1 : ¬ y ≤ 1 := by
      rcases h.2 with h | h
      · exact absurd h q
      · exact Int32.not_le.mpr h
    rw [if_neg q, if_neg q1]
theorem z01d {y : Int32} (h : y = 0 ∨ y = 1) {X : Option (Int32 × St)} {A : Int32 × St} : (if y < 0 then some A else (if y ≤ 1 then X else some A)) = X := by
  rcases h with rfl | rfl
  · rw [if_neg (by decide), if_pos (by decide)]
  · rw [if_neg (by decide), if_pos (by decide)]
theorem z01e {y : Int32} (h : y = 0 ∨ y = 1) : f_X11_in y 0 1 = some 1 := by
  rcases h with rfl | rfl
  · exact zin00
  · exact zin10
theorem zdo_shunned : sim_shunned Inv := by
  intro σ τ hI y
  obtain ⟨-, -, -, -, T, m, a1, a2, a3, a4, a5, -, -⟩ := id hI
  obtain ⟨τ1, b1, b2, b3, b4, b5, b6, b7⟩ := zcop a3 a5
  have R := b7 σ 38 a4
  have hn := a1.1
  unfold f_X10_shunned f_X11_shunned
  have key : (y = 0 ∨ y = 1) ∨ (f_X11_in y 0 1 = some 0 ∧ (y < 0 ∨ (1 : Int32) < y)) := by
    rcases z01 y with h | h | h
    · exact Or.inl (Or.inl h)
    · exact Or.inl (Or.inr h)
    · exact Or.inr h
  rcases key with hy | hy
  · obtain ⟨σ', c1, c2, c3⟩ := C_shunned a2 a1 R b4
    obtain ⟨τ', d1, d2⟩ := M_shunned b3 a1 b4
    rw [z01d hy, bind_eq c2, bind_eq (C_answer c3 (zab_100 (by omega)) y), bind_eq (z01e hy), if_neg n10, bind_eq b2, wlet_eq]
    refine ⟨_, _, τ', rfl, ?_, Inv_q hI c1 (zSc_trans b1 (zSc_fl d1))⟩
    refine (bind_eq d2).trans ?_
    dsimp only [un3]
    by_cases q : y = 0
    · rw [if_pos q, if_pos q]
    · rw [if_neg q, if_neg q]
  · rw [z01c hy, bind_eq hy.1, if_pos rfl]
    exact ⟨_, _, _, rfl, rfl, hI⟩
/-- what the others suffer without a case -/
def zli (T : Tx) (V : Nat → Int32) (m c : Nat) : Int32 := fo (· + ·) (sufAt T (zst V (pO V m (nI c)).toNatClampNeg m) (m - 1)) (m - 1) 0 0
theorem C_lighter {σ : St} {m : Nat} {T : Tx} {V : Nat → Int32} (hT : TxC σ 4 T) (hOK : TxOK T) (hR : RS σ 38 m V) (hW : WV (tn T) m V) :
    ∃ σ', zK σ σ' ∧ f_X3_seekLighter σ 38 = some σ' ∧ zRb σ' (zab (zonB V m) (zli T V m) zlt (tn T)) := by
  have h7 := zWV7 hW
  obtain ⟨s1, q1, f1, r1⟩ := zinv (st := zSl1 38) (s0 := (si σ 30 3 (-2), 0)) (fun t x => zK σ x.1 ∧ x.2 = nI t ∧ zRb x.1 (zab (zonB V m) (zli T V m) zlt t)) (fun r => zK σ r ∧ zRb r (zab (zonB V m) (zli T V m) zlt 7)) 7 (by omega) ⟨zK30 _ _ (zK_refl _), rfl, ⟨by rw [si_get, if_pos ⟨rfl, rfl⟩]; rfl, fun p hp => by cases hp⟩⟩ (by
    rintro t ⟨x, p⟩ ht ⟨h1, h2, h3⟩
    have h2 : p = nI t := h2
    subst h2
    have h1 : zK σ x := h1
    have h3 : zRb x (zab (zonB V m) (zli T V m) zlt t) := h3
    have n1 : ¬ (7 : Int32) ≤ nI t := fun z => by have := (nI_leN (a := 7) (by omega) (by omega)).mp z; omega
    have Rx := zRS_K h1 hR
    refine Or.inl ?_
    unfold zSl1
    dsimp only [un2]
    rw [if_neg n1, bind_eq (C_isListed h7 Rx _)]
    by_cases q : pO V m (nI t) = -1
    · refine ⟨(x, nI (t + 1)), ?_, h1, rfl, ?_⟩
      · rw [if_pos q, if_pos rfl, wlet_eq, nI_succ]
      · show zRb x _
        rw [zab_off (zonB_f q)]; exact h3
    · obtain ⟨a, a1, a2, a3, a4⟩ := zon hW q (by omega)
      obtain ⟨x1, g1, g2, g3⟩ := C_copyFrom (σ := x) (o := 42) (p := 38) (by omega)
      have R1 := g3 m V h7 Rx
      obtain ⟨x2, l1, l2, l3⟩ := C_strike R1 hW a1
      rw [a2] at l2
      have k2 : zK σ x2 := zK_trans h1 (zK_tr (fr_trans g1 (fr_mono l1 (by omega) (by omega))))
      obtain ⟨x3, o1, o2⟩ := C_allSuffering (zTx_K k2 hT) hOK l3 (zWV_st hW a1) (by omega)
      have k3 := zK_trans k2 (zK_frj o1)
      have hv : fo (· + ·) (sufAt T (zst V a m) (m - 1)) (m - 1) 0 0 = zli T V m t := by
        unfold zli; rw [a3, nI_clamp (by omega)]
      rw [hv] at o2
      have e30 : x3.1 30 = x.1 30 := by rw [o1.1 30 (by omega), l1.1 30 (by omega), g1.1 30 (by omega)]
      rw [if_neg q, if_neg n10, bind_eq g2, bind_eq l2, bnd2_eq o2, wlet_eq, e30, h3.1]
      cases hq : zab (zonB V m) (zli T V m) zlt t with
      | none =>
        refine ⟨(si (si x3 30 3 (nI t)) 30 4 (zli T V m t), nI (t + 1)), ?_, zK30 _ _ (zK30 _ _ k3), rfl, ?_⟩
        · rw [if_pos (show zW none = -2 from rfl), wlet_eq, wlet_eq, wlet_eq, nI_succ]
        · rw [zab_first (zonB_t q) hq]; exact zRb_set
      | some r =>
        have hr := zab_lt hq
        rw [if_neg (show ¬ zW (some r) = -2 from nI_ne_m2 (by omega)), h3.2 r hq]
        by_cases w : r.2 ≤ zli T V m t
        · refine ⟨(x3, nI (t + 1)), ?_, k3, rfl, ?_⟩
          · rw [if_pos w, wlet_eq, nI_succ]
          · show zRb x3 _
            rw [zab_old hq (by unfold zlt; simpa using w), ← hq]; exact zRb_fr e30 h3
        · refine ⟨(si (si x3 30 3 (nI t)) 30 4 (zli T V m t), nI (t + 1)), ?_, zK30 _ _ (zK30 _ _ k3), rfl, ?_⟩
          · rw [if_neg w, wlet_eq, wlet_eq, wlet_eq, nI_succ]
          · rw [zab_new (zonB_t q) hq (by unfold zlt; simpa using w)]; exact zRb_set) (by
    rintro ⟨x, p⟩ ⟨h1, h2, h3⟩
    have h2 : p = nI 7 := h2
    subst h2
    refine ⟨x, ?_, h1, h3⟩
    unfold zSl1
    dsimp only [un2]
    rw [if_pos (by decide)])
  rw [zab7 hW] at r1
  refine ⟨s1, f1, ?_, r1⟩
  unfold f_X3_seekLighter
  rw [wlet_eq, wlet_eq]
  exact bind_eq q1
theorem M_without {τ : St} {m a c : Nat} {T : Tx} (hT : TxM τ T) (hOK : TxOK T) (hW : WV (tn T) m (τ.1 26)) (ha : a < m) (hc : zcp τ a = nI c) :
    ∃ τ', zSc τ τ' ∧ (∀ i, 26 ≤ i → τ'.1 27 i = τ.1 27 i) ∧ f_X11_without τ (nI c) = some (zli T (zcp τ) m c, τ') := by
  have h7 := zWV7 hW
  have hWc := zcp_WV hW
  obtain ⟨τ1, a1, a2, a3, a4⟩ := zcop2 hT
  have hp : pO (zcp τ) m (nI c) = nI a := by rw [← hc]; exact zpO_at hWc ha
  have h77 : τ1.1 27 7 = nI m := by rw [a3]; exact hWc.2.2.1
  have hq := M_placeOf h7 h77 (nI c)
  rw [a3, hp] at hq
  obtain ⟨τ2, b1, b2⟩ := M_sufferAll (τ := sc τ1 27 (zst (τ1.1 27) a m)) (m := m - 1) (T := T) (zTxM_Sc (zSc_trans a1 (zSc_Lc (zLc_sc _ _))) hT) hOK (by rw [zsc_eq, a3]; exact zWV_st hWc ha)
  rw [zsc_eq, a3] at b2
  have b3 := fl27 b1
  rw [zsc_eq, a3] at b3
  rw [a3] at b1
  refine ⟨τ2, zSc_trans a1 (zSc_trans (zSc_Lc (zLc_sc _ _)) (zSc_fl b1)), fun i hi => ?_, ?_⟩
  · rw [b3, zst_out h7 ha (by omega) (by omega), zcp_hi hi]
  · unfold f_X11_without
    rw [bind_eq a2, bind_eq hq, bind_eq (M_putsOff ha h7 h77), a3, bnd2_eq b2]
    unfold zli
    rw [hp, nI_clamp (by omega)]
theorem M_lighter {τ : St} {m : Nat} {T : Tx} (hT : TxM τ T) (hOK : TxOK T) (hW : WV (tn T) m (τ.1 26)) :
    ∃ τ', zSc τ τ' ∧ lp zMl1 fuel (τ, -2, -2, 0) = some (τ', zW (zab (zonB (zcp τ) m) (zli T (zcp τ) m) zlt (tn T)), zM (zab (zonB (zcp τ) m) (zli T (zcp τ) m) zlt (tn T))) := by
  have h7 := zWV7 hW
  have hn := hOK.1
  have hWc := zcp_WV hW
  obtain ⟨⟨s1, v1, w1⟩, q1, f1, r1, r2⟩ := zinv (st := zMl1) (s0 := (τ, -2, -2, 0)) (fun t x => zSc τ x.1 ∧ x.2.2.2 = nI t ∧ x.2.1 = zW (zab (zonB (zcp τ) m) (zli T (zcp τ) m) zlt t) ∧ x.2.2.1 = zM (zab (zonB (zcp τ) m) (zli T (zcp τ) m) zlt t) ∧ ∀ i, 26 ≤ i → x.1.1 27 i = τ.1 27 i) (fun r => zSc τ r.1 ∧ r.2.1 = zW (zab (zonB (zcp τ) m) (zli T (zcp τ) m) zlt (tn T)) ∧ r.2.2 = zM (zab (zonB (zcp τ) m) (zli T (zcp τ) m) zlt (tn T))) (tn T) (by omega) ⟨zSc_refl _, rfl, rfl, rfl, fun _ _ => rfl⟩ (by
    rintro t ⟨x, v, w, p⟩ ht ⟨h1, h2, h3, h4, h5⟩
    have h2 : p = nI t := h2
    subst h2
    have h1 : zSc τ x := h1
    have h3 : v = _ := h3
    have h4 : w = _ := h4
    have h5 : ∀ i, 26 ≤ i → x.1 27 i = τ.1 27 i := h5
    have Txx := zTxM_Sc h1 hT
    obtain ⟨l, l1, l2, l3⟩ := zcases Txx
    obtain ⟨x1, c1, c2, c3, c4⟩ := zcop2 Txx
    have ecp := zcp_eq (z26 h1) h5
    rw [ecp] at c3
    have k1 := zSc_trans h1 c1
    have ecp1 : zcp x1 = zcp τ := zcp_eq (z26 k1) (fun i hi => by rw [c3, zcp_hi hi])
    have n1 : ¬ nI (tn T) ≤ nI t := fun z => by have := (nI_leN (by omega) (by omega)).mp z; omega
    refine Or.inl ?_
    unfold zMl1
    dsimp only [un4]
    rw [l2, if_ib (ib_t (show l < 2 by omega) (by omega)), nI_clamp (show l < 2 ^ 31 by omega), l3, if_neg n1, bind_eq c2, bind_eq (M_isOn h7 (by rw [c3]; exact hWc.2.2.1) _), c3]
    by_cases q : pO (zcp τ) m (nI t) = -1
    · refine ⟨(x1, v, w, nI (t + 1)), ?_, k1, rfl, ?_, ?_, fun i hi => ?_⟩
      · rw [if_pos q, if_pos rfl, wlet_eq, nI_succ]
      · show v = _
        rw [zab_off (zonB_f q)]; exact h3
      · show w = _
        rw [zab_off (zonB_f q)]; exact h4
      · show x1.1 27 i = _
        rw [c3, zcp_hi hi]
    · obtain ⟨a, a1, a2, a3, a4⟩ := zon hWc q (by omega)
      obtain ⟨x2, g1, g2, g3⟩ := M_without (zTxM_Sc k1 hT) hOK (m := m) (by rw [z26 k1]; exact hW) a1 (by rw [ecp1]; exact a2)
      rw [ecp1] at g3
      have k2 := zSc_trans k1 g1
      have tail : ∀ i, 26 ≤ i → x2.1 27 i = τ.1 27 i := fun i hi => by rw [g2 i hi, c3, zcp_hi hi]
      rw [if_neg q, if_neg n10, bnd2_eq g3, h3]
      cases hq : zab (zonB (zcp τ) m) (zli T (zcp τ) m) zlt t with
      | none =>
        refine ⟨(x2, nI t, zli T (zcp τ) m t, nI (t + 1)), ?_, k2, rfl, ?_, ?_, tail⟩
        · rw [if_pos (show zW none < 0 by decide), wlet_eq, nI_succ]
        · rw [zab_first (zonB_t q) hq]; rfl
        · rw [zab_first (zonB_t q) hq]; rfl
      | some r =>
        have hr := zab_lt hq
        rw [hq] at h3 h4
        rw [if_neg (show ¬ zW (some r) < 0 from nI_pos (by omega)), h4]
        by_cases z : zli T (zcp τ) m t < zM (some r)
        · refine ⟨(x2, nI t, zli T (zcp τ) m t, nI (t + 1)), ?_, k2, rfl, ?_, ?_, tail⟩
          · rw [if_pos z, wlet_eq, nI_succ]
          · rw [zab_new (zonB_t q) hq (by unfold zlt; exact decide_eq_true z)]; rfl
          · rw [zab_new (zonB_t q) hq (by unfold zlt; exact decide_eq_true z)]; rfl
        · have hb : zlt (zli T (zcp τ) m t) r.2 = false := by unfold zlt; exact decide_eq_false z
          refine ⟨(x2, zW (some r), zM (some r), nI (t + 1)), ?_, k2, rfl, ?_, ?_, tail⟩
          · rw [if_neg z, wlet_eq, nI_succ]
          · rw [zab_old hq hb]
          · rw [zab_old hq hb]) (by
    rintro ⟨x, v, w, p⟩ ⟨h1, h2, h3, h4, h5⟩
    have h2 : p = nI (tn T) := h2
    subst h2
    have h1 : zSc τ x := h1
    obtain ⟨l, l1, l2, l3⟩ := zcases (zTxM_Sc h1 hT)
    refine ⟨(x, v, w), ?_, h1, h3, h4⟩
    unfold zMl1
    dsimp only [un4]
    rw [l2, if_ib (ib_t (show l < 2 by omega) (by omega)), nI_clamp (show l < 2 ^ 31 by omega), l3, if_pos ((nI_leN (by omega) (by omega)).mpr (Nat.le_refl _))])
  have r1 : v1 = _ := r1
  have r2 : w1 = _ := r2
  rw [r1, r2] at q1
  exact ⟨s1, f1, q1⟩
theorem z01k (y : Int32) : (y = 0 ∨ y = 1) ∨ (f_X11_in y 0 1 = some 0 ∧ (y < 0 ∨ (1 : Int32) < y)) := by
  rcases z01 y with h | h | h
  · exact Or.inl (Or.inl h)
  · exact Or.inl (Or.inr h)
  · exact Or.inr h
theorem zdo_lighter : sim_lighter Inv := by
  intro σ τ hI y
  obtain ⟨-, -, -, -, T, m, a1, a2, a3, a4, a5, -, -⟩ := id hI
  have hn := a1.1
  have h7 := zWV7 a5
  unfold f_X10_lighter f_X11_lighter
  rcases z01k y with hy | hy
  · obtain ⟨σ', c1, c2, c3⟩ := C_lighter a2 a1 (zcp_RS h7 a4) (zcp_WV a5)
    obtain ⟨τ', d1, d2⟩ := M_lighter a3 a1 a5
    rw [z01d hy, bind_eq c2, bind_eq (C_answer c3 (zab_100 (by omega)) y), bind_eq (z01e hy), if_neg n10, wlet_eq]
    refine ⟨_, _, τ', rfl, ?_, Inv_q hI c1 d1⟩
    refine (bind_eq d2).trans ?_
    dsimp only [un3]
    by_cases q : y = 0
    · rw [if_pos q, if_pos q]
    · rw [if_neg q, if_neg q]
  · rw [z01c hy, bind_eq hy.1, if_pos rfl]
    exact ⟨_, _, _, rfl, rfl, hI⟩
/-- what a case suffers at another place -/
def zfu (T : Tx) (V : Nat → Int32) (m a t : Nat) : Int32 := sufAt T (zmv V a t) m t
theorem C_furthest {σ : St} {m a : Nat} {T : Tx} {V : Nat → Int32} (hT : TxC σ 4 T) (hOK : TxOK T) (hR : RS σ 38 m V) (hW : WV (tn T) m V) (ha : a < m) :
    ∃ σ', zK σ σ' ∧ f_X3_seekFurthest σ 38 (V a) = some σ' ∧ zRb σ' (zab (fun _ => true) (zfu T V m a) zlt m) := by
  have h7 := zWV7 hW
  obtain ⟨s1, q1, f1, r1⟩ := zinv (st := zSf1 38 (V a)) (s0 := (si σ 30 3 (-2), 0)) (fun t x => zK σ x.1 ∧ x.2 = nI t ∧ zRb x.1 (zab (fun _ => true) (zfu T V m a) zlt t)) (fun r => zK σ r ∧ zRb r (zab (fun _ => true) (zfu T V m a) zlt m)) m (by omega) ⟨zK30 _ _ (zK_refl _), rfl, ⟨by rw [si_get, if_pos ⟨rfl, rfl⟩]; rfl, fun p hp => by cases hp⟩⟩ (by
    rintro t ⟨x, p⟩ ht ⟨h1, h2, h3⟩
    have h2 : p = nI t := h2
    subst h2
    have h1 : zK σ x := h1
    have h3 : zRb x (zab (fun _ => true) (zfu T V m a) zlt t) := h3
    have Rx := zRS_K h1 hR
    have n1 : ¬ nI m ≤ nI t := fun z => by have := (nI_leN (by omega) (by omega)).mp z; omega
    obtain ⟨x1, g1, g2, g3⟩ := C_copyFrom (σ := x) (o := 42) (p := 38) (by omega)
    have R1 := g3 m V h7 Rx
    have l2 := C_move R1 hW ha ht
    have R2 := zRS_mv R1 ha ht h7
    have k2 : zK σ (sc x1 (42 + 1) (zmv (x1.1 (42 + 1)) a t)) := zK_trans h1 (zK_tr (fr_trans g1 (zfr_sc _ _ _ (by omega))))
    obtain ⟨x3, o1, o2⟩ := C_sufferingAt (zTx_K k2 hT) hOK R2 (zWV_mv hW ha ht) (by omega) ht
    have k3 := zK_trans k2 (zK_frj o1)
    have o2 : f_X1_sufferingAt (sc x1 (42 + 1) (zmv (x1.1 (42 + 1)) a t)) 42 (nI t) = some (zfu T V m a t, x3) := o2
    have e30 : x3.1 30 = x.1 30 := by rw [o1.1 30 (by omega), zsc_ne (by omega), g1.1 30 (by omega)]
    refine Or.inl ?_
    unfold zSf1
    dsimp only [un2]
    rw [Rx.1, if_neg n1, bind_eq g2, bind_eq l2, bnd2_eq o2, wlet_eq, e30, h3.1]
    cases hq : zab (fun _ => true) (zfu T V m a) zlt t with
    | none =>
      refine ⟨(si (si x3 30 3 (nI t)) 30 4 (zfu T V m a t), nI (t + 1)), ?_, zK30 _ _ (zK30 _ _ k3), rfl, ?_⟩
      · rw [if_pos (show zW none = -2 from rfl), wlet_eq, wlet_eq, wlet_eq, nI_succ]
      · rw [zab_first rfl hq]; exact zRb_set
    | some r =>
      have hr := zab_lt hq
      rw [if_neg (show ¬ zW (some r) = -2 from nI_ne_m2 (by omega)), h3.2 r hq]
      by_cases w : r.2 ≤ zfu T V m a t
      · refine ⟨(x3, nI (t + 1)), ?_, k3, rfl, ?_⟩
        · rw [if_pos w, wlet_eq, nI_succ]
        · show zRb x3 _
          rw [zab_old hq (by unfold zlt; simpa using w), ← hq]; exact zRb_fr e30 h3
      · refine ⟨(si (si x3 30 3 (nI t)) 30 4 (zfu T V m a t), nI (t + 1)), ?_, zK30 _ _ (zK30 _ _ k3), rfl, ?_⟩
        · rw [if_neg w, wlet_eq, wlet_eq, wlet_eq, nI_succ]
        · rw [zab_new rfl hq (by unfold zlt; simpa using w)]; exact zRb_set) (by
    rintro ⟨x, p⟩ ⟨h1, h2, h3⟩
    have h2 : p = nI m := h2
    subst h2
    have h1 : zK σ x := h1
    refine ⟨x, ?_, h1, h3⟩
    unfold zSf1
    dsimp only [un2]
    rw [(zRS_K h1 hR).1, if_pos ((nI_leN (by omega) (by omega)).mpr (Nat.le_refl _))])
  refine ⟨s1, f1, ?_, r1⟩
  unfold f_X3_seekFurthest
  rw [wlet_eq, wlet_eq]
  exact bind_eq q1
theorem M_furthest {τ : St} {m a : Nat} {T : Tx} (hT : TxM τ T) (hOK : TxOK T) (hW : WV (tn T) m (τ.1 26)) (ha : a < m) :
    ∃ τ', zSc τ τ' ∧ lp (zMf1 (zcp τ a)) fuel (τ, -2, -2, 0) = some (τ', zW (zab (fun _ => true) (zfu T (zcp τ) m a) zlt m), zM (zab (fun _ => true) (zfu T (zcp τ) m a) zlt m)) := by
  have h7 := zWV7 hW
  have hn := hOK.1
  have hWc := zcp_WV hW
  obtain ⟨⟨s1, v1, w1⟩, q1, f1, r1, r2⟩ := zinv (st := zMf1 (zcp τ a)) (s0 := (τ, -2, -2, 0)) (fun t x => zSc τ x.1 ∧ x.2.2.2 = nI t ∧ x.2.1 = zW (zab (fun _ => true) (zfu T (zcp τ) m a) zlt t) ∧ x.2.2.1 = zM (zab (fun _ => true) (zfu T (zcp τ) m a) zlt t) ∧ ∀ i, 26 ≤ i → x.1.1 27 i = τ.1 27 i) (fun r => zSc τ r.1 ∧ r.2.1 = zW (zab (fun _ => true) (zfu T (zcp τ) m a) zlt m) ∧ r.2.2 = zM (zab (fun _ => true) (zfu T (zcp τ) m a) zlt m)) m (by omega) ⟨zSc_refl _, rfl, rfl, rfl, fun _ _ => rfl⟩ (by
    rintro t ⟨x, v, w, p⟩ ht ⟨h1, h2, h3, h4, h5⟩
    have h2 : p = nI t := h2
    subst h2
    have h1 : zSc τ x := h1
    have h3 : v = _ := h3
    have h4 : w = _ := h4
    have h5 : ∀ i, 26 ≤ i → x.1 27 i = τ.1 27 i := h5
    have Txx := zTxM_Sc h1 hT
    obtain ⟨x1, c1, c2, c3, c4⟩ := zcop2 Txx
    have ecp := zcp_eq (z26 h1) h5
    rw [ecp] at c3
    have k1 := zSc_trans h1 c1
    have h77 : x1.1 27 7 = nI m := by rw [c3]; exact hWc.2.2.1
    have hpl := M_placeOf h7 h77 (zcp τ a)
    rw [c3, zpO_at hWc ha] at hpl
    obtain ⟨x2, g1, g2⟩ := M_sufferAt' (τ := sc x1 27 (zmv (x1.1 27) a t)) (m := m) (j := t) (T := T) (zTxM_Sc (zSc_trans k1 (zSc_Lc (zLc_sc _ _))) hT) hOK (by rw [zsc_eq, c3]; exact zWV_mv hWc ha ht) ht
    have v2 := fl27 g1
    rw [zsc_eq, c3] at v2 g2
    have g2 : f_X11_sufferAt (sc x1 27 (zmv (x1.1 27) a t)) (nI t) = some (zfu T (zcp τ) m a t, x2) := by rw [c3]; exact g2
    have k2 := zSc_trans k1 (zSc_trans (zSc_Lc (zLc_sc _ _)) (zSc_fl g1))
    have tail : ∀ i, 26 ≤ i → x2.1 27 i = τ.1 27 i := fun i hi => by rw [v2, zmv_out (by omega) (by omega), zcp_hi hi]
    have n1 : ¬ nI m ≤ nI t := fun z => by have := (nI_leN (by omega) (by omega)).mp z; omega
    refine Or.inl ?_
    unfold zMf1
    dsimp only [un4]
    rw [if_ib b726, c7, z26 h1, hW.2.2.1, if_neg n1, bind_eq c2, bind_eq hpl, bind_eq (M_moves (by omega) (by omega)), bnd2_eq g2, h3]
    cases hq : zab (fun _ => true) (zfu T (zcp τ) m a) zlt t with
    | none =>
      refine ⟨(x2, nI t, zfu T (zcp τ) m a t, nI (t + 1)), ?_, k2, rfl, ?_, ?_, tail⟩
      · rw [if_pos (show zW none < 0 by decide), wlet_eq, nI_succ]
      · rw [zab_first rfl hq]; rfl
      · rw [zab_first rfl hq]; rfl
    | some r =>
      have hr := zab_lt hq
      rw [hq] at h3 h4
      rw [if_neg (show ¬ zW (some r) < 0 from nI_pos (by omega)), h4]
      by_cases z : zfu T (zcp τ) m a t < zM (some r)
      · refine ⟨(x2, nI t, zfu T (zcp τ) m a t, nI (t + 1)), ?_, k2, rfl, ?_, ?_, tail⟩
        · rw [if_pos z, wlet_eq, nI_succ]
        · rw [zab_new rfl hq (by unfold zlt; exact decide_eq_true z)]; rfl
        · rw [zab_new rfl hq (by unfold zlt; exact decide_eq_true z)]; rfl
      · have hb : zlt (zfu T (zcp τ) m a t) r.2 = false := by unfold zlt; exact decide_eq_false z
        refine ⟨(x2, zW (some r), zM (some r), nI (t + 1)), ?_, k2, rfl, ?_, ?_, tail⟩
        · rw [if_neg z, wlet_eq, nI_succ]
        · rw [zab_old hq hb]
        · rw [zab_old hq hb]) (by
    rintro ⟨x, v, w, p⟩ ⟨h1, h2, h3, h4, h5⟩
    have h2 : p = nI m := h2
    subst h2
    have h1 : zSc τ x := h1
    refine ⟨(x, v, w), ?_, h1, h3, h4⟩
    unfold zMf1
    dsimp only [un4]
    rw [if_ib b726, c7, z26 h1, hW.2.2.1, if_pos ((nI_leN (by omega) (by omega)).mpr (Nat.le_refl _))])
  have r1 : v1 = _ := r1
  have r2 : w1 = _ := r2
  rw [r1, r2] at q1
  exact ⟨s1, f1, q1⟩
theorem zdo_furthest : sim_furthest Inv := by
  intro σ τ hI x y
  obtain ⟨-, -, -, -, T, m, a1, a2, a3, a4, a5, -, -⟩ := id hI
  have hn := a1.1
  have h7 := zWV7 a5
  obtain ⟨τ1, c1, c2, c3, c4⟩ := zcop2 a3
  have Rc := zcp_RS h7 a4
  have Wc := zcp_WV a5
  have T1 := zTxM_Sc c1 a3
  have h77 : τ1.1 27 7 = nI m := by rw [c3]; exact Wc.2.2.1
  have ecp : zcp τ1 = zcp τ := zcp_eq (z26 c1) (fun i hi => by rw [c3, zcp_hi hi])
  have hQ := Inv_q hI (zK_refl _) c1
  unfold f_X10_furthest f_X11_furthest
  rw [bind_eq c2, bind_eq (C_isListed h7 Rc _)]
  rcases zwho Wc x with ⟨a, ha, rfl⟩ | ⟨c, hc, rfl, hp⟩ | ⟨hx, hp⟩
  · obtain ⟨e1, e2⟩ := cN_eq Wc ha
    have hcase : f_X11_isCase τ1 (zcp τ a) = some 1 := by rw [e1]; exact M_isCase_t T1 a1 e2
    have hpl := zpO_at Wc ha
    rw [hpl, if_neg (nI_ne_m1 (by omega)), if_neg n10, bind_eq hcase, if_neg n10, bind_eq (M_isOn h7 h77 _), c3, hpl, if_neg (nI_ne_m1 (by omega)), if_neg n10]
    rcases z01k y with hy | hy
    · obtain ⟨σ', d1, d2, d3⟩ := C_furthest a2 a1 Rc Wc ha
      obtain ⟨τ', g1, g2⟩ := M_furthest T1 a1 (by rw [z26 c1]; exact a5) ha
      rw [ecp] at g2
      rw [z01d hy, bind_eq d2, bind_eq (C_answer d3 (zab_100 (by omega)) y), bind_eq (z01e hy), if_neg n10, wlet_eq]
      refine ⟨_, _, τ', rfl, ?_, Inv_q hI d1 (zSc_trans c1 g1)⟩
      refine (bind_eq g2).trans ?_
      dsimp only [un3]
      by_cases q : y = 0
      · rw [if_pos q, if_pos q]
      · rw [if_neg q, if_neg q]
    · rw [z01c hy, bind_eq hy.1, if_pos rfl]
      exact ⟨_, _, _, rfl, rfl, hQ⟩
  · rw [hp, if_pos rfl, if_pos rfl, bind_eq (M_isCase_t T1 a1 hc), if_neg n10, bind_eq (M_isOn h7 h77 _), c3, hp, if_pos rfl, if_pos rfl]
    exact ⟨_, _, _, rfl, rfl, hQ⟩
  · rw [hp, if_pos rfl, if_pos rfl, bind_eq (M_isCase_f T1 a1 hx), if_pos rfl]
    exact ⟨_, _, _, rfl, rfl, hQ⟩
