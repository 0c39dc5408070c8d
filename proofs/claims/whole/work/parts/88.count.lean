/-! STAGE B, 39: counts -/
def zAd1 (σ : St) (o0 : Nat) : Int32 × Int32 → Option ((Int32 × Int32) ⊕ (Int32)) :=
  un2 (fun (x1_10_1 : Int32) (x4_10_1 : Int32) => if (7 : Int32) ≤ x4_10_1 then (some (.inr x1_10_1)) else (if ib x4_10_1 7 = true then wlet (σ.1 o0 (Int32.toNatClampNeg x4_10_1)) fun v4 => wlet (x1_10_1 + v4) fun v5 => wlet (x4_10_1 + (1 : Int32)) fun v6 => some (.inl (v5, v6)) else none))
def zSn1 (σ : St) (x1 : Int32) : Int32 × Int32 → Option ((Int32 × Int32) ⊕ (Int32)) :=
  un2 (fun (x2_4_1 : Int32) (x3_4_1 : Int32) => if (x1 + (7 : Int32)) ≤ x3_4_1 then (some (.inr x2_4_1)) else (if ib x3_4_1 26 = true then wlet (x2_4_1 + (σ.1 26 (Int32.toNatClampNeg x3_4_1))) fun v4 => wlet (x3_4_1 + (1 : Int32)) fun v5 => some (.inl (v4, v5)) else none))
def zUl1 (σ : St) : Int32 × Int32 → Option ((Int32 × Int32) ⊕ (Int32)) :=
  un2 (fun (x1_4_1 : Int32) (x2_4_1 : Int32) => if (σ.1 4 6) ≤ x2_4_1 then (some (.inr x1_4_1)) else (Option.bind (f_X6_isListed σ 38 x2_4_1) fun v4 => if v4 = 0 then (wlet (x1_4_1 ||| ((1 : Int32) <<< (x2_4_1 &&& 31))) fun v7 => wlet (x2_4_1 + (1 : Int32)) fun v8 => some (.inl (v7, v8))) else (wlet (x2_4_1 + (1 : Int32)) fun v6 => some (.inl (x1_4_1, v6)))))
def zCo1 (σ2 : St) : Int32 × Int32 → Option ((Int32 × Int32) ⊕ (Int32)) :=
  un2 (fun (x2_245_47 : Int32) (x3_245_47 : Int32) => if ib (σ2.1 0 18) 2 = true then if (σ2.1 9 (Int32.toNatClampNeg (σ2.1 0 18))) ≤ x3_245_47 then (some (.inr x2_245_47)) else (Option.bind (f_X11_isOn σ2 x3_245_47) fun v51 => if v51 = 0 then (wlet (x2_245_47 ||| ((1 : Int32) <<< (x3_245_47 &&& 31))) fun v54 => wlet (x3_245_47 + (1 : Int32)) fun v55 => some (.inl (v54, v55))) else (wlet (x3_245_47 + (1 : Int32)) fun v53 => some (.inl (x2_245_47, v53)))) else none)
def zCo2 : St × Int32 × Int32 → Option ((St × Int32 × Int32) ⊕ (St × Int32)) :=
  un3 (fun (σ282_57 : St) (x2_282_57 : Int32) (x3_282_57 : Int32) => if ib (7 : Int32) 26 = true then if (σ282_57.1 27 (Int32.toNatClampNeg (7 : Int32))) ≤ x3_282_57 then (some (.inr (σ282_57, x2_282_57))) else (bnd2 (f_X11_dueAt σ282_57 x3_282_57) fun v61 σ62 => wlet (x2_282_57 + v61) fun v63 => wlet (x3_282_57 + (1 : Int32)) fun v64 => some (.inl (σ62, v63, v64))) else none)
theorem C_added {σ : St} {o : Nat} {f : Nat → Int32} (h : ∀ c, c < 7 → σ.1 o c = f c) : f_X10_added σ o = some (fo (· + ·) f 7 0 0) := by
  unfold f_X10_added
  rw [wlet_eq]
  refine (bind_eq (zfo_run (st := zAd1 σ o) (· + ·) f 7 (by omega) 0 (fun a j hj => ?_) (fun a => ?_))).trans rfl
  · have n1 : ¬ (7 : Int32) ≤ nI j := fun z => by have := (nI_leN (a := 7) (by omega) (by omega)).mp z; omega
    unfold zAd1
    dsimp only [un2]
    rw [if_neg n1, if_ib (ib_t hj (by omega)), nI_clamp (show j < 2 ^ 31 by omega), h j hj, wlet_eq, wlet_eq, wlet_eq, nI_succ]
  · unfold zAd1
    dsimp only [un2]
    rw [if_pos (by decide)]
theorem M_sumNow {τ : St} {k : Nat} (hk : k ≤ 17) : f_X11_sumNow τ (nI k) = some (fo (· + ·) (fun c => τ.1 26 (k + c)) 7 0 0) := by
  unfold f_X11_sumNow
  rw [wlet_eq]
  refine (bind_eq (zrun (st := zSn1 τ (nI k)) (r := fo (· + ·) (fun c => τ.1 26 (k + c)) 7 0 0) (fun t => (fo (· + ·) (fun c => τ.1 26 (k + c)) t 0 0, nI (k + t))) 7 (by omega) rfl (fun t ht => ?_) ?_)).trans rfl
  · have n1 : ¬ nI (k + 7) ≤ nI (k + t) := fun z => by have := (nI_leN (by omega) (by omega)).mp z; omega
    unfold zSn1
    dsimp only [un2]
    rw [show nI k + (7 : Int32) = nI (k + 7) from nI_add' k 7, if_neg n1, if_ib (ib_t (show k + t < 26 by omega) (by omega)), nI_clamp (show k + t < 2 ^ 31 by omega), wlet_eq, wlet_eq, ← nI_succ, zfo_snoc, Nat.zero_add]
    rfl
  · unfold zSn1
    dsimp only [un2]
    rw [show nI k + (7 : Int32) = nI (k + 7) from nI_add' k 7, if_pos ((nI_leN (by omega) (by omega)).mpr (Nat.le_refl _))]
def zul (V : Nat → Int32) (m : Nat) : Nat → Int32
  | 0 => 0
  | t + 1 => if pO V m (nI t) = -1 then zul V m t ||| ((1 : Int32) <<< (nI t &&& 31)) else zul V m t
theorem C_unlisted {σ : St} {m : Nat} {T : Tx} {V : Nat → Int32} (hT : TxC σ 4 T) (hOK : TxOK T) (hR : RS σ 38 m V) (hm : m ≤ 7) : f_X10_unlisted σ = some (zul V m (tn T)) := by
  have hn := hOK.1
  unfold f_X10_unlisted
  rw [wlet_eq]
  refine (bind_eq (zrun (st := zUl1 σ) (r := zul V m (tn T)) (fun t => (zul V m t, nI t)) (tn T) (by omega) rfl (fun t ht => ?_) ?_)).trans rfl
  · have n1 : ¬ nI (tn T) ≤ nI t := fun z => by have := (nI_leN (by omega) (by omega)).mp z; omega
    unfold zUl1
    dsimp only [un2]
    rw [hT.1, if_neg n1, bind_eq (C_isListed hm hR _), zul]
    by_cases q : pO V m (nI t) = -1
    · rw [if_pos q, if_pos q, if_pos rfl, wlet_eq, wlet_eq, nI_succ]
    · rw [if_neg q, if_neg q, if_neg n10, wlet_eq, nI_succ]
  · unfold zUl1
    dsimp only [un2]
    rw [hT.1, if_pos ((nI_leN (by omega) (by omega)).mpr (Nat.le_refl _))]
theorem M_unlisted {τ : St} {m : Nat} {T : Tx} (hT : TxM τ T) (hOK : TxOK T) (hW : WV (tn T) m (τ.1 27)) : lp (zCo1 τ) fuel (0, 0) = some (zul (τ.1 27) m (tn T)) := by
  have hn := hOK.1
  have h7 := zWV7 hW
  obtain ⟨l, l1, l2, l3⟩ := zcases hT
  refine zrun (fun t => (zul (τ.1 27) m t, nI t)) (tn T) (by omega) rfl (fun t ht => ?_) ?_
  · have n1 : ¬ nI (tn T) ≤ nI t := fun z => by have := (nI_leN (by omega) (by omega)).mp z; omega
    unfold zCo1
    dsimp only [un2]
    rw [l2, if_ib (ib_t (show l < 2 by omega) (by omega)), nI_clamp (show l < 2 ^ 31 by omega), l3, if_neg n1, bind_eq (M_isOn h7 hW.2.2.1 _), zul]
    by_cases q : pO (τ.1 27) m (nI t) = -1
    · rw [if_pos q, if_pos q, if_pos rfl, wlet_eq, wlet_eq, nI_succ]
    · rw [if_neg q, if_neg q, if_neg n10, wlet_eq, nI_succ]
  · unfold zCo1
    dsimp only [un2]
    rw [l2, if_ib (ib_t (show l < 2 by omega) (by omega)), nI_clamp (show l < 2 ^ 31 by omega), l3, if_pos ((nI_leN (by omega) (by omega)).mpr (Nat.le_refl _))]
theorem M_allDue {τ : St} {m : Nat} {T : Tx} (hT : TxM τ T) (hOK : TxOK T) (hW : WV (tn T) m (τ.1 27)) :
    ∃ τ', fl τ τ' ∧ Option.bind (lp zCo2 fuel (τ, 0, 0)) (un2 (fun (e : St) (x : Int32) => some (x, e))) = some (fo (· + ·) (duAt T (τ.1 27)) m 0 0, τ') := by
  have h7 := zWV7 hW
  refine lp_foldB (fl τ) (· + ·) (duAt T (τ.1 27)) m (by omega) τ 0 (fl_refl _) (fun s a j hP hj => ?_) (fun s a hP => ?_)
  · obtain ⟨s2, b1, b2⟩ := M_dueAt (TxM_fl hP hT) hOK (by rw [fl27 hP]; exact hW) hj
    rw [fl27 hP] at b2
    have n2 : ¬ nI m ≤ nI j := fun z => by have := (nI_leN (by omega) (by omega)).mp z; omega
    refine ⟨s2, fl_trans hP b1, ?_⟩
    unfold zCo2
    dsimp only [un3]
    rw [if_ib b726, c7, fl27 hP, hW.2.2.1, if_neg n2, bnd2_eq b2, wlet_eq, wlet_eq, nI_succ]
  · unfold zCo2
    dsimp only [un3]
    rw [if_ib b726, c7, fl27 hP, hW.2.2.1, if_pos ((nI_leN (by omega) (by omega)).mpr (Nat.le_refl _))]
theorem zbitc : ∀ k, k < 128 → ∃ r, r < 8 ∧ f_J6_bitCount_0f7a4 (nI k) = some (nI r) ∧ f_X11_bits (nI k) = some (nI r) := by decide +kernel
theorem zby_nat {T : Tx} {V : Nat → Int32} {n m : Nat} (hW : WV n m V) : ∀ t, t + 1 ≤ m ∨ t = 0 → ∃ k, k < 128 ∧ zby T V m t = nI k := by
  have h7 := hW.2.1
  intro t
  induction t with
  | zero => intro _; exact ⟨0, by omega, rfl⟩
  | succ t ih =>
    intro ht
    obtain ⟨k, k1, k2⟩ := ih (Or.inl (by omega))
    obtain ⟨e1, e2⟩ := cN_eq hW (show t + 1 < m by omega)
    rw [zby]
    by_cases q : (!zb (V 24) (cN V t) && zbu T V m (t + 1)) = true
    · rw [if_pos q, k2, e1]
      obtain ⟨z1, z2⟩ := zorb k k1 (cN V (t + 1)) (by omega)
      exact ⟨_, z2, z1⟩
    · rw [if_neg q]; exact ⟨k, k1, k2⟩
def zhj (hs j : Nat) : Int32 := if zb (nI hs) j = true then 1 else 0
theorem zhbc : ∀ hs, hs < 8 → f_J6_bitCount_0f7a4 (nI hs) = some ((zhj hs 0 + zhj hs 1) + zhj hs 2) := by decide +kernel
theorem zhj01 (hs j : Nat) : zhj hs j = 0 ∨ zhj hs j = 1 := by
  unfold zhj
  by_cases q : zb (nI hs) j = true
  · rw [if_pos q]; exact Or.inr rfl
  · rw [if_neg q]; exact Or.inl rfl
theorem zrsI_01 (T : Tx) (W : Nat → Int32) (m : Nat) : zrsI T W m = 0 ∨ zrsI T W m = 1 := by
  by_cases h : zrs T W m
  · exact Or.inr (zrsI_t h)
  · exact Or.inl (zrsI_f h)
theorem b03 : ib 0 3 = true := by decide
theorem b13 : ib 1 3 = true := by decide
theorem b23 : ib 2 3 = true := by decide
theorem zdo_count : sim_count Inv := by
  intro σ τ hI x
  obtain ⟨⟨kt, kt1, kt2, kt3, kt4⟩, i2, ⟨to, to1, to2, to3, to4⟩, i4, T, m, a1, a2, a3, a4, a5, ⟨hh, nx, hi1, hi2, hi3, hi4, hi5, hi6⟩, ⟨hs, hs1, hs2, hs3⟩⟩ := id hI
  obtain ⟨τ1, b1, b2, b3, b4, b5, b6, b7⟩ := zcop a3 a5
  have R := b7 σ 38 a4
  have h7 := zWV7 b4
  have hQ := Inv_q hI (zK_refl _) b1
  have e26 := z26 b1
  unfold f_X10_count f_X11_count
  rw [bind_eq b2]
  by_cases x0 : x = 0
  · obtain ⟨l, l1, l2, l3⟩ := zcases b3
    rw [if_pos x0, if_pos x0, a2.1, l2, if_ib (ib_t (show l < 2 by omega) (by omega)), nI_clamp (show l < 2 ^ 31 by omega), l3]
    exact ⟨_, _, _, rfl, rfl, hQ⟩
  rw [if_neg x0, if_neg x0]
  by_cases x1 : x = 1
  · rw [if_pos x1, if_pos x1, R.1, if_ib b726, c7, b4.2.2.1]
    exact ⟨_, _, _, rfl, rfl, hQ⟩
  rw [if_neg x1, if_neg x1]
  by_cases x2 : x = 2
  · rw [if_pos x2, if_pos x2, R.2.2.2.1, if_ib b826, tc8]
    exact ⟨_, _, _, rfl, rfl, hQ⟩
  rw [if_neg x2, if_neg x2]
  by_cases x3 : x = 3
  · rw [if_pos x3, if_pos x3, R.2.2.1, if_ib b926, tc9]
    exact ⟨_, _, _, rfl, rfl, hQ⟩
  rw [if_neg x3, if_neg x3]
  by_cases x4 : x = 4
  · obtain ⟨σ', c1, c2⟩ := C_allSuffering a2 a1 R b4 (by omega)
    obtain ⟨τ', d1, d2⟩ := M_sufferAll b3 a1 b4
    rw [if_pos x4, if_pos x4, bnd2_eq c2, bnd2_eq d2]
    exact ⟨_, _, _, rfl, rfl, Inv_q hI (zK_frj c1) (zSc_trans b1 (zSc_fl d1))⟩
  rw [if_neg x4, if_neg x4]
  by_cases x5 : x = 5
  · have hC : f_X10_added σ 41 = _ := C_added (f := fun c => τ.1 26 (17 + c)) (fun c hc => a4.2.2.2.2.2.2.2 c hc)
    have hM : f_X11_sumNow τ1 17 = _ := M_sumNow (τ := τ1) (k := 17) (by omega)
    rw [e26] at hM
    rw [if_pos x5, if_pos x5, bind_eq hC, bind_eq hM]
    exact ⟨_, _, _, rfl, rfl, hQ⟩
  rw [if_neg x5, if_neg x5]
  by_cases x6 : x = 6
  · rw [if_pos x6, if_pos x6, R.2.1, if_ib b2426, tc24]
    exact ⟨_, _, _, rfl, rfl, hQ⟩
  rw [if_neg x6, if_neg x6]
  by_cases x7 : x = 7
  · have hC : f_X10_added σ 40 = _ := C_added (f := fun c => τ.1 26 (10 + c)) (fun c hc => a4.2.2.2.2.2.2.1 c hc)
    have hM : f_X11_sumNow τ1 10 = _ := M_sumNow (τ := τ1) (k := 10) (by omega)
    rw [e26] at hM
    rw [if_pos x7, if_pos x7, bind_eq hC, bind_eq hM]
    exact ⟨_, _, _, rfl, rfl, hQ⟩
  rw [if_neg x7, if_neg x7]
  by_cases x8 : x = 8
  · rw [if_pos x8, if_pos x8, kt2, b1.2.1 2 (by omega) (by omega) (by omega), kt3]
    exact ⟨_, _, _, rfl, rfl, hQ⟩
  rw [if_neg x8, if_neg x8]
  by_cases x9 : x = 9
  · rw [if_pos x9, if_pos x9, hi3, b1.2.1 47 (by omega) (by omega) (by omega), hi5]
    exact ⟨_, _, _, rfl, rfl, hQ⟩
  rw [if_neg x9, if_neg x9]
  by_cases x10 : x = 10
  · rw [if_pos x10, if_pos x10, to2, b1.2.1 51 (by omega) (by omega) (by omega), to3]
    exact ⟨_, _, _, rfl, rfl, hQ⟩
  rw [if_neg x10, if_neg x10]
  by_cases x11 : x = 11
  · have e36 : τ1.1 36 = τ.1 36 := b1.1 36 (by omega) (by omega) (by omega) (by omega) (by omega) (by omega) (by omega) (by omega)
    have hv : ∀ j, j < 3 → τ1.1 36 j = zhj hs j := fun j hj => by
      rw [e36]
      unfold zhj
      by_cases q : zb (nI hs) j = true
      · rw [if_pos q]; exact ((hs3 j hj).1 q).1
      · rw [if_neg q]; exact (hs3 j hj).2 (by simpa using q)
    rw [if_pos x11, if_pos x11, hs2, bind_eq (zhbc hs hs1)]
    refine ⟨_, _, τ1, rfl, ?_, hQ⟩
    rw [if_ib b03, wlet_eq, c0, hv 0 (by omega)]
    rcases zhj01 hs 0 with q0 | q0
    · rw [q0, if_pos rfl]
      dsimp only
      rw [if_ib b13, wlet_eq, tc1, hv 1 (by omega)]
      rcases zhj01 hs 1 with q1 | q1
      · rw [q1, if_pos rfl]
        dsimp only
        rw [if_ib b23, tc2, hv 2 (by omega)]
        rcases zhj01 hs 2 with q2 | q2
        · rw [q2, if_pos rfl]
        · rw [q2, if_neg n10]
      · rw [q1, if_neg n10]
        dsimp only
        rw [if_ib b23, tc2, hv 2 (by omega)]
        rcases zhj01 hs 2 with q2 | q2
        · rw [q2, if_pos rfl]
        · rw [q2, if_neg n10]
    · rw [q0, if_neg n10]
      dsimp only
      rw [if_ib b13, wlet_eq, tc1, hv 1 (by omega)]
      rcases zhj01 hs 1 with q1 | q1
      · rw [q1, if_pos rfl]
        dsimp only
        rw [if_ib b23, tc2, hv 2 (by omega)]
        rcases zhj01 hs 2 with q2 | q2
        · rw [q2, if_pos rfl]
        · rw [q2, if_neg n10]
      · rw [q1, if_neg n10]
        dsimp only
        rw [if_ib b23, tc2, hv 2 (by omega)]
        rcases zhj01 hs 2 with q2 | q2
        · rw [q2, if_pos rfl]
        · rw [q2, if_neg n10]
  rw [if_neg x11, if_neg x11]
  by_cases x12 : x = 12
  · rw [if_pos x12, if_pos x12, R.2.2.2.2.1, if_ib b2526, tc25]
    exact ⟨_, _, _, rfl, rfl, hQ⟩
  rw [if_neg x12, if_neg x12]
  by_cases x13 : x = 13
  · obtain ⟨σ1, c1, c2, c3⟩ := C_layAsListed a2 a1 R b4
    obtain ⟨τ2, d1, d2⟩ := M_isRest b3 a1 b4
    have hC : f_X10_isAtRest σ = some (zrsI T (τ1.1 27) m, σ1) := by
      unfold f_X10_isAtRest
      rw [bind_eq c1, bnd2_eq (C_isResting a1.1 c3)]
      rcases zrsI_01 T (τ1.1 27) m with q | q
      · rw [q, if_pos bz0]
      · rw [q, if_pos bz1]
    rw [if_pos x13, if_pos x13, bnd2_eq hC, bnd2_eq d2]
    have hQ2 := Inv_q hI c2 (zSc_trans b1 (zSc_fl d1))
    rcases zrsI_01 T (τ1.1 27) m with q | q
    · rw [q, if_pos rfl, if_pos rfl]; exact ⟨_, _, _, rfl, rfl, hQ2⟩
    · rw [q, if_neg n10, if_neg n10]; exact ⟨_, _, _, rfl, rfl, hQ2⟩
  rw [if_neg x13, if_neg x13]
  by_cases x14 : x = 14
  · obtain ⟨σ', c1, c2⟩ := C_worstSuffering a2 a1 R b4 (by omega)
    obtain ⟨τ', d1, d2⟩ := M_mostAny b3 a1 b4
    rw [if_pos x14, if_pos x14, bnd2_eq c2, bnd2_eq d2]
    exact ⟨_, _, _, rfl, rfl, Inv_q hI (zK_frj c1) (zSc_trans b1 (zSc_fl d1))⟩
  rw [if_neg x14, if_neg x14]
  by_cases x15 : x = 15
  · rw [if_pos x15, if_pos x15, bind_eq (C_unlisted a2 a1 R h7), wlet_eq]
    exact ⟨_, _, τ1, rfl, bind_eq (M_unlisted b3 a1 b4), hQ⟩
  rw [if_neg x15, if_neg x15]
  by_cases x16 : x = 16
  · obtain ⟨σ', c1, c2⟩ := C_allDue a2 a1 R b4 (by omega)
    obtain ⟨τ', d1, d2⟩ := M_allDue b3 a1 b4
    rw [if_pos x16, if_pos x16, bnd2_eq c2, wlet_eq]
    exact ⟨_, _, τ', rfl, d2, Inv_q hI (zK_frj c1) (zSc_trans b1 (zSc_fl d1))⟩
  rw [if_neg x16, if_neg x16]
  by_cases x17 : x = 17
  · obtain ⟨σ', c1, c2⟩ := C_buyers a2 a1 R b4
    obtain ⟨τ', d1, d2⟩ := M_buyers b3 a1 b4
    obtain ⟨k, k1, k2⟩ := zby_nat (T := T) b4 (m - 1) (by omega)
    obtain ⟨r, r1, r2, r3⟩ := zbitc k k1
    rw [k2] at c2 d2
    rw [if_pos x17, if_pos x17, bnd2_eq c2, bind_eq r2, bnd2_eq d2, bind_eq r3]
    exact ⟨_, _, _, rfl, rfl, Inv_q hI c1 (zSc_trans b1 (zSc_Lc d1))⟩
  rw [if_neg x17, if_neg x17]
  by_cases x18 : x = 18
  · obtain ⟨τ2, d1, d2⟩ := M_sufferAll b3 a1 b4
    have k2 : zSc τ τ2 := zSc_trans b1 (zSc_fl d1)
    obtain ⟨τ3, p1, p2, p3, p4, p5, p6, p7⟩ := zcop (m := m) (zTxM_Sc k2 a3) (by rw [z26 k2]; exact a5)
    have R3 := p7 σ 38 (by rw [z26 k2]; exact a4)
    obtain ⟨σ1, W0, K, c1, c2, c3, c4, c5⟩ := zlay a2 a1 p3 R3 p4
    obtain ⟨σ2, τ', l, n, q1, q2, f1, f2, f3, f4, f5⟩ := zbest (g := 0) a1 (zTxM_Sc (zSc_Lc (zLc_sc τ3 W0)) p3) (by omega) c4 c5
    have kk := zK_trans c3 (zK_fr (fr_mono f1 (by omega) (by omega)))
    obtain ⟨σ3, e1, e2⟩ := C_allSuffering (zTx_K kk a2) a1 (zRS_K kk R) b4 (by omega)
    have hbC : f_X2_seekBest σ1 0 = some σ2 := C_seekBest (g := 0) q1
    have hbM : f_X11_bestOf τ2 0 = some (zsg 0 l, τ') := M_bestOf (g := 0) (by omega) p2 c2 q2
    have hQ2 := Inv_q hI (zK_trans kk (zK_frj e1)) (zSc_trans k2 (zSc_trans p1 (zSc_trans (zSc_Lc (zLc_sc τ3 W0)) f2)))
    have hC : f_X10_spared σ = some (fo (· + ·) (sufAt T (τ1.1 27) m) m 0 0 - σ3.1 25 6, σ3) := by
      unfold f_X10_spared
      rw [bind_eq c1, bind_eq hbC, bnd2_eq e2]
    have h25 : σ3.1 25 6 = zsg 0 l := by
      rw [e1.1 25 (by omega)]
      rcases f4 with ⟨z1, -⟩ | ⟨z1, w, b, z2, z3, z4, z5, z6, z7, z8, z9⟩
      · omega
      · rw [z6, z7, zsg_sg]
    rw [if_pos x18, if_pos x18, bnd2_eq hC, bnd2_eq d2, bnd2_eq hbM, h25]
    exact ⟨_, _, _, rfl, rfl, hQ2⟩
  rw [if_neg x18, if_neg x18]
  exact ⟨_, _, _, rfl, rfl, hQ⟩
