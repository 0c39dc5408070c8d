/-! STAGE B, 27: the tape; what is told -/
theorem iT_congr {σ σ' τ τ' : St} (h1 : σ'.1 2 = σ.1 2) (h2 : σ'.1 3 = σ.1 3) (h3 : τ'.1 0 2 = τ.1 0 2) (h4 : τ'.1 1 = τ.1 1) (h : iT σ τ) : iT σ' τ' := by
  unfold iT at h ⊢
  rw [h1, h2, h3, h4]; exact h
theorem iO_congr {σ σ' τ τ' : St} (h1 : σ'.1 31 4 = σ.1 31 4) (h2 : ∀ c, c = 32 ∨ c = 33 ∨ c = 34 → σ'.1 c = σ.1 c) (h3 : τ'.1 0 51 = τ.1 0 51) (h4 : ∀ c, c = 31 ∨ c = 32 ∨ c = 33 → τ'.1 c = τ.1 c) (h : iO σ τ) : iO σ' τ' := by
  unfold iO at h ⊢
  rw [h1, h2 32 (by omega), h2 33 (by omega), h2 34 (by omega), h3, h4 31 (by omega), h4 32 (by omega), h4 33 (by omega)]; exact h
theorem iH_congr {T : Tx} {σ σ' τ τ' : St} (h1 : σ'.1 36 = σ.1 36) (h2 : ∀ c, 46 ≤ c → c < 206 → σ'.1 c = σ.1 c) (h3 : τ'.1 0 47 = τ.1 0 47) (h4 : τ'.1 29 = τ.1 29) (h : iH T σ τ) : iH T σ' τ' := by
  obtain ⟨hh, nx, b1, b2, b3, b4, b5, b6⟩ := h
  refine ⟨hh, nx, b1, b2, by rw [h1]; exact b3, by rw [h1]; exact b4, by rw [h3]; exact b5, fun i hi => ?_⟩
  obtain ⟨mi, m1, m2⟩ := b6 i hi
  have hr : hrow τ' (hh - 1 - i) = hrow τ (hh - 1 - i) := by unfold hrow; rw [h4]
  rw [hr]
  have := Nat.mod_lt (nx + 39 - i) (show 0 < 40 by omega)
  exact ⟨mi, zRS_cell (fun c g1 g2 => h2 c (by omega) (by omega)) m1, m2⟩
theorem iL_congr {T : Tx} {σ σ' τ τ' : St} (h1 : σ'.1 0 10 = σ.1 0 10) (h2 : ∀ c, 206 ≤ c → σ'.1 c = σ.1 c) (h3 : τ'.1 36 = τ.1 36) (h4 : τ'.1 37 = τ.1 37) (h : iL T σ τ) : iL T σ' τ' := by
  obtain ⟨hs, c1, c2, c3⟩ := h
  refine ⟨hs, c1, by rw [h1]; exact c2, fun j hj => ?_⟩
  have sr : srow τ' j = srow τ j := by unfold srow; rw [h4]
  rw [h3, sr]
  refine ⟨fun z => ?_, (c3 j hj).2⟩
  obtain ⟨z1, mi, m1, m2⟩ := (c3 j hj).1 z
  exact ⟨z1, mi, zRS_cell (fun c g1 g2 => h2 c (by omega)) m1, m2⟩
theorem zTxC_congr {σ σ' : St} {T : Tx} (h : ∀ c, 4 ≤ c → c ≤ 8 → σ'.1 c = σ.1 c) (hT : TxC σ 4 T) : TxC σ' 4 T := by
  unfold TxC at hT ⊢
  rw [h 4 (by omega) (by omega), h (4 + 1) (by omega) (by omega), h (4 + 2) (by omega) (by omega), h (4 + 3) (by omega) (by omega), h (4 + 4) (by omega) (by omega)]
  exact hT
/-- only the tapes and what is told differ -/
theorem Inv_to {σ σ' τ τ' : St} (hI : Inv σ τ) (h : ∀ c, c ≠ 2 → c ≠ 3 → (c < 31 ∨ 34 < c) → σ'.1 c = σ.1 c) (g : ∀ c, c ≠ 0 → c ≠ 1 → (c < 31 ∨ 33 < c) → τ'.1 c = τ.1 c) (g0 : ∀ i, i ≠ 2 → i ≠ 51 → τ'.1 0 i = τ.1 0 i) (g2 : τ'.2 = τ.2) (hT : iT σ' τ') (hO : iO σ' τ') : Inv σ' τ' := by
  obtain ⟨i1, i2, i3, i4, T, m, a1, a2, a3, a4, a5, a6, a7⟩ := hI
  have e26 := g 26 (by omega) (by omega) (by omega)
  refine ⟨hT, ?_, hO, fun k hk => by rw [g2]; exact i4 k hk, T, m, a1, zTxC_congr (fun c h1 h2 => h c (by omega) (by omega) (by omega)) a2, TxM_congr (g0 18 (by omega) (by omega)) (fun c h1 h2 => g c (by omega) (by omega) (by omega)) a3, ?_, ?_, ?_, ?_⟩
  · rw [h 0 (by omega) (by omega) (by omega), g0 17 (by omega) (by omega)]; exact i2
  · rw [e26]; exact zRS_cell (fun c h1 h2 => h c (by omega) (by omega) (by omega)) a4
  · rw [e26]; exact a5
  · exact iH_congr (h 36 (by omega) (by omega) (by omega)) (fun c h1 h2 => h c (by omega) (by omega) (by omega)) (g0 47 (by omega) (by omega)) (g 29 (by omega) (by omega) (by omega)) a6
  · exact iL_congr (by rw [h 0 (by omega) (by omega) (by omega)]) (fun c h1 => h c (by omega) (by omega) (by omega)) (g 36 (by omega) (by omega) (by omega)) (g 37 (by omega) (by omega) (by omega)) a7
def zsh (t : Nat) : Int32 := if t = 0 then 24 else if t = 1 then 16 else if t = 2 then 8 else if t = 3 then 0 else -8
theorem zsh_s : ∀ t, t < 4 → zsh t + (-8 : Int32) = zsh (t + 1) ∧ ¬ zsh t < 0 := by decide
theorem zsh_4 : zsh 4 < 0 := by decide
def zbyt (x : Int32) (t : Nat) : Int32 := vp_nar .byte (i2b (x >>> (zsh t &&& 31)))
def zPw (x1 : Int32) : St × Int32 → Option ((St × Int32) ⊕ (St)) :=
  un2 (fun (σ3_1 : St) (x2_3_1 : Int32) => if x2_3_1 < 0 then (some (.inr σ3_1)) else (if (σ3_1.1 2 1) < 0 then (wlet (x2_3_1 + (-8 : Int32)) fun v4 => some (.inl (σ3_1, v4))) else (if (2000 : Int32) ≤ (σ3_1.1 2 1) then (wlet (x2_3_1 + (-8 : Int32)) fun v6 => some (.inl (σ3_1, v6))) else (if ib (σ3_1.1 2 1) 2000 = true then wlet (si σ3_1 3 (Int32.toNatClampNeg (σ3_1.1 2 1)) (vp_nar .byte (i2b (x1 >>> (x2_3_1 &&& 31))))) fun σ8 => wlet (si σ8 2 1 ((σ8.1 2 1) + (1 : Int32))) fun σ9 => wlet (x2_3_1 + (-8 : Int32)) fun v10 => some (.inl (σ9, v10)) else none))))
def zLw (x1 : Int32) : St × Int32 → Option ((St × Int32) ⊕ (St)) :=
  un2 (fun (σ3_1 : St) (x2_3_1 : Int32) => if x2_3_1 < 0 then (some (.inr σ3_1)) else (if ib (σ3_1.1 0 2) 2000 = true then wlet (si σ3_1 1 (Int32.toNatClampNeg (σ3_1.1 0 2)) (vp_nar .byte (i2b (x1 >>> (x2_3_1 &&& 31))))) fun σ4 => wlet (si σ4 0 2 ((σ4.1 0 2) + (1 : Int32))) fun σ5 => wlet (x2_3_1 + (-8 : Int32)) fun v6 => some (.inl (σ5, v6)) else none))
def zTp (k : Nat) (σ τ : St) : Prop := σ.1 2 1 = nI k ∧ τ.1 0 2 = nI k ∧ ∀ i, i < k → σ.1 3 i = τ.1 1 i
def zTf (τ τ' : St) : Prop := (∀ c, c ≠ 0 → c ≠ 1 → τ'.1 c = τ.1 c) ∧ (∀ i, i ≠ 2 → τ'.1 0 i = τ.1 0 i) ∧ τ'.2 = τ.2
theorem zTf_trans {a b c : St} (h : zTf a b) (h' : zTf b c) : zTf a c := ⟨fun k h1 h2 => (h'.1 k h1 h2).trans (h.1 k h1 h2), fun i h1 => (h'.2.1 i h1).trans (h.2.1 i h1), h'.2.2.trans h.2.2⟩
theorem C_put {σ : St} {k : Nat} {x : Int32} (h : σ.1 2 1 = nI k) (hk : k + 4 ≤ 2000) : ∃ σ', fr 2 3 σ σ' ∧ f_X7_putWord σ x = some σ' ∧ σ'.1 2 1 = nI (k + 4) ∧ (∀ i, i < k → σ'.1 3 i = σ.1 3 i) ∧ ∀ j, j < 4 → σ'.1 3 (k + j) = zbyt x j := by
  obtain ⟨s1, q1, r⟩ := zinv (st := zPw x) (s0 := (σ, 24)) (fun t y => fr 2 3 σ y.1 ∧ y.2 = zsh t ∧ y.1.1 2 1 = nI (k + t) ∧ (∀ i, i < k → y.1.1 3 i = σ.1 3 i) ∧ ∀ j, j < t → y.1.1 3 (k + j) = zbyt x j) (fun r => fr 2 3 σ r ∧ r.1 2 1 = nI (k + 4) ∧ (∀ i, i < k → r.1 3 i = σ.1 3 i) ∧ ∀ j, j < 4 → r.1 3 (k + j) = zbyt x j) 4 (by omega) ⟨fr_refl _ _ _, rfl, h, fun _ _ => rfl, fun j hj => absurd hj (Nat.not_lt_zero _)⟩ (by
    rintro t ⟨y, p⟩ ht ⟨h1, h2, h3, h4, h5⟩
    have h2 : p = zsh t := h2
    subst h2
    have h1 : fr 2 3 σ y := h1
    have h3 : y.1 2 1 = nI (k + t) := h3
    have h4 : ∀ i, i < k → y.1 3 i = σ.1 3 i := h4
    have h5 : ∀ j, j < t → y.1 3 (k + j) = zbyt x j := h5
    obtain ⟨z1, z2⟩ := zsh_s t ht
    have n2 : ¬ (2000 : Int32) ≤ nI (k + t) := fun z => by have := (nI_leN (a := 2000) (by omega) (by omega)).mp z; omega
    refine Or.inl ⟨(si (si y 3 (k + t) (zbyt x t)) 2 1 (nI (k + t + 1)), zsh (t + 1)), ?_, fr_trans h1 (fr_trans (fr_si _ _ _ _ (by omega)) (fr_si _ _ _ _ (by omega))), rfl, ?_, fun i hi => ?_, fun j hj => ?_⟩
    · unfold zPw
      dsimp only [un2]
      rw [if_neg z2, h3, if_neg (nI_pos (by omega)), if_neg n2, if_ib (ib_t (show k + t < 2000 by omega) (by omega)), nI_clamp (show k + t < 2 ^ 31 by omega), wlet_eq, wlet_eq, wlet_eq, z1, si_get, if_neg (by omega), h3, nI_succ]
      rfl
    · show (si (si y 3 (k + t) (zbyt x t)) 2 1 (nI (k + t + 1))).1 2 1 = _
      rw [si_get, if_pos ⟨rfl, rfl⟩]
      rfl
    · show (si (si y 3 (k + t) (zbyt x t)) 2 1 (nI (k + t + 1))).1 3 i = _
      rw [si_get, if_neg (by omega), si_get, if_neg (by omega)]; exact h4 i hi
    · show (si (si y 3 (k + t) (zbyt x t)) 2 1 (nI (k + t + 1))).1 3 (k + j) = _
      rw [si_get, if_neg (by omega), si_get]
      by_cases e : j = t
      · rw [if_pos ⟨rfl, by rw [e]⟩, e]
      · rw [if_neg (by omega)]; exact h5 j (by omega)) (by
    rintro ⟨y, p⟩ ⟨h1, h2, h3, h4, h5⟩
    have h2 : p = zsh 4 := h2
    subst h2
    refine ⟨y, ?_, h1, h3, h4, h5⟩
    unfold zPw
    dsimp only [un2]
    rw [if_pos zsh_4])
  refine ⟨s1, r.1, ?_, r.2⟩
  unfold f_X7_putWord
  rw [wlet_eq]
  exact bind_eq q1
theorem M_put {τ : St} {k : Nat} {x : Int32} (h : τ.1 0 2 = nI k) (hk : k + 4 ≤ 2000) : ∃ τ', zTf τ τ' ∧ f_X11_lays τ x = some τ' ∧ τ'.1 0 2 = nI (k + 4) ∧ (∀ i, i < k → τ'.1 1 i = τ.1 1 i) ∧ ∀ j, j < 4 → τ'.1 1 (k + j) = zbyt x j := by
  obtain ⟨s1, q1, r⟩ := zinv (st := zLw x) (s0 := (τ, 24)) (fun t y => zTf τ y.1 ∧ y.2 = zsh t ∧ y.1.1 0 2 = nI (k + t) ∧ (∀ i, i < k → y.1.1 1 i = τ.1 1 i) ∧ ∀ j, j < t → y.1.1 1 (k + j) = zbyt x j) (fun r => zTf τ r ∧ r.1 0 2 = nI (k + 4) ∧ (∀ i, i < k → r.1 1 i = τ.1 1 i) ∧ ∀ j, j < 4 → r.1 1 (k + j) = zbyt x j) 4 (by omega) ⟨⟨fun _ _ _ => rfl, fun _ _ => rfl, rfl⟩, rfl, h, fun _ _ => rfl, fun j hj => absurd hj (Nat.not_lt_zero _)⟩ (by
    rintro t ⟨y, p⟩ ht ⟨h1, h2, h3, h4, h5⟩
    have h2 : p = zsh t := h2
    subst h2
    have h1 : zTf τ y := h1
    have h3 : y.1 0 2 = nI (k + t) := h3
    have h4 : ∀ i, i < k → y.1 1 i = τ.1 1 i := h4
    have h5 : ∀ j, j < t → y.1 1 (k + j) = zbyt x j := h5
    obtain ⟨z1, z2⟩ := zsh_s t ht
    have f1 : zTf y (si (si y 1 (k + t) (zbyt x t)) 0 2 (nI (k + t + 1))) := ⟨fun c c1 c2 => by rw [si_ne c1, si_ne c2], fun i hi => by rw [si_get, if_neg (by omega), si_get, if_neg (by omega)], rfl⟩
    refine Or.inl ⟨(si (si y 1 (k + t) (zbyt x t)) 0 2 (nI (k + t + 1)), zsh (t + 1)), ?_, zTf_trans h1 f1, rfl, ?_, fun i hi => ?_, fun j hj => ?_⟩
    · unfold zLw
      dsimp only [un2]
      rw [if_neg z2, h3, if_ib (ib_t (show k + t < 2000 by omega) (by omega)), nI_clamp (show k + t < 2 ^ 31 by omega), wlet_eq, wlet_eq, wlet_eq, z1, si_get, if_neg (by omega), h3, nI_succ]
      rfl
    · show (si (si y 1 (k + t) (zbyt x t)) 0 2 (nI (k + t + 1))).1 0 2 = _
      rw [si_get, if_pos ⟨rfl, rfl⟩]
      rfl
    · show (si (si y 1 (k + t) (zbyt x t)) 0 2 (nI (k + t + 1))).1 1 i = _
      rw [si_get, if_neg (by omega), si_get, if_neg (by omega)]; exact h4 i hi
    · show (si (si y 1 (k + t) (zbyt x t)) 0 2 (nI (k + t + 1))).1 1 (k + j) = _
      rw [si_get, if_neg (by omega), si_get]
      by_cases e : j = t
      · rw [if_pos ⟨rfl, by rw [e]⟩, e]
      · rw [if_neg (by omega)]; exact h5 j (by omega)) (by
    rintro ⟨y, p⟩ ⟨h1, h2, h3, h4, h5⟩
    have h2 : p = zsh 4 := h2
    subst h2
    refine ⟨y, ?_, h1, h3, h4, h5⟩
    unfold zLw
    dsimp only [un2]
    rw [if_pos zsh_4])
  refine ⟨s1, r.1, ?_, r.2⟩
  unfold f_X11_lays
  rw [wlet_eq]
  exact bind_eq q1
theorem zput {σ τ : St} {k : Nat} (x : Int32) (h : zTp k σ τ) (hk : k + 4 ≤ 2000) : ∃ σ' τ', fr 2 3 σ σ' ∧ zTf τ τ' ∧ f_X7_putWord σ x = some σ' ∧ f_X11_lays τ x = some τ' ∧ zTp (k + 4) σ' τ' := by
  obtain ⟨σ', a1, a2, a3, a4, a5⟩ := C_put (x := x) h.1 hk
  obtain ⟨τ', b1, b2, b3, b4, b5⟩ := M_put (x := x) h.2.1 hk
  refine ⟨σ', τ', a1, b1, a2, b2, a3, b3, fun i hi => ?_⟩
  by_cases q : i < k
  · rw [a4 i q, b4 i q]; exact h.2.2 i q
  · have e : i = k + (i - k) := by omega
    rw [e, a5 (i - k) (by omega), b5 (i - k) (by omega)]
theorem Inv_tape {σ σ' τ τ' : St} {k : Nat} (hI : Inv σ τ) (h : fr 2 3 σ σ') (g : zTf τ τ') (hk : k ≤ 2000) (hT : zTp k σ' τ') : Inv σ' τ' :=
  Inv_to hI (fun c h1 h2 _ => h.1 c (by omega)) (fun c h1 h2 _ => g.1 c h1 h2) (fun i h1 _ => g.2.1 i h1) g.2.2 ⟨k, hk, hT⟩ (iO_congr (by rw [h.1 31 (by omega)]) (fun c hc => h.1 c (by omega)) (g.2.1 51 (by omega)) (fun c hc => g.1 c (by omega) (by omega)) hI.2.2.1)
theorem zdo_feed : sim_feed Inv := by
  intro σ τ hI x1 x2 x3 x4 x5
  obtain ⟨⟨k, k1, k2⟩, -⟩ := id hI
  unfold f_X10_feed f_X11_feed
  rw [k2.1, k2.2.1, show nI k + (20 : Int32) = nI (k + 20) from nI_add' k 20]
  by_cases h : k ≤ 1980
  · obtain ⟨σ1, τ1, a1, a2, a3, a4, a5⟩ := zput x1 k2 (by omega)
    obtain ⟨σ2, τ2, b1, b2, b3, b4, b5⟩ := zput x2 a5 (by omega)
    obtain ⟨σ3, τ3, c1, c2, c3, c4, c5⟩ := zput x3 b5 (by omega)
    obtain ⟨σ4, τ4, d1, d2, d3, d4, d5⟩ := zput x4 c5 (by omega)
    obtain ⟨σ5, τ5, e1, e2, e3, e4, e5⟩ := zput x5 d5 (by omega)
    have w1 : nI k ≤ (1980 : Int32) := (nI_leN (b := 1980) (by omega) (by omega)).mpr h
    have w2 : nI (k + 20) ≤ (2000 : Int32) := (nI_leN (b := 2000) (by omega) (by omega)).mpr (by omega)
    rw [if_pos w1, if_pos w2, bind_eq a3, bind_eq b3, bind_eq c3, bind_eq d3, bind_eq e3, bind_eq a4, bind_eq b4, bind_eq c4, bind_eq d4, bind_eq e4]
    exact ⟨_, _, _, rfl, by rw [e5.1, e5.2.1], Inv_tape hI (fr_trans a1 (fr_trans b1 (fr_trans c1 (fr_trans d1 e1)))) (zTf_trans a2 (zTf_trans b2 (zTf_trans c2 (zTf_trans d2 e2)))) (by omega) e5⟩
  · have w1 : ¬ nI k ≤ (1980 : Int32) := fun z => h ((nI_leN (b := 1980) (by omega) (by omega)).mp z)
    have w2 : ¬ nI (k + 20) ≤ (2000 : Int32) := fun z => by have := (nI_leN (b := 2000) (by omega) (by omega)).mp z; omega
    rw [if_neg w1, if_neg w2]
    exact ⟨_, _, _, rfl, rfl, hI⟩
theorem zdo_back : sim_back Inv := by
  intro σ τ hI x
  obtain ⟨⟨k, k1, k2, k3, k4⟩, -⟩ := id hI
  unfold f_X10_back f_X11_back
  by_cases h : x < 0
  · rw [if_pos h, if_pos h]
    exact ⟨_, _, _, rfl, rfl, hI⟩
  · rw [if_neg h, if_neg h, k2, k3]
    obtain ⟨n, n1, rfl⟩ := i_nat h
    by_cases h2 : n ≤ k
    · rw [if_pos ((nI_leN (by omega) (by omega)).mpr h2), if_pos ((nI_leN (by omega) (by omega)).mpr h2), wlet_eq, wlet_eq, nI_sub h2]
      refine ⟨nI (k - n), si σ 2 1 (nI (k - n)), si τ 0 2 (nI (k - n)), ?_, ?_, Inv_tape (k := k - n) hI (fr_si _ _ _ _ (by omega)) ⟨fun c h1 h2 => si_ne h1, fun i hi => by rw [si_get, if_neg (by omega)], rfl⟩ (by omega) ⟨?_, ?_, fun i hi => ?_⟩⟩
      · rw [si_get, if_pos ⟨rfl, rfl⟩]
      · rw [si_get, if_pos ⟨rfl, rfl⟩]
      · rw [si_get, if_pos ⟨rfl, rfl⟩]
      · rw [si_get, if_pos ⟨rfl, rfl⟩]
      · rw [si_get, if_neg (by omega), si_get, if_neg (by omega)]; exact k4 i (by omega)
    · rw [if_neg (fun z => h2 ((nI_leN (by omega) (by omega)).mp z)), if_neg (fun z => h2 ((nI_leN (by omega) (by omega)).mp z))]
      exact ⟨_, _, _, rfl, rfl, hI⟩
theorem zdo_forget : sim_forget Inv := by
  intro σ τ hI
  obtain ⟨i1, -, ⟨t, t1, t2, t3, t4⟩, -⟩ := id hI
  unfold f_X10_forget f_X11_forget
  rw [wlet_eq, wlet_eq, wlet_eq, wlet_eq]
  refine ⟨_, _, _, rfl, by rw [t2, t3], Inv_to hI (fun c h1 h2 h3 => si_ne (by omega)) (fun c h1 h2 h3 => si_ne h1) (fun i h1 h2 => by rw [si_get, if_neg (by omega)]) rfl (iT_congr (si_ne (by omega)) (si_ne (by omega)) (by rw [si_get, if_neg (by omega)]) (si_ne (by omega)) i1) ⟨0, by omega, ?_, ?_, fun i hi => absurd hi (Nat.not_lt_zero _)⟩⟩
  · rw [si_get, if_pos ⟨rfl, rfl⟩]; rfl
  · rw [si_get, if_pos ⟨rfl, rfl⟩]; rfl
theorem znarZ {x : Int32} (h : x = 0 ∨ x = 1) : vp_nar .boolean x = x := by
  rcases h with rfl | rfl
  · rfl
  · rfl
theorem zdo_tell : sim_tell Inv := by
  intro σ τ hI x y z hz
  obtain ⟨i1, -, ⟨t, t1, t2, t3, t4⟩, -⟩ := id hI
  unfold f_X10_tell f_X11_tell
  rw [t3]
  by_cases h0 : x < 0
  · rw [if_pos h0, bind_eq (zin_l h0), if_pos rfl]
    by_cases q : nI t = (20 : Int32)
    · rw [if_pos q]; exact ⟨_, _, _, rfl, rfl, hI⟩
    · rw [if_neg q]; exact ⟨_, _, _, rfl, rfl, hI⟩
  rw [if_neg h0]
  by_cases h1 : (7 : Int32) ≤ x
  · have h1' : (6 : Int32) < x := Int32.lt_of_lt_of_le (by decide) h1
    rw [if_pos h1, bind_eq (zin_r h1'), if_pos rfl]
    by_cases q : nI t = (20 : Int32)
    · rw [if_pos q]; exact ⟨_, _, _, rfl, rfl, hI⟩
    · rw [if_neg q]; exact ⟨_, _, _, rfl, rfl, hI⟩
  obtain ⟨p, p1, rfl⟩ := i_nat h0
  have p7 : p < 7 := Nat.lt_of_not_le fun w => h1 ((nI_leN (a := 7) (by omega) p1).mpr w)
  rw [if_neg h1, bind_eq (zin_t h0 (fun w => by have := (nI_ltN (a := 6) (by omega) p1).mp w; omega)), if_neg n10]
  by_cases h2 : y < 0
  · rw [if_pos h2, bind_eq (M_isMark_f (Or.inl h2)), if_pos rfl]
    by_cases q : nI t = (20 : Int32)
    · rw [if_pos q]; exact ⟨_, _, _, rfl, rfl, hI⟩
    · rw [if_neg q]; exact ⟨_, _, _, rfl, rfl, hI⟩
  rw [if_neg h2]
  by_cases h3 : y ≤ 999
  · rw [if_pos h3, bind_eq (M_isMark_t h2 (Int32.not_lt.mpr h3)), if_neg n10]
    unfold f_X9_add
    rw [t2, if_neg (nI_pos (by omega))]
    by_cases q : t = 20
    · subst q
      rw [if_pos (show nI 20 = (20 : Int32) from rfl), if_neg (show ¬ nI 20 < (20 : Int32) by decide)]
      exact ⟨_, _, _, rfl, rfl, hI⟩
    · have q1 : ¬ nI t = (20 : Int32) := fun w => q ((nI_eqN (b := 20) (by omega) (by omega)).mp w)
      have q2 : nI t < (20 : Int32) := (nI_ltN (b := 20) (by omega) (by omega)).mpr (by omega)
      have bt : ib (nI t) 20 = true := ib_t (by omega) (by omega)
      have gt : (nI t).toNatClampNeg = t := nI_clamp (by omega)
      have a1 : (si σ 32 t (nI p)).1 31 4 = nI t := by rw [si_get, if_neg (by omega)]; exact t2
      have a2 : (si (si σ 32 t (nI p)) 33 t y).1 31 4 = nI t := by rw [si_get, if_neg (by omega)]; exact a1
      have a3 : (si (si (si σ 32 t (nI p)) 33 t y) 34 t z).1 31 4 = nI t := by rw [si_get, if_neg (by omega)]; exact a2
      have b1 : (si τ 31 t (nI p)).1 0 51 = nI t := by rw [si_get, if_neg (by omega)]; exact t3
      have b2 : (si (si τ 31 t (nI p)) 32 t y).1 0 51 = nI t := by rw [si_get, if_neg (by omega)]; exact b1
      have b3 : (si (si (si τ 31 t (nI p)) 32 t y) 33 t z).1 0 51 = nI t := by rw [si_get, if_neg (by omega)]; exact b2
      rw [if_neg q1, if_pos q2, if_ib bt, wlet_eq, gt, a1, if_ib bt, wlet_eq, gt, a2, if_ib bt, wlet_eq, gt, znarZ hz, wlet_eq, a3, if_ib bt, wlet_eq, b1, if_ib bt, wlet_eq, gt, b2, if_ib bt, wlet_eq, gt, wlet_eq, b3]
      refine ⟨nI t, si (si (si (si σ 32 t (nI p)) 33 t y) 34 t z) 31 4 (nI (t + 1)), si (si (si (si τ 31 t (nI p)) 32 t y) 33 t z) 0 51 (nI (t + 1)), ?_, ?_, ?_⟩
      · rw [← nI_succ, bnd2_eq rfl, si_get, if_pos ⟨rfl, rfl⟩, nI_sub1 (by omega)]
        rfl
      · rw [← nI_succ, si_get, if_pos ⟨rfl, rfl⟩, nI_sub1 (by omega)]
        rfl
      · refine Inv_to hI (fun c c1 c2 c3 => by rw [si_ne (by omega), si_ne (by omega), si_ne (by omega), si_ne (by omega)]) (fun c c1 c2 c3 => by rw [si_ne (by omega), si_ne (by omega), si_ne (by omega), si_ne (by omega)]) (fun i c1 c2 => by rw [si_get, if_neg (by omega), si_ne (by omega), si_ne (by omega), si_ne (by omega)]) rfl (iT_congr (by rw [si_ne (by omega), si_ne (by omega), si_ne (by omega), si_ne (by omega)]) (by rw [si_ne (by omega), si_ne (by omega), si_ne (by omega), si_ne (by omega)]) (by rw [si_get, if_neg (by omega), si_ne (by omega), si_ne (by omega), si_ne (by omega)]) (by rw [si_ne (by omega), si_ne (by omega), si_ne (by omega), si_ne (by omega)]) i1) ⟨t + 1, by omega, ?_, ?_, fun i hi => ?_⟩
        · rw [si_get, if_pos ⟨rfl, rfl⟩]
        · rw [si_get, if_pos ⟨rfl, rfl⟩]
        · by_cases e : i = t
          · subst e
            simp only [si_get]
            simp
            exact ⟨⟨p, p7, rfl⟩, hz⟩
          · obtain ⟨r1, r2, r3, r4, r5⟩ := t4 i (by omega)
            simp only [si_get]
            simp [e]
            exact ⟨r1, r2, r3, r4, r5⟩
  · rw [if_neg h3, bind_eq (M_isMark_f (Or.inr (Int32.not_le.mp h3))), if_pos rfl]
    by_cases q : nI t = (20 : Int32)
    · rw [if_pos q]; exact ⟨_, _, _, rfl, rfl, hI⟩
    · rw [if_neg q]; exact ⟨_, _, _, rfl, rfl, hI⟩
